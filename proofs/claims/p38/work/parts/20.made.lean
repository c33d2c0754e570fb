section
/-! THE CONSTRUCTORS: worlds that grow (ids in the order of making; kinds: 0 int, 1 long, 2 null, r + 3 the object r) -/
abbrev Mc : Type := String × ByteArray × Nat × Nat
def zM : Mem := (fun _ _ => 0, fun _ _ => 0)
def fldC (ad : Nat → Nat) (M : Mem) (a i kd : Nat) : Value := match kd with
  | 0 => .int (M.1 a i)
  | 1 => .long (M.2 a i)
  | 2 => .null
  | r + 3 => .ref (ad r)
def rfC (ad : Nat → Nat) (ds : List Nat) : Nat → Option Nat := fun j => match ds[j]? with
  | some (r + 1) => some (ad r)
  | _ => none
def cellC (ad : Nat → Nat) (dA : Nat → ClassId) (M : Mem) (a : Nat) (q : Nat × List Nat) : va_E :=
  if q.1 < 100 then .inr (q.1, q.2.mapIdx (fun i kd => fldC ad M a i kd))
  else if q.1 < 103 then .inl (dA (q.1 - 100), q.2.headD 0, .inl (M.1 a))
  else if q.1 = 103 then .inl (dA 3, q.2.headD 0, .inr (.inl (M.2 a)))
  else .inl (dA (q.1 - 100), q.2.length, .inr (.inr (.inr (.inr (rfC ad q.2)))))
def layC (ad : Nat → Nat) (dA : Nat → ClassId) (sh : Shp) (M : Mem) : va_W := sh.mapIdx (fun a q => (ad a, cellC ad dA M a q))
def adB (base : Nat) (stt : Nat → Nat) (k : Nat) : Nat := if k < 200 then base + k else stt k
theorem layC_get {ad : Nat → Nat} {dA : Nat → ClassId} {sh : Shp} {M : Mem} {a : Nat} {q : Nat × List Nat} (h : sh[a]? = some q) : (layC ad dA sh M)[a]? = some (ad a, cellC ad dA M a q) := by
  simp [layC, h]
theorem layC_len {ad : Nat → Nat} {dA : Nat → ClassId} {sh : Shp} {M : Mem} : (layC ad dA sh M).length = sh.length := by simp [layC]
theorem layC_app {ad : Nat → Nat} {dA : Nat → ClassId} {sh : Shp} {M : Mem} {q : Nat × List Nat} : layC ad dA (sh ++ [q]) M = layC ad dA sh M ++ [(ad sh.length, cellC ad dA M sh.length q)] := by
  simp [layC, List.mapIdx_append]
theorem layC_D {base : Nat} {stt : Nat → Nat} {dA : Nat → ClassId} {sh : Shp} {M : Mem} (h : sh.length ≤ 200) : va_D (fun q => base ≤ q) (layC (adB base stt) dA sh M) := by
  have key : ∀ (i : Nat) (p : Nat × va_E), (layC (adB base stt) dA sh M)[i]? = some p → i < 200 ∧ p.1 = base + i := by
    intro i p hi
    have hl : i < sh.length := by
      have := (List.getElem?_eq_some_iff.mp hi).1
      rw [layC_len] at this
      exact this
    obtain ⟨q, hq⟩ : ∃ q, sh[i]? = some q := ⟨_, List.getElem?_eq_getElem hl⟩
    rw [layC_get hq] at hi
    cases hi
    refine ⟨by omega, ?_⟩
    show adB base stt i = base + i
    unfold adB
    rw [if_pos (by omega)]
  refine ⟨fun i j p q hi hj he => ?_, fun i p hi => ?_⟩
  · have := key i p hi
    have := key j q hj
    omega
  · have := key i p hi
    show base ≤ p.1
    omega
theorem cellC_off {ad : Nat → Nat} {dA : Nat → ClassId} {M M' : Mem} {a : Nat} {q : Nat × List Nat} (h1 : M'.1 a = M.1 a) (h2 : M'.2 a = M.2 a) : cellC ad dA M' a q = cellC ad dA M a q := by
  have h : q.2.mapIdx (fun i kd => fldC ad M' a i kd) = q.2.mapIdx (fun i kd => fldC ad M a i kd) := by
    congr 1
    funext i kd
    match kd with
    | 0 => simp [fldC, h1]
    | 1 => simp [fldC, h2]
    | 2 => rfl
    | r + 3 => rfl
  unfold cellC
  rw [h, h1, h2]
theorem layC_set {ad : Nat → Nat} {dA : Nat → ClassId} {sh : Shp} {M M' : Mem} {a : Nat} {q : Nat × List Nat} {x : va_E} (hl : a < sh.length) (hx : x = cellC ad dA M' a q) (ho : ∀ j, j ≠ a → M'.1 j = M.1 j ∧ M'.2 j = M.2 j) : (layC ad dA sh M).set a (ad a, x) = layC ad dA (sh.set a q) M' := by
  apply List.ext_getElem?
  intro j
  rw [List.getElem?_set]
  by_cases e : a = j
  · subst e
    rw [if_pos rfl, if_pos (by rw [layC_len]; exact hl), hx, layC_get (by rw [List.getElem?_set, if_pos rfl, if_pos hl])]
  · rw [if_neg e]
    cases hq : sh[j]? with
    | none => simp [layC, hq, List.getElem?_set, e]
    | some q2 => rw [layC_get hq, layC_get (q := q2) (by rw [List.getElem?_set, if_neg e]; exact hq), cellC_off (ho j (fun e2 => e e2.symm)).1 (ho j (fun e2 => e e2.symm)).2]
theorem objC_get {ad : Nat → Nat} {M : Mem} {a k kd : Nat} {ds : List Nat} (h : ds[k]? = some kd) : (ds.mapIdx (fun i kd => fldC ad M a i kd))[k]? = some (fldC ad M a k kd) := by
  simp [h]
theorem objC_set {ad : Nat → Nat} {M M' : Mem} {a k kd : Nat} {ds : List Nat} {v : Value} (hl : k < ds.length) (hv : fldC ad M' a k kd = v) (ho : ∀ j kd2, j ≠ k → fldC ad M' a j kd2 = fldC ad M a j kd2) : (ds.mapIdx (fun i kd => fldC ad M a i kd)).set k v = (ds.set k kd).mapIdx (fun i kd => fldC ad M' a i kd) := by
  apply List.ext_getElem?
  intro j
  rw [List.getElem?_set]
  by_cases e : k = j
  · subst e
    rw [if_pos rfl, if_pos (by rw [List.length_mapIdx]; exact hl), objC_get (kd := kd) (by rw [List.getElem?_set, if_pos rfl, if_pos hl]), hv]
  · rw [if_neg e]
    cases hq : ds[j]? with
    | none => simp [hq, List.getElem?_set, e]
    | some q2 => rw [objC_get hq, objC_get (kd := q2) (by rw [List.getElem?_set, if_neg e]; exact hq), ho j q2 (fun e2 => e e2.symm)]
theorem vpV_fld {ad : Nat → Nat} {M : Mem} {a : Nat} {ds : List Nat} {j kd : Nat} (h : ds[j]? = some kd) : vp_V (ds.mapIdx (fun i kd => fldC ad M a i kd)) j = fldC ad M a j kd := by
  unfold vp_V
  rw [List.getD_eq_getElem?_getD, List.getElem?_mapIdx, h]
  rfl
def nestI : List (String × Nat × MethodName) := [("ShakeHands", 9, y_Tape_init), ("ShakeHands$Teller", 11, y_Circle_init), ("ShakeHands$Circle", 30, y_Row_init), ("ShakeHands$Teller", 24, y_Row_init), ("ShakeHands", 27, y_Circle_init), ("ShakeHands", 34, y_Minds_init), ("ShakeHands", 65, y_Sheet_init)]
theorem idx_b (vm : Vm) (f : Class → Bool) (hf : ∀ x y : Class, x.kind = y.kind → f x = f y) : vm.bare.classes.findIdx? f = vm.classes.findIdx? f := by
  simp only [Vm.bare, Array.findIdx?_map]
  congr 1
  funext x
  exact hf _ _ rfl
def AOA (U : State) : Prop := (Cond.arrayOver (.array .long)).before #[] U = true
theorem AOA.moved {u U : State} (hvm : u.vm.Alike U.vm) (h : AOA u) : AOA U := by
  obtain ⟨comp, c, k, h1, h2, h3, h4, h5⟩ := arrayOverA_spec h
  obtain ⟨k', hk', he⟩ := hvm.2.2 _ _ h3
  have hi := (idx_b u.vm _ (fun x y h => by rw [h])).trans h2
  first | rw [hvm.bare_eq] at hi | rw [← hvm.bare_eq] at hi
  have hi := (idx_b U.vm _ (fun x y h => by rw [h])).symm.trans hi
  have hkind : k'.kind = .array comp (.array .long) := by rw [he]; exact h4
  have f1 : U.vm.findClass (FieldType.array .long).toString = some comp := by rw [hvm.findClass]; exact h1
  have f2 : U.vm.findClass ("[" ++ (FieldType.array .long).toString) = some c := by rw [hvm.findClass]; exact h5
  unfold AOA Cond.before Cond.holds
  simp only [Cond.value]
  rw [f1, Option.bind_some]
  refine (congrArg (fun o : Option Nat => (o.bind (fun c => (U.vm.classes[c]?).map fun (k : Class) => match k.kind with | .array _ ty => decide (ty = FieldType.array .long) && decide (U.vm.findClass ("[" ++ (FieldType.array .long).toString) = some c) | _ => false) == some true)) hi).trans ?_
  simp [hk', hkind, f2]
def KC (D : va_G) (base : Nat) (stt : Nat → Nat) (dA : Nat → ClassId) (U : State) (H : Heap) : Prop := va_K D cl (tysOf dA) U ∧ (∀ q ∈ nestI, va_Nw (.methodLinkNest q.1 q.2.1 q.2.2 "ShakeHands") U) ∧ va_AO "ShakeHands$Minds" U ∧ va_AO "ShakeHands$Sheet" U ∧ AOA U ∧ Cx D (adB base stt) dA (fun q => base ≤ q) U H
theorem KC.next {D : va_G} {base : Nat} {stt : Nat → Nat} {dA : Nat → ClassId} {s U : State} {H : Heap} {locs : List Loc} (h : KC D base stt dA s s.heap) (hS : va_S (fun q => base ≤ q) s.heap H locs) (hW : s.WarmedH U.vm) : KC D base stt dA U H := ⟨va_K.moved hW.alike h.1, fun q hq => va_Nw.warmM hW (h.2.1 q hq), va_AO.moved hW.alike h.2.2.1, va_AO.moved hW.alike h.2.2.2.1, AOA.moved hW.alike h.2.2.2.2.1, h.2.2.2.2.2.next hS hW⟩
theorem KC.blind {D : va_G} {base : Nat} {stt : Nat → Nat} {dA : Nat → ClassId} {U : State} {g : JFrame} {mk : MethodId} {a : Array Value} (h : KC D base stt dA U U.heap) : KC D base stt dA (U.calling g mk a) (U.calling g mk a).heap := ⟨va_K.moved (u := U) (U := U.calling g mk a) (Vm.Alike.refl U.vm) h.1, fun q hq => va_Nw.same (u := U) rfl rfl (h.2.1 q hq), va_AO.moved (u := U) (Vm.Alike.refl U.vm) h.2.2.1, va_AO.moved (u := U) (Vm.Alike.refl U.vm) h.2.2.2.1, AOA.moved (u := U) (Vm.Alike.refl U.vm) h.2.2.2.2.1, h.2.2.2.2.2.blind⟩
def HC (mt : Mc) (p : Program) (s : State) (m : MethodId) (args : Array Value) (meth : Method) (c : Code) (D : va_G) (base : Nat) (stt : Nat → Nat) (dA : Nat → ClassId) : Prop :=
  p.tables.exec = Jvm.exec ∧ c.code = mt.2.1 ∧ meth.sig.returnType = none ∧ c.maxLocals = mt.2.2.1 ∧ s.vm.findClass mt.1 = some m.cls ∧ (∀ w ∈ tbl, w.before args s = true) ∧ meth.locks = false ∧ meth.name = "<init>" ∧ KC D base stt dA s s.heap
abbrev PostT : Type := va_G → Nat → (Nat → Nat) → (Nat → ClassId) → State → Prop
def PC (sh : Shp) (M : Mem) : PostT := fun D base stt dA t => va_P D cl (layC (adB base stt) dA sh M) t.heap ∧ t.heap.size = base + sh.length
def PJ (sh : Shp) (M : Mem) : PostT := fun D base stt dA t => Wd D (adB base stt) dA (fun q => base ≤ q) sh M t.heap
def JC (mt : Mc) (pc : Nat) (lv : List (Nat × Value)) (st : List Value) (sh : Shp) (M : Mem) (k n : Nat) (P9 : PostT) (mc ms : Nat) : Prop :=
  ∀ (p : Program) (l : Launch) (e : Env) (s : State) (m : MethodId) (args : Array Value) (below : List Frame) (meth : Method) (c : Code) (D : va_G) (base : Nat) (stt : Nat → Nat) (dA : Nat → ClassId), HC mt p s m args meth c D base stt dA →
    ∀ (H : Heap) (locs : List Loc) (ls : Array Slot), va_P D cl (layC (adB base stt) dA sh M) H → H.size = base + sh.length → va_S (fun q => base ≤ q) s.heap H locs → base ≤ s.heap.size → lv_has ls mt.2.2.1 (lv.map (rvp (adB base stt))) →
      W p l e (rmc mt.2.2.2 mc ms) s m args below meth c H locs k n (MQ below (Qr none (P9 D base stt dA) (fun q => base ≤ q)) args s mc ms (fun q => base ≤ q)) (F0 m pc ls (st.map (rv (adB base stt))))
def CtC (y : MethodName) (mt : Mc) (as : List Value) (sh : Shp) (M : Mem) (P9 : PostT) (mc ms : Nat) : Prop :=
  ∀ (l : Launch) (D : va_G) (base : Nat) (stt : Nat → Nat) (dA : Nat → ClassId),
    Met l y (.code y mt.2.1 mt.2.2.1 none :: tbl) (rmc mt.2.2.2 mc ms) (va_Pc (as.map (rv (adB base stt))) (fun U => va_P D cl (layC (adB base stt) dA sh M) U.heap ∧ U.heap.size = base + sh.length ∧ KC D base stt dA U U.heap)) (Qr none (P9 D base stt dA) (fun q => base ≤ q)) mc ms (fun q => base ≤ q)
theorem ctc_of {y : MethodName} {mt : Mc} {as : List Value} {sh : Shp} {M : Mem} {P9 : PostT} {mc ms : Nat} (hy : plainName y.cls = true) (hn : y.cls = mt.1) (hni : y.name = "<init>") (hl : (lg_sl as).length ≤ mt.2.2.1) (hJ : JC mt 0 (lv_args 0 as) [] sh M 0 0 P9 mc ms) : CtC y mt as sh M P9 mc ms := by
  intro l D base stt dA
  refine Met.ofW (cc := mt.2.1) (maxL := mt.2.2.1) (ret := none) hy rfl ?_
  intro p e s m args below meth c s₁ B hml hv
  obtain ⟨rfl, hP, hz, hC⟩ := hv
  have hts := atoms_spec (ws := .code y mt.2.1 mt.2.2.1 none :: tbl) B.pre
  have hown : s.vm.findClass y.cls = some m.cls := findClass_of_methodNamed B.named
  have hS : va_S (fun q => base ≤ q) s.heap s.heap [] := va_S.rf
  have hin : meth.name = "<init>" := (name_of_methodNamed B.named B.method).1.trans hni
  have hls := lv_entry (as.map (rv (adB base stt))) (n := mt.2.2.1) (by rw [lvp_sl]; exact hl)
  rw [lg_entry_eq]
  rw [lvp_args] at hls
  exact hJ p l e s m _ below meth c D base stt dA ⟨B.exec, B.bytes, B.returns, hml, by rw [← hn]; exact hown, fun w h => hts w (List.mem_cons_of_mem _ h), B.notSynchronized, hin, hC⟩ s.heap [] _ hP hz hS (by omega) hls
section WCC
variable {p : Program} {l : Launch} {e : Env} {R : Room} {s : State} {m : MethodId} {args : Array Value} {below : List Frame} {meth : Method} {c : Code} {H : Heap} {locs : List Loc} {cells slots mc ms : Nat} {Q : State → Prop} {pc : Nat} {ls : Array Slot} {rest st0 : List Value} {a : Array Value} {A : Nat → Prop}
theorem wr_callC {wv : Option Value} {Post : State → Prop} (hr : va_Run p l e R s m args below meth c H locs cells slots mc ms (F0 m pc ls st0) rest (Qr wv Post A a) A) (hS : va_S A s.heap H locs)
    (kk : ∀ (t : State) (H1 : Heap) (locs1 : List Loc), t.heap = H1 → Post t → va_S A s.heap H1 locs1 → W p l e R s m args below meth c H1 locs1 (cells + mc) (slots + ms) Q (F0 m (pc + 3) ls (wv.toList ++ rest))) : W p l e R s m args below meth c H locs cells slots Q (F0 m pc ls st0) := by
  intro T hT X
  obtain ⟨v, st₀, t, T', L, h0, X', hL, e1, e2, ⟨hv, hp, hz, hk⟩, st⟩ := hr T hT X
  cases hv
  rw [h0] at hz hk
  obtain ⟨t2, a1, b1⟩ := kk t T'.heap (locs ++ L) e1.symm hp
    ⟨Nat.le_trans hS.1 (by rw [e1]; exact hz), fun q h1 h2 => by rw [e1, hk q (Nat.lt_of_lt_of_le h1 hS.1) h2]; exact hS.2.1 q h1 h2, fun q hq => by
      rcases List.mem_append.mp hq with h | h
      · exact hS.2.2 q h
      · exact hL q h⟩ T' rfl X'
  exact ⟨t2, st t2 a1, b1⟩
end WCC
theorem oi_im : Cond.instanceMethod objectInit ∈ tbl := tb_1 24 (by decide +kernel) rfl
theorem oi_cd : Cond.code objectInit ⟨#[0xb1]⟩ 1 none ∈ tbl := tb_1 25 (by decide +kernel) rfl
abbrev va_E_inl (c : ClassId) (n : Nat) (f : (Nat → Int32) ⊕ (Nat → Int64) ⊕ (Nat → UInt32) ⊕ (Nat → UInt64) ⊕ (Nat → Option Nat)) : va_E := .inl (c, n, f)
theorem c_dup {mt : Mc} {pc : Nat} {lv : List (Nat × Value)} {st : List Value} {sh : Shp} {M : Mem} {P9 : PostT} {k n mc ms : Nat} {v : Value} (hd : decode mt.2.1 pc = .ok (.dup, 1)) (hv : v.category = 1) (K : JC mt (pc + 1) lv (v :: v :: st) sh M k n P9 mc ms) : JC mt pc lv (v :: st) sh M k n P9 mc ms := by
  intro p l e s m args below meth c D base stt dA hp H locs ls hP hz hS hbs hl
  obtain ⟨hx, hb, hr, hml, hown, hts, hlk, hin, hK, hNi, hOM, hOS, hOL, hCx⟩ := id hp
  exact lv_dup hx hb hd ((rv_cat _ v).trans hv) (K p l e s m args below meth c D base stt dA hp H locs ls hP hz hS hbs hl)
theorem c_iconst {mt : Mc} {pc : Nat} {lv : List (Nat × Value)} {st : List Value} {sh : Shp} {M : Mem} {P9 : PostT} {k n mc ms : Nat} {i : Int} {v : Int32} (hd : decode mt.2.1 pc = .ok (.iconst i, 1)) (hv : Int32.ofInt i = v) (K : JC mt (pc + 1) lv (.int v :: st) sh M k n P9 mc ms) : JC mt pc lv st sh M k n P9 mc ms := by
  intro p l e s m args below meth c D base stt dA hp H locs ls hP hz hS hbs hl
  obtain ⟨hx, hb, hr, hml, hown, hts, hlk, hin, hK, hNi, hOM, hOS, hOL, hCx⟩ := id hp
  exact lv_iconst hx hb hd hv (K p l e s m args below meth c D base stt dA hp H locs ls hP hz hS hbs hl)
theorem c_bipush {mt : Mc} {pc : Nat} {lv : List (Nat × Value)} {st : List Value} {sh : Shp} {M : Mem} {P9 : PostT} {k n mc ms : Nat} {i : Int} {v : Int32} (hd : decode mt.2.1 pc = .ok (.bipush i, 2)) (hv : (Int8.ofInt i).toInt32 = v) (K : JC mt (pc + 2) lv (.int v :: st) sh M k n P9 mc ms) : JC mt pc lv st sh M k n P9 mc ms := by
  intro p l e s m args below meth c D base stt dA hp H locs ls hP hz hS hbs hl
  obtain ⟨hx, hb, hr, hml, hown, hts, hlk, hin, hK, hNi, hOM, hOS, hOL, hCx⟩ := id hp
  exact lv_bipush hx hb hd hv (K p l e s m args below meth c D base stt dA hp H locs ls hP hz hS hbs hl)
theorem c_sipush {mt : Mc} {pc : Nat} {lv : List (Nat × Value)} {st : List Value} {sh : Shp} {M : Mem} {P9 : PostT} {k n mc ms : Nat} {i : Int} {v : Int32} (hd : decode mt.2.1 pc = .ok (.sipush i, 3)) (hv : (Int16.ofInt i).toInt32 = v) (K : JC mt (pc + 3) lv (.int v :: st) sh M k n P9 mc ms) : JC mt pc lv st sh M k n P9 mc ms := by
  intro p l e s m args below meth c D base stt dA hp H locs ls hP hz hS hbs hl
  obtain ⟨hx, hb, hr, hml, hown, hts, hlk, hin, hK, hNi, hOM, hOS, hOL, hCx⟩ := id hp
  exact lv_sipush hx hb hd hv (K p l e s m args below meth c D base stt dA hp H locs ls hP hz hS hbs hl)
theorem c_iload_n {mt : Mc} {pc : Nat} {lv : List (Nat × Value)} {st : List Value} {sh : Shp} {M : Mem} {P9 : PostT} {k n mc ms : Nat} {j : Fin 4} {i q : Nat} {x : Int32} (hd : decode mt.2.1 pc = .ok (.iload_n j, 1)) (hi : (j : Nat) = i) (hq : lv[q]? = some (i, .int x)) (K : JC mt (pc + 1) lv (.int x :: st) sh M k n P9 mc ms) : JC mt pc lv st sh M k n P9 mc ms := by
  intro p l e s m args below meth c D base stt dA hp H locs ls hP hz hS hbs hl
  obtain ⟨hx, hb, hr, hml, hown, hts, hlk, hin, hK, hNi, hOM, hOS, hOL, hCx⟩ := id hp
  exact lv_iload_n hx hb hd hi (lv_at hl q (lvp_get hq)) (K p l e s m args below meth c D base stt dA hp H locs ls hP hz hS hbs hl)
theorem c_aload_n {mt : Mc} {pc : Nat} {lv : List (Nat × Value)} {st : List Value} {sh : Shp} {M : Mem} {P9 : PostT} {k n mc ms : Nat} {j : Fin 4} {i q : Nat} {x : Nat} (hd : decode mt.2.1 pc = .ok (.aload_n j, 1)) (hi : (j : Nat) = i) (hq : lv[q]? = some (i, .ref x)) (K : JC mt (pc + 1) lv (.ref x :: st) sh M k n P9 mc ms) : JC mt pc lv st sh M k n P9 mc ms := by
  intro p l e s m args below meth c D base stt dA hp H locs ls hP hz hS hbs hl
  obtain ⟨hx, hb, hr, hml, hown, hts, hlk, hin, hK, hNi, hOM, hOS, hOL, hCx⟩ := id hp
  exact lv_aload_n hx hb hd hi (lv_at hl q (lvp_get hq)) (K p l e s m args below meth c D base stt dA hp H locs ls hP hz hS hbs hl)
theorem c_istore_n {mt : Mc} {pc : Nat} {lv : List (Nat × Value)} {st : List Value} {sh : Shp} {M : Mem} {P9 : PostT} {k n mc ms : Nat} {j : Fin 4} {i : Nat} {x : Int32} {lv' : List (Nat × Value)} (hd : decode mt.2.1 pc = .ok (.istore_n j, 1)) (hi : (j : Nat) = i) (hn : i < mt.2.2.1) (h : (i, Value.int x) :: lv.filter (fun q => !(q.1 == i) && !(q.1 + 1 == i && q.2.category == 2)) = lv') (K : JC mt (pc + 1) lv' st sh M k n P9 mc ms) : JC mt pc lv (.int x :: st) sh M k n P9 mc ms := by
  intro p l e s m args below meth c D base stt dA hp H locs ls hP hz hS hbs hl
  obtain ⟨hx, hb, hr, hml, hown, hts, hlk, hin, hK, hNi, hOM, hOS, hOL, hCx⟩ := id hp
  exact lv_istore_n hx hb hd hi hl hn (lvp_filter h) (fun ls2 hl2 => K p l e s m args below meth c D base stt dA hp H locs ls2 hP hz hS hbs hl2)
theorem c_iinc {mt : Mc} {pc : Nat} {lv : List (Nat × Value)} {st : List Value} {sh : Shp} {M : Mem} {P9 : PostT} {k n mc ms : Nat} {i q : Nat} {a : Int} {x v : Int32} {lv' : List (Nat × Value)} (hd : decode mt.2.1 pc = .ok (.iinc i a, 3)) (hq : lv[q]? = some (i, .int x)) (hv : x + Int32.ofInt a = v) (hn : i < mt.2.2.1) (h : (i, Value.int v) :: lv.filter (fun q => !(q.1 == i) && !(q.1 + 1 == i && q.2.category == 2)) = lv') (K : JC mt (pc + 3) lv' st sh M k n P9 mc ms) : JC mt pc lv st sh M k n P9 mc ms := by
  intro p l e s m args below meth c D base stt dA hp H locs ls hP hz hS hbs hl
  obtain ⟨hx, hb, hr, hml, hown, hts, hlk, hin, hK, hNi, hOM, hOS, hOL, hCx⟩ := id hp
  exact lv_iinc hx hb hd hl (lvp_get hq) hv hn (lvp_filter h) (fun ls2 hl2 => K p l e s m args below meth c D base stt dA hp H locs ls2 hP hz hS hbs hl2)
theorem c_goto {mt : Mc} {pc : Nat} {lv : List (Nat × Value)} {st : List Value} {sh : Shp} {M : Mem} {P9 : PostT} {k n mc ms : Nat} {off : Int} {tgt : Nat} (hd : decode mt.2.1 pc = .ok (.goto off, 3)) (ht : (pc : Int) + off = (tgt : Int)) (K : JC mt tgt lv st sh M k n P9 mc ms) : JC mt pc lv st sh M k n P9 mc ms := by
  intro p l e s m args below meth c D base stt dA hp H locs ls hP hz hS hbs hl
  obtain ⟨hx, hb, hr, hml, hown, hts, hlk, hin, hK, hNi, hOM, hOS, hOL, hCx⟩ := id hp
  exact lv_goto hx hb hd ht (K p l e s m args below meth c D base stt dA hp H locs ls hP hz hS hbs hl)
theorem c_ge_t {mt : Mc} {pc : Nat} {lv : List (Nat × Value)} {st : List Value} {sh : Shp} {M : Mem} {P9 : PostT} {k n mc ms : Nat} {x y : Int32} {off : Int} {tgt : Nat} (hd : decode mt.2.1 pc = .ok (.if_icmp .ge off, 3)) (ht : (pc : Int) + off = (tgt : Int)) (hc : y ≤ x) (K : JC mt tgt lv st sh M k n P9 mc ms) : JC mt pc lv (.int y :: .int x :: st) sh M k n P9 mc ms := by
  intro p l e s m args below meth c D base stt dA hp H locs ls hP hz hS hbs hl
  obtain ⟨hx, hb, hr, hml, hown, hts, hlk, hin, hK, hNi, hOM, hOS, hOL, hCx⟩ := id hp
  exact lv_icmp_ge hx hb hd ht (fun _ => (K p l e s m args below meth c D base stt dA hp H locs ls hP hz hS hbs hl)) (fun h => absurd hc h)
theorem c_ge_f {mt : Mc} {pc : Nat} {lv : List (Nat × Value)} {st : List Value} {sh : Shp} {M : Mem} {P9 : PostT} {k n mc ms : Nat} {x y : Int32} {off : Int} {tgt : Nat} (hd : decode mt.2.1 pc = .ok (.if_icmp .ge off, 3)) (ht : (pc : Int) + off = (tgt : Int)) (hc : ¬ y ≤ x) (K : JC mt (pc + 3) lv st sh M k n P9 mc ms) : JC mt pc lv (.int y :: .int x :: st) sh M k n P9 mc ms := by
  intro p l e s m args below meth c D base stt dA hp H locs ls hP hz hS hbs hl
  obtain ⟨hx, hb, hr, hml, hown, hts, hlk, hin, hK, hNi, hOM, hOS, hOL, hCx⟩ := id hp
  exact lv_icmp_ge hx hb hd ht (fun h => absurd h hc) (fun _ => (K p l e s m args below meth c D base stt dA hp H locs ls hP hz hS hbs hl))
theorem c_objInit {mt : Mc} {pc : Nat} {lv : List (Nat × Value)} {st : List Value} {sh : Shp} {M : Mem} {P9 : PostT} {k n mc ms : Nat} {a i : Nat} (hd : decode mt.2.1 pc = .ok (.invokespecial i, 3)) (hw : Cond.methodLink mt.1 i objectInit ∈ tbl) (hdp : 1 ≤ mt.2.2.2) (hst : (st.map fun v => v.category).sum ≤ 8) (K : JC mt (pc + 3) lv st sh M k n P9 mc ms) : JC mt pc lv (.ref a :: st) sh M k n P9 mc ms := by
  intro p l e s m args below meth c D base stt dA hp H locs ls hP hz hS hbs hl
  obtain ⟨hx, hb, hr, hml, hown, hts, hlk, hin, hK, hNi, hOM, hOS, hOL, hCx⟩ := id hp
  refine W.objInit hx hb hown (hts _ hw) (hts _ oi_im) (hts _ oi_cd) rfl (hl.1.trans hml.symm) rfl hd hdp ?_ (K p l e s m args below meth c D base stt dA hp H locs ls hP hz hS hbs hl)
  have : ((st.map (rv (adB base stt))).map fun v => v.category).sum ≤ 8 := by rw [rv_cats]; exact hst
  show 2 * 0 + _ + 12 ≤ 64 * mt.2.2.2
  omega
theorem c_getA {mt : Mc} {pc : Nat} {lv : List (Nat × Value)} {st : List Value} {sh : Shp} {M : Mem} {P9 : PostT} {k n mc ms : Nat} {a b ci f idx : Nat} {ds : List Nat} {ty : FieldType} {fin : Bool} (hd : decode mt.2.1 pc = .ok (.getfield idx, 3)) (hf : Fl mt.1 idx ci f ty fin) (hs : sh[a]? = some (ci, ds)) (hc : ci < 100) (hk : ds[f]? = some (b + 3)) (K : JC mt (pc + 3) lv (.ref b :: st) sh M k n P9 mc ms) : JC mt pc lv (.ref a :: st) sh M k n P9 mc ms := by
  intro p l e s m args below meth c D base stt dA hp H locs ls hP hz hS hbs hl
  obtain ⟨hx, hb, hr, hml, hown, hts, hlk, hin, hK, hNi, hOM, hOS, hOL, hCx⟩ := id hp
  obtain ⟨C, T, N, ty0, e1, e2, e3, e4, e5, e6, e7, e8, e9⟩ := hf
  have he : (layC (adB base stt) dA sh M)[a]? = some (adB base stt a, .inr (ci, ds.mapIdx (fun i kd => fldC (adB base stt) M a i kd))) := by rw [layC_get hs]; simp [cellC, hc]
  exact va_get (D := (D.1, D.2)) hx hb hts e3 hown hK hP a he e1 f e2 (hts _ e4) (fun x h => by rw [e5] at h; exact h) (objC_get hk) hd (K p l e s m args below meth c D base stt dA hp H locs ls hP hz hS hbs hl)
theorem c_putR {mt : Mc} {pc : Nat} {lv : List (Nat × Value)} {st : List Value} {sh : Shp} {M : Mem} {P9 : PostT} {k n mc ms : Nat} {a b ci f idx : Nat} {ds : List Nat} {ty : FieldType} (hd : decode mt.2.1 pc = .ok (.putfield idx, 3)) (hf : Fl mt.1 idx ci f ty true) (hnf : ty.isReference = true) (hs : sh[a]? = some (ci, ds)) (hc : ci < 100) (hkl : f < ds.length) (h200 : sh.length ≤ 200) (hcn : ∀ (C : String) (T : u_T) (N : Nat), cl[ci]? = some (C, T, N) → (T f).1 = mt.1) {sh8 : Shp} (hs8 : sh.set a (ci, ds.set f (b + 3)) = sh8) (K : JC mt (pc + 3) lv st sh8 M k n P9 mc ms) : JC mt pc lv (.ref b :: .ref a :: st) sh M k n P9 mc ms := by
  subst hs8
  intro p l e s m args below meth c D base stt dA hp H locs ls hP hz hS hbs hl
  obtain ⟨hx, hb, hr, hml, hown, hts, hlk, hin, hK, hNi, hOM, hOS, hOL, hCx⟩ := id hp
  obtain ⟨C, T, N, ty0, e1, e2, e3, e4, e5, e6, e7, e8, e9⟩ := hf
  have he : (layC (adB base stt) dA sh M)[a]? = some (adB base stt a, .inr (ci, ds.mapIdx (fun i kd => fldC (adB base stt) M a i kd))) := by rw [layC_get hs]; simp [cellC, hc]
  have hD := layC_D (base := base) (stt := stt) (dA := dA) (sh := sh) (M := M) h200
  have hl9 : a < sh.length := (List.getElem?_eq_some_iff.mp hs).1
  have hset : (layC (adB base stt) dA sh M).set a (adB base stt a, .inr (ci, (ds.mapIdx (fun i kd => fldC (adB base stt) M a i kd)).set f (.ref (adB base stt b)))) = layC (adB base stt) dA (sh.set a (ci, ds.set f (b + 3))) M := by
    refine layC_set hl9 ?_ (fun j hj => ⟨rfl, rfl⟩)
    rw [objC_set (M' := M) (v := .ref (adB base stt b)) (kd := b + 3) hkl rfl (fun j kd2 hj => rfl)]
    simp [cellC, hc]
  have hap := va_apart (own := mt.1) hts e3 ty0 e6 e7 hK e1
  obtain ⟨r, g1, cell, q1, q2, q3, q4⟩ := hP a _ he
  have hr9 : r = (C, T, N) := Option.some.inj (g1.symm.trans e1)
  subst hr9
  obtain ⟨hSl, hfc, kC, hkC, hkind⟩ := hK.1 ci _ e1
  obtain ⟨cf, kf, fi, fd, hi, hsl⟩ := hSl f e2
  have hlay := hts _ (e3 _ (u_in_lay e2))
  unfold u_lay at hlay
  rw [if_pos e9] at hlay
  have hst := (u_facts hfc hkC (u_lays hts e3 e2) hi).1
  have hcf : m.cls = cf := by
    obtain ⟨_, _, c', _, _, _, -, -, hf', -, -, -, hown2, -⟩ := Cond.laysFinal_spec hlay
    have z1 : c' = cf := by have := hi.symm.trans hf'; simp at this; exact this.1.symm
    rw [hcn _ _ _ e1] at hown2
    rw [← z1]; exact Option.some.inj (hown.symm.trans hown2)
  have hn9 : narrow ty (.ref (adB base stt b)) = .ref (adB base stt b) := by cases ty <;> rfl
  have hf9 : fits ty (.ref (adB base stt b)) = true := by cases ty <;> first | rfl | (simp [FieldType.isReference] at hnf)
  have h6 := u_fits hfc hkC hkind (Or.inr hlay) hi e8 hn9 hf9
  have hsame : s.fieldFound? C (T f).2.1 (T f).2.2.1 = some (cf, kf, fi, fd) := by rw [e5] at hi; exact hi
  refine W.putFinK hx hb hown (hts _ e4) hsame hst hcf hin (by rw [q2]; exact h6) q1 q3 (by rw [hsl]; exact k2_hasslot (q4 f e2)) rfl rfl hd fun H' x1 x2 x3 => ?_
  rw [hsl] at x1 ⊢
  have hP1 : va_P D cl ((layC (adB base stt) dA sh M).set a (adB base stt a, .inr (ci, (ds.mapIdx (fun i kd => fldC (adB base stt) M a i kd)).set f (.ref (adB base stt b))))) H' := hP.set hD he ⟨_, e1, t_OB.to (V := updV (vp_V _) f (.ref (adB base stt b))) ⟨_, x1, q2, q3, t_set q4 hap e2 (.ref (adB base stt b))⟩ (fun j _ => vp_updV_set (by rw [List.length_mapIdx]; exact hkl) (.ref (adB base stt b)) j)⟩ x3
  rw [hset] at hP1
  exact K p l e s m args below meth c D base stt dA hp H' _ ls hP1 (by rw [x2, hz, List.length_set]) (hS.put x2 x3 (hD.2 a _ he)) hbs hl
theorem c_putI {mt : Mc} {pc : Nat} {lv : List (Nat × Value)} {st : List Value} {sh : Shp} {M : Mem} {P9 : PostT} {k n mc ms : Nat} {a ci f idx : Nat} {ds : List Nat} {v : Int32} (hd : decode mt.2.1 pc = .ok (.putfield idx, 3)) (hf : Fl mt.1 idx ci f .int false) (hs : sh[a]? = some (ci, ds)) (hc : ci < 100) (hkl : f < ds.length) (hk0 : ds[f]? = some 0) (h200 : sh.length ≤ 200) (K : JC mt (pc + 3) lv st sh (si M a f v) k n P9 mc ms) : JC mt pc lv (.int v :: .ref a :: st) sh M k n P9 mc ms := by
  intro p l e s m args below meth c D base stt dA hp H locs ls hP hz hS hbs hl
  obtain ⟨hx, hb, hr, hml, hown, hts, hlk, hin, hK, hNi, hOM, hOS, hOL, hCx⟩ := id hp
  obtain ⟨C, T, N, ty0, e1, e2, e3, e4, e5, e6, e7, e8, e9⟩ := hf
  have he : (layC (adB base stt) dA sh M)[a]? = some (adB base stt a, .inr (ci, ds.mapIdx (fun i kd => fldC (adB base stt) M a i kd))) := by rw [layC_get hs]; simp [cellC, hc]
  have hD := layC_D (base := base) (stt := stt) (dA := dA) (sh := sh) (M := M) h200
  have hl9 : a < sh.length := (List.getElem?_eq_some_iff.mp hs).1
  have hset : (layC (adB base stt) dA sh M).set a (adB base stt a, .inr (ci, (ds.mapIdx (fun i kd => fldC (adB base stt) M a i kd)).set f (.int v))) = layC (adB base stt) dA sh (si M a f v) := by
    have e0 : sh.set a (ci, ds.set f 0) = sh := by
      apply List.ext_getElem?
      intro j
      rw [List.getElem?_set]
      by_cases e : a = j
      · subst e
        rw [if_pos rfl, if_pos hl9, hs]
        congr 2
        apply List.ext_getElem?
        intro i
        rw [List.getElem?_set]
        by_cases e : f = i
        · subst e
          rw [if_pos rfl, if_pos hkl, hk0]
        · rw [if_neg e]
      · rw [if_neg e]
    have h := layC_set (ad := adB base stt) (dA := dA) (sh := sh) (M := M) (M' := si M a f v) (q := (ci, ds.set f 0)) hl9 (x := .inr (ci, (ds.mapIdx (fun i kd => fldC (adB base stt) M a i kd)).set f (.int v))) ?_ (fun j hj => si_off hj)
    · rw [e0] at h
      exact h
    rw [objC_set (M' := si M a f v) (kd := 0) hkl (by simp [fldC, si]) (fun j kd2 hj => by
      match kd2 with
      | 0 => simp [fldC, si, hj]
      | 1 => simp [fldC, si]
      | 2 => rfl
      | r + 3 => rfl)]
    simp [cellC, hc]
  have hap := va_apart (own := mt.1) hts e3 ty0 e6 e7 hK e1
  obtain ⟨r, g1, cell, q1, q2, q3, q4⟩ := hP a _ he
  have hr9 : r = (C, T, N) := Option.some.inj (g1.symm.trans e1)
  subst hr9
  obtain ⟨hSl, hfc, kC, hkC, hkind⟩ := hK.1 ci _ e1
  obtain ⟨cf, kf, fi, fd, hi, hsl⟩ := hSl f e2
  have hlay := hts _ (e3 _ (u_in_lay e2))
  unfold u_lay at hlay
  rw [if_neg (by rw [e9]; decide)] at hlay
  have hst := (u_facts hfc hkC (u_lays hts e3 e2) hi).1
  have h6 := u_store hfc hkC hkind hlay hi e8 (show narrow .int (.int v) = .int v from rfl) rfl
  have hsame : s.fieldFound? C (T f).2.1 (T f).2.2.1 = some (cf, kf, fi, fd) := by rw [e5] at hi; exact hi
  refine W.putK hx hb (f := fd) ⟨hown, hts _ e4, ⟨_, _, _, hsame⟩, hst⟩ (by rw [q2]; exact h6) q1 q3 (by rw [hsl]; exact k2_hasslot (q4 f e2)) rfl rfl hd fun H' x1 x2 x3 => ?_
  rw [hsl] at x1 ⊢
  have hP1 : va_P D cl ((layC (adB base stt) dA sh M).set a (adB base stt a, .inr (ci, (ds.mapIdx (fun i kd => fldC (adB base stt) M a i kd)).set f (.int v)))) H' := hP.set hD he ⟨_, e1, t_OB.to (V := updV (vp_V _) f (.int v)) ⟨_, x1, q2, q3, t_set q4 hap e2 (.int v)⟩ (fun j _ => vp_updV_set (by rw [List.length_mapIdx]; exact hkl) (.int v) j)⟩ x3
  rw [hset] at hP1
  exact K p l e s m args below meth c D base stt dA hp H' _ ls hP1 (by rw [x2, hz]) (hS.put x2 x3 (hD.2 a _ he)) hbs hl
theorem c_new {mt : Mc} {pc : Nat} {lv : List (Nat × Value)} {st : List Value} {sh : Shp} {M : Mem} {P9 : PostT} {k n mc ms : Nat} {ci i N : Nat} {C : String} {T : u_T} {ty : Nat → FieldType} {ds : List Nat} (hd : decode mt.2.1 pc = .ok (.new i, 3)) (hcl : cl[ci]? = some (C, T, N)) (hc : ci < 100) (hin9 : ∀ w ∈ u_ws C T N, w ∈ tbl) (hty : ∀ k, k < N → parseFieldDescriptor (T k).2.2.1 = some (ty k)) (hwl : Cond.classLink mt.1 i C ∈ tbl) (hwi : Cond.instantiable C N ∈ tbl) (hwn : Cond.initialized C ∈ tbl) (hds : ∀ ad : Nat → Nat, ∀ j, j < N → defaultValue (ty j) = vp_V (ds.mapIdx (fun i kd => fldC ad zM 0 i kd)) j) (hM : M.1 sh.length = (fun _ => 0) ∧ M.2 sh.length = (fun _ => 0)) (hk : k + 1 ≤ mc) (hn : n + N ≤ ms) (h2 : sh.length < 200) {a9 : Nat} {sh8 : Shp} (ha9 : sh.length = a9) (hs8 : sh ++ [(ci, ds)] = sh8) (K : JC mt (pc + 3) lv (.ref a9 :: st) sh8 M (k + 1) (n + N) P9 mc ms) : JC mt pc lv st sh M k n P9 mc ms := by
  subst ha9
  subst hs8
  intro p l e s m args below meth c D base stt dA hp H locs ls hP hz hS hbs hl
  obtain ⟨hx, hb, hr, hml, hown, hts, hlk, hin, hK, hNi, hOM, hOS, hOL, hCx⟩ := id hp
  have hKn := hK.1 ci _ hcl
  refine W.newcK hx hb hown (hts _ hwl) (hts _ hwi) (hts _ hwn) rfl hd hk hn hKn.2.1 rfl fun H1 kC hkC e1 z1 o1 => ?_
  have ea : adB base stt sh.length = H.size := by unfold adB; rw [if_pos h2, hz]
  have hk9 : ∀ (k : Nat) (x : Nat × va_E), (layC (adB base stt) dA sh M)[k]? = some x → H1[x.1]? = H[x.1]? := fun k x hx => o1 x.1 ((hP k x hx).lt)
  have hP1 : va_P D cl (layC (adB base stt) dA (sh ++ [(ci, ds)]) M) H1 := by
    rw [layC_app]
    refine (hP.kept hk9).app (fun k x hx => ?_)
    have hz : k < 1 := (List.getElem?_eq_some_iff.mp hx).1
    rw [show k = 0 by omega] at hx
    cases hx
    have ec : cellC (adB base stt) dA M sh.length (ci, ds) = .inr (ci, ds.mapIdx (fun i kd => fldC (adB base stt) zM 0 i kd)) := by
      rw [cellC_off (M := zM) hM.1 hM.2]
      simp only [cellC, hc, if_true]
      congr 2
    rw [ec, ea]
    exact ⟨_, hcl, (u_born ty hts hin9 hKn hkC e1 hty).to (hds _)⟩
  have hk2 := K p l e s m args below meth c D base stt dA hp H1 locs ls hP1 (by rw [z1, hz, List.length_append]; rfl) ⟨Nat.le_trans hS.1 (by omega), fun x h1 h2 => (o1 x (Nat.lt_of_lt_of_le h1 hS.1)).trans (hS.2.1 x h1 h2), hS.2.2⟩ hbs hl
  rw [← ea]
  exact hk2
theorem c_newaI {mt : Mc} {pc : Nat} {lv : List (Nat × Value)} {st : List Value} {sh : Shp} {M : Mem} {P9 : PostT} {k n mc ms : Nat} {i : Int32} {N : Nat} (hd : decode mt.2.1 pc = .ok (.newarray .int, 2)) (hi : ¬ i < 0) (hN : i.toNatClampNeg = N) (hw : Cond.arrayClass .int ∈ tbl) (hby : N ≤ 60000000) (hM : M.1 sh.length = (fun _ => 0) ∧ M.2 sh.length = (fun _ => 0)) (hk : k + 1 ≤ mc) (hn : n + N ≤ ms) (h2 : sh.length < 200) {a9 : Nat} {sh8 : Shp} (ha9 : sh.length = a9) (hs8 : sh ++ [(100, [N])] = sh8) (K : JC mt (pc + 2) lv (.ref a9 :: st) sh8 M (k + 1) (n + N) P9 mc ms) : JC mt pc lv (.int i :: st) sh M k n P9 mc ms := by
  subst ha9
  subst hs8
  intro p l e s m args below meth c D base stt dA hp H locs ls hP hz hS hbs hl
  obtain ⟨hx, hb, hr, hml, hown, hts, hlk, hin, hK, hNi, hOM, hOS, hOL, hCx⟩ := id hp
  refine va_newaK (atype := .int) hx hb (hts _ hw) rfl hd rfl hi hN (by show N * 4 ≤ 536870912; omega) hk hn rfl fun H1 cA e1 z1 o1 hAr hNm => ?_
  have ea : adB base stt sh.length = H.size := by unfold adB; rw [if_pos h2, hz]
  have hk9 : ∀ (k : Nat) (x : Nat × va_E), (layC (adB base stt) dA sh M)[k]? = some x → H1[x.1]? = H[x.1]? := fun k x hx => o1 x.1 ((hP k x hx).lt)
  have ecA : cA = dA 0 := Option.some.inj (hNm.symm.trans (hK.2 0 _ rfl).2)
  have hP1 : va_P D cl (layC (adB base stt) dA (sh ++ [(100, [N])]) M) H1 := by
    rw [layC_app]
    refine (hP.kept hk9).app (fun k x hx => ?_)
    have hz : k < 1 := (List.getElem?_eq_some_iff.mp hx).1
    rw [show k = 0 by omega] at hx
    cases hx
    rw [ea]
    show H1[H.size]? = some (vp_cell _ _)
    rw [e1, ecA]
    show _ = some (arrV (dA 0) N (fun j => .int (M.1 sh.length j)))
    rw [hM.1]
    rfl
  have hk2 := K p l e s m args below meth c D base stt dA hp H1 locs ls hP1 (by rw [z1, hz, List.length_append]; rfl) ⟨Nat.le_trans hS.1 (by omega), fun x h1 h2 => (o1 x (Nat.lt_of_lt_of_le h1 hS.1)).trans (hS.2.1 x h1 h2), hS.2.2⟩ hbs hl
  rw [← ea]
  exact hk2
theorem c_newaB {mt : Mc} {pc : Nat} {lv : List (Nat × Value)} {st : List Value} {sh : Shp} {M : Mem} {P9 : PostT} {k n mc ms : Nat} {i : Int32} {N : Nat} (hd : decode mt.2.1 pc = .ok (.newarray .byte, 2)) (hi : ¬ i < 0) (hN : i.toNatClampNeg = N) (hw : Cond.arrayClass .byte ∈ tbl) (hby : N ≤ 60000000) (hM : M.1 sh.length = (fun _ => 0) ∧ M.2 sh.length = (fun _ => 0)) (hk : k + 1 ≤ mc) (hn : n + N ≤ ms) (h2 : sh.length < 200) {a9 : Nat} {sh8 : Shp} (ha9 : sh.length = a9) (hs8 : sh ++ [(101, [N])] = sh8) (K : JC mt (pc + 2) lv (.ref a9 :: st) sh8 M (k + 1) (n + N) P9 mc ms) : JC mt pc lv (.int i :: st) sh M k n P9 mc ms := by
  subst ha9
  subst hs8
  intro p l e s m args below meth c D base stt dA hp H locs ls hP hz hS hbs hl
  obtain ⟨hx, hb, hr, hml, hown, hts, hlk, hin, hK, hNi, hOM, hOS, hOL, hCx⟩ := id hp
  refine va_newaK (atype := .byte) hx hb (hts _ hw) rfl hd rfl hi hN (by show N * 1 ≤ 536870912; omega) hk hn rfl fun H1 cA e1 z1 o1 hAr hNm => ?_
  have ea : adB base stt sh.length = H.size := by unfold adB; rw [if_pos h2, hz]
  have hk9 : ∀ (k : Nat) (x : Nat × va_E), (layC (adB base stt) dA sh M)[k]? = some x → H1[x.1]? = H[x.1]? := fun k x hx => o1 x.1 ((hP k x hx).lt)
  have ecA : cA = dA 1 := Option.some.inj (hNm.symm.trans (hK.2 1 _ rfl).2)
  have hP1 : va_P D cl (layC (adB base stt) dA (sh ++ [(101, [N])]) M) H1 := by
    rw [layC_app]
    refine (hP.kept hk9).app (fun k x hx => ?_)
    have hz : k < 1 := (List.getElem?_eq_some_iff.mp hx).1
    rw [show k = 0 by omega] at hx
    cases hx
    rw [ea]
    show H1[H.size]? = some (vp_cell _ _)
    rw [e1, ecA]
    show _ = some (arrV (dA 1) N (fun j => .int (M.1 sh.length j)))
    rw [hM.1]
    rfl
  have hk2 := K p l e s m args below meth c D base stt dA hp H1 locs ls hP1 (by rw [z1, hz, List.length_append]; rfl) ⟨Nat.le_trans hS.1 (by omega), fun x h1 h2 => (o1 x (Nat.lt_of_lt_of_le h1 hS.1)).trans (hS.2.1 x h1 h2), hS.2.2⟩ hbs hl
  rw [← ea]
  exact hk2
theorem c_newaZ {mt : Mc} {pc : Nat} {lv : List (Nat × Value)} {st : List Value} {sh : Shp} {M : Mem} {P9 : PostT} {k n mc ms : Nat} {i : Int32} {N : Nat} (hd : decode mt.2.1 pc = .ok (.newarray .boolean, 2)) (hi : ¬ i < 0) (hN : i.toNatClampNeg = N) (hw : Cond.arrayClass .boolean ∈ tbl) (hby : N ≤ 60000000) (hM : M.1 sh.length = (fun _ => 0) ∧ M.2 sh.length = (fun _ => 0)) (hk : k + 1 ≤ mc) (hn : n + N ≤ ms) (h2 : sh.length < 200) {a9 : Nat} {sh8 : Shp} (ha9 : sh.length = a9) (hs8 : sh ++ [(102, [N])] = sh8) (K : JC mt (pc + 2) lv (.ref a9 :: st) sh8 M (k + 1) (n + N) P9 mc ms) : JC mt pc lv (.int i :: st) sh M k n P9 mc ms := by
  subst ha9
  subst hs8
  intro p l e s m args below meth c D base stt dA hp H locs ls hP hz hS hbs hl
  obtain ⟨hx, hb, hr, hml, hown, hts, hlk, hin, hK, hNi, hOM, hOS, hOL, hCx⟩ := id hp
  refine va_newaK (atype := .boolean) hx hb (hts _ hw) rfl hd rfl hi hN (by show N * 1 ≤ 536870912; omega) hk hn rfl fun H1 cA e1 z1 o1 hAr hNm => ?_
  have ea : adB base stt sh.length = H.size := by unfold adB; rw [if_pos h2, hz]
  have hk9 : ∀ (k : Nat) (x : Nat × va_E), (layC (adB base stt) dA sh M)[k]? = some x → H1[x.1]? = H[x.1]? := fun k x hx => o1 x.1 ((hP k x hx).lt)
  have ecA : cA = dA 2 := Option.some.inj (hNm.symm.trans (hK.2 2 _ rfl).2)
  have hP1 : va_P D cl (layC (adB base stt) dA (sh ++ [(102, [N])]) M) H1 := by
    rw [layC_app]
    refine (hP.kept hk9).app (fun k x hx => ?_)
    have hz : k < 1 := (List.getElem?_eq_some_iff.mp hx).1
    rw [show k = 0 by omega] at hx
    cases hx
    rw [ea]
    show H1[H.size]? = some (vp_cell _ _)
    rw [e1, ecA]
    show _ = some (arrV (dA 2) N (fun j => .int (M.1 sh.length j)))
    rw [hM.1]
    rfl
  have hk2 := K p l e s m args below meth c D base stt dA hp H1 locs ls hP1 (by rw [z1, hz, List.length_append]; rfl) ⟨Nat.le_trans hS.1 (by omega), fun x h1 h2 => (o1 x (Nat.lt_of_lt_of_le h1 hS.1)).trans (hS.2.1 x h1 h2), hS.2.2⟩ hbs hl
  rw [← ea]
  exact hk2
theorem c_newaL {mt : Mc} {pc : Nat} {lv : List (Nat × Value)} {st : List Value} {sh : Shp} {M : Mem} {P9 : PostT} {k n mc ms : Nat} {i : Int32} {N : Nat} (hd : decode mt.2.1 pc = .ok (.newarray .long, 2)) (hi : ¬ i < 0) (hN : i.toNatClampNeg = N) (hw : Cond.arrayClass .long ∈ tbl) (hby : N ≤ 60000000) (hM : M.1 sh.length = (fun _ => 0) ∧ M.2 sh.length = (fun _ => 0)) (hk : k + 1 ≤ mc) (hn : n + N ≤ ms) (h2 : sh.length < 200) {a9 : Nat} {sh8 : Shp} (ha9 : sh.length = a9) (hs8 : sh ++ [(103, [N])] = sh8) (K : JC mt (pc + 2) lv (.ref a9 :: st) sh8 M (k + 1) (n + N) P9 mc ms) : JC mt pc lv (.int i :: st) sh M k n P9 mc ms := by
  subst ha9
  subst hs8
  intro p l e s m args below meth c D base stt dA hp H locs ls hP hz hS hbs hl
  obtain ⟨hx, hb, hr, hml, hown, hts, hlk, hin, hK, hNi, hOM, hOS, hOL, hCx⟩ := id hp
  refine va_newaK (atype := .long) hx hb (hts _ hw) rfl hd rfl hi hN (by show N * 8 ≤ 536870912; omega) hk hn rfl fun H1 cA e1 z1 o1 hAr hNm => ?_
  have ea : adB base stt sh.length = H.size := by unfold adB; rw [if_pos h2, hz]
  have hk9 : ∀ (k : Nat) (x : Nat × va_E), (layC (adB base stt) dA sh M)[k]? = some x → H1[x.1]? = H[x.1]? := fun k x hx => o1 x.1 ((hP k x hx).lt)
  have ecA : cA = dA 3 := Option.some.inj (hNm.symm.trans (hK.2 3 _ rfl).2)
  have hP1 : va_P D cl (layC (adB base stt) dA (sh ++ [(103, [N])]) M) H1 := by
    rw [layC_app]
    refine (hP.kept hk9).app (fun k x hx => ?_)
    have hz : k < 1 := (List.getElem?_eq_some_iff.mp hx).1
    rw [show k = 0 by omega] at hx
    cases hx
    rw [ea]
    show H1[H.size]? = some (vp_cell _ _)
    rw [e1, ecA]
    show _ = some (arrV (dA 3) N (fun j => .long (M.2 sh.length j)))
    rw [hM.2]
    rfl
  have hk2 := K p l e s m args below meth c D base stt dA hp H1 locs ls hP1 (by rw [z1, hz, List.length_append]; rfl) ⟨Nat.le_trans hS.1 (by omega), fun x h1 h2 => (o1 x (Nat.lt_of_lt_of_le h1 hS.1)).trans (hS.2.1 x h1 h2), hS.2.2⟩ hbs hl
  rw [← ea]
  exact hk2
theorem c_anewM {mt : Mc} {pc : Nat} {lv : List (Nat × Value)} {st : List Value} {sh : Shp} {M : Mem} {P9 : PostT} {k n mc ms : Nat} {i : Int32} {N idx : Nat} (hd : decode mt.2.1 pc = .ok (.anewarray idx, 3)) (hi : ¬ i < 0) (hN : i.toNatClampNeg = N) (hw : Cond.classLink mt.1 idx "ShakeHands$Minds" ∈ tbl) (hby : N ≤ 60000000) (hk : k + 1 ≤ mc) (hn : n + N ≤ ms) (h2 : sh.length < 200) {a9 : Nat} {sh8 : Shp} (ha9 : sh.length = a9) (hs8 : sh ++ [(104, List.replicate N 0)] = sh8) (K : JC mt (pc + 3) lv (.ref a9 :: st) sh8 M (k + 1) (n + N) P9 mc ms) : JC mt pc lv (.int i :: st) sh M k n P9 mc ms := by
  subst ha9
  subst hs8
  intro p l e s m args below meth c D base stt dA hp H locs ls hP hz hS hbs hl
  obtain ⟨hx, hb, hr, hml, hown, hts, hlk, hin, hK, hNi, hOM, hOS, hOL, hCx⟩ := id hp
  subst hN
  refine W.anew hx hb hown (hts _ hw) (va_AO.use hOM) rfl hd rfl hi (by omega) hk hn fun cA kA comp f1 f2 f3 f4 => ?_
  generalize hH1 : H.push ({ cls := cA, slots := Array.replicate i.toNatClampNeg .null, vm := .none } : Cell) = H1
  have z1 : H1.size = H.size + 1 := by rw [← hH1, Array.size_push]
  have e1 : H1[H.size]? = some (arrV cA i.toNatClampNeg (fun _ => .null)) := by rw [← hH1, Array.getElem?_push_size, ← arrV_new]
  have o1 : ∀ q : Nat, q < H.size → H1[q]? = H[q]? := fun q hq => by rw [← hH1, Array.getElem?_push, if_neg (Nat.ne_of_lt hq)]
  have ea : adB base stt sh.length = H.size := by unfold adB; rw [if_pos h2, hz]
  have hk9 : ∀ (k : Nat) (x : Nat × va_E), (layC (adB base stt) dA sh M)[k]? = some x → H1[x.1]? = H[x.1]? := fun k x hx => o1 x.1 ((hP k x hx).lt)
  have ecA : cA = dA 4 := by
    obtain ⟨kB, cB, g1, g2, g3, g4⟩ := (hK.2 4 _ rfl).2
    exact Option.some.inj (f1.symm.trans g4)
  have hP1 : va_P D cl (layC (adB base stt) dA (sh ++ [(104, List.replicate i.toNatClampNeg 0)]) M) H1 := by
    rw [layC_app]
    refine (hP.kept hk9).app (fun k x hx => ?_)
    have hz : k < 1 := (List.getElem?_eq_some_iff.mp hx).1
    rw [show k = 0 by omega] at hx
    cases hx
    rw [ea]
    show H1[H.size]? = some (vp_cell (dA 4) ((List.replicate i.toNatClampNeg 0).length, .inr (.inr (.inr (.inr (rfC (adB base stt) (List.replicate i.toNatClampNeg 0)))))))
    rw [vp_cell_q, e1, ecA, List.length_replicate]
    congr 2
    funext j
    have : rfC (adB base stt) (List.replicate i.toNatClampNeg 0) j = none := by
      unfold rfC
      by_cases h : j < i.toNatClampNeg
      · simp [h]
      · simp [h]
    rw [this]
    rfl
  have hk2 := K p l e s m args below meth c D base stt dA hp H1 locs ls hP1 (by rw [z1, hz, List.length_append]; rfl) ⟨Nat.le_trans hS.1 (by omega), fun x h1 h2 => (o1 x (Nat.lt_of_lt_of_le h1 hS.1)).trans (hS.2.1 x h1 h2), hS.2.2⟩ hbs hl
  rw [← ea]
  exact hk2
theorem c_aastM {mt : Mc} {pc : Nat} {lv : List (Nat × Value)} {st : List Value} {sh : Shp} {M : Mem} {P9 : PostT} {k n mc ms : Nat} {i : Int32} {a b ci : Nat} {ids vs : List Nat} {T : u_T} {N : Nat} (hd : decode mt.2.1 pc = .ok (.aastore, 1)) (hs : sh[a]? = some (104, ids)) (hb9 : sh[b]? = some (ci, vs)) (hc : ci < 100) (hcl : cl[ci]? = some ("ShakeHands$Minds", T, N)) (hi : vp_in i ids.length) (h200 : sh.length ≤ 200) {sh8 : Shp} (hs8 : sh.set a (104, ids.set i.toNatClampNeg (b + 1)) = sh8) (K : JC mt (pc + 1) lv st sh8 M k n P9 mc ms) : JC mt pc lv (.ref b :: .int i :: .ref a :: st) sh M k n P9 mc ms := by
  subst hs8
  intro p l e s m args below meth c D base stt dA hp H locs ls hP hz hS hbs hl
  obtain ⟨hx, hb, hr, hml, hown, hts, hlk, hin, hK, hNi, hOM, hOS, hOL, hCx⟩ := id hp
  have hlt : i.toNatClampNeg < ids.length := Nat.not_le.mp fun q => hi (Or.inr q)
  have h0 : ¬ i < 0 := fun q => hi (Or.inl q)
  have hD := layC_D (base := base) (stt := stt) (dA := dA) (sh := sh) (M := M) h200
  have hl9 : a < sh.length := (List.getElem?_eq_some_iff.mp hs).1
  have ha : (layC (adB base stt) dA sh M)[a]? = some (adB base stt a, .inl (dA 4, ids.length, .inr (.inr (.inr (.inr (rfC (adB base stt) ids)))))) := layC_get hs
  have hv : (layC (adB base stt) dA sh M)[b]? = some (adB base stt b, .inr (ci, vs.mapIdx (fun i kd => fldC (adB base stt) M b i kd))) := by rw [layC_get hb9]; simp [cellC, hc]
  obtain ⟨r', hr', cellV, g1, g2, g3, -⟩ := hP b _ hv
  have hcls := (hK.1 ci _ hcl).2
  obtain ⟨kA, comp, k1, k2, k3, -⟩ := (hK.2 4 _ rfl).2
  have hcomp : comp = D.1 ci := Option.some.inj (k3.symm.trans hcls.1)
  subst hcomp
  obtain ⟨kC, hkC, -⟩ := hcls.2
  have hset : (layC (adB base stt) dA sh M).set a (adB base stt a, .inl (dA 4, ids.length, .inr (.inr (.inr (.inr (rfC (adB base stt) (ids.set i.toNatClampNeg (b + 1)))))))) = layC (adB base stt) dA (sh.set a (104, ids.set i.toNatClampNeg (b + 1))) M := by
    refine layC_set hl9 ?_ (fun j hj => ⟨rfl, rfl⟩)
    have e : (ids.set i.toNatClampNeg (b + 1)).length = ids.length := List.length_set
    show _ = va_E_inl (dA 4) (ids.set i.toNatClampNeg (b + 1)).length _
    rw [e]
  refine W.aast hx hb (hP a _ ha) (fun q h => by cases h) (fun h => by cases h) k1 k2 rfl hkC ⟨h0, by show _ < (arrV _ _ _).slots.size; rw [arrV_size]; exact hlt⟩ g1 (fun q h => by rw [g3] at h; cases h) (by rw [g2]; exact hkC) (by rw [g2]; exact va_assign hcls) rfl rfl hd fun H1 he9 z oq => ?_
  have hP1 : va_P D cl ((layC (adB base stt) dA sh M).set a (adB base stt a, .inl (dA 4, ids.length, .inr (.inr (.inr (.inr (rfC (adB base stt) (ids.set i.toNatClampNeg (b + 1))))))))) H1 := by
    refine hP.set hD ha ?_ oq
    show H1[adB base stt a]? = some (vp_cell _ _)
    rw [he9]
    rw [vp_cell_q, vp_cell_q, arrV_store]
    congr 2
    funext q
    by_cases hq : q = i.toNatClampNeg
    · subst hq
      simp [updV, va_rf, rfC, List.getElem?_set, hlt]
    · have hq2 : ¬ i.toNatClampNeg = q := fun h => hq h.symm
      simp [updV, va_rf, rfC, List.getElem?_set, hq, hq2]
  rw [hset] at hP1
  exact K p l e s m args below meth c D base stt dA hp H1 _ ls hP1 (by rw [z, hz, List.length_set]) (hS.put z oq (hD.2 a _ ha)) hbs hl
theorem c_anewS {mt : Mc} {pc : Nat} {lv : List (Nat × Value)} {st : List Value} {sh : Shp} {M : Mem} {P9 : PostT} {k n mc ms : Nat} {i : Int32} {N idx : Nat} (hd : decode mt.2.1 pc = .ok (.anewarray idx, 3)) (hi : ¬ i < 0) (hN : i.toNatClampNeg = N) (hw : Cond.classLink mt.1 idx "ShakeHands$Sheet" ∈ tbl) (hby : N ≤ 60000000) (hk : k + 1 ≤ mc) (hn : n + N ≤ ms) (h2 : sh.length < 200) {a9 : Nat} {sh8 : Shp} (ha9 : sh.length = a9) (hs8 : sh ++ [(105, List.replicate N 0)] = sh8) (K : JC mt (pc + 3) lv (.ref a9 :: st) sh8 M (k + 1) (n + N) P9 mc ms) : JC mt pc lv (.int i :: st) sh M k n P9 mc ms := by
  subst ha9
  subst hs8
  intro p l e s m args below meth c D base stt dA hp H locs ls hP hz hS hbs hl
  obtain ⟨hx, hb, hr, hml, hown, hts, hlk, hin, hK, hNi, hOM, hOS, hOL, hCx⟩ := id hp
  subst hN
  refine W.anew hx hb hown (hts _ hw) (va_AO.use hOS) rfl hd rfl hi (by omega) hk hn fun cA kA comp f1 f2 f3 f4 => ?_
  generalize hH1 : H.push ({ cls := cA, slots := Array.replicate i.toNatClampNeg .null, vm := .none } : Cell) = H1
  have z1 : H1.size = H.size + 1 := by rw [← hH1, Array.size_push]
  have e1 : H1[H.size]? = some (arrV cA i.toNatClampNeg (fun _ => .null)) := by rw [← hH1, Array.getElem?_push_size, ← arrV_new]
  have o1 : ∀ q : Nat, q < H.size → H1[q]? = H[q]? := fun q hq => by rw [← hH1, Array.getElem?_push, if_neg (Nat.ne_of_lt hq)]
  have ea : adB base stt sh.length = H.size := by unfold adB; rw [if_pos h2, hz]
  have hk9 : ∀ (k : Nat) (x : Nat × va_E), (layC (adB base stt) dA sh M)[k]? = some x → H1[x.1]? = H[x.1]? := fun k x hx => o1 x.1 ((hP k x hx).lt)
  have ecA : cA = dA 5 := by
    obtain ⟨kB, cB, g1, g2, g3, g4⟩ := (hK.2 5 _ rfl).2
    exact Option.some.inj (f1.symm.trans g4)
  have hP1 : va_P D cl (layC (adB base stt) dA (sh ++ [(105, List.replicate i.toNatClampNeg 0)]) M) H1 := by
    rw [layC_app]
    refine (hP.kept hk9).app (fun k x hx => ?_)
    have hz : k < 1 := (List.getElem?_eq_some_iff.mp hx).1
    rw [show k = 0 by omega] at hx
    cases hx
    rw [ea]
    show H1[H.size]? = some (vp_cell (dA 5) ((List.replicate i.toNatClampNeg 0).length, .inr (.inr (.inr (.inr (rfC (adB base stt) (List.replicate i.toNatClampNeg 0)))))))
    rw [vp_cell_q, e1, ecA, List.length_replicate]
    congr 2
    funext j
    have : rfC (adB base stt) (List.replicate i.toNatClampNeg 0) j = none := by
      unfold rfC
      by_cases h : j < i.toNatClampNeg
      · simp [h]
      · simp [h]
    rw [this]
    rfl
  have hk2 := K p l e s m args below meth c D base stt dA hp H1 locs ls hP1 (by rw [z1, hz, List.length_append]; rfl) ⟨Nat.le_trans hS.1 (by omega), fun x h1 h2 => (o1 x (Nat.lt_of_lt_of_le h1 hS.1)).trans (hS.2.1 x h1 h2), hS.2.2⟩ hbs hl
  rw [← ea]
  exact hk2
theorem c_aastS {mt : Mc} {pc : Nat} {lv : List (Nat × Value)} {st : List Value} {sh : Shp} {M : Mem} {P9 : PostT} {k n mc ms : Nat} {i : Int32} {a b ci : Nat} {ids vs : List Nat} {T : u_T} {N : Nat} (hd : decode mt.2.1 pc = .ok (.aastore, 1)) (hs : sh[a]? = some (105, ids)) (hb9 : sh[b]? = some (ci, vs)) (hc : ci < 100) (hcl : cl[ci]? = some ("ShakeHands$Sheet", T, N)) (hi : vp_in i ids.length) (h200 : sh.length ≤ 200) {sh8 : Shp} (hs8 : sh.set a (105, ids.set i.toNatClampNeg (b + 1)) = sh8) (K : JC mt (pc + 1) lv st sh8 M k n P9 mc ms) : JC mt pc lv (.ref b :: .int i :: .ref a :: st) sh M k n P9 mc ms := by
  subst hs8
  intro p l e s m args below meth c D base stt dA hp H locs ls hP hz hS hbs hl
  obtain ⟨hx, hb, hr, hml, hown, hts, hlk, hin, hK, hNi, hOM, hOS, hOL, hCx⟩ := id hp
  have hlt : i.toNatClampNeg < ids.length := Nat.not_le.mp fun q => hi (Or.inr q)
  have h0 : ¬ i < 0 := fun q => hi (Or.inl q)
  have hD := layC_D (base := base) (stt := stt) (dA := dA) (sh := sh) (M := M) h200
  have hl9 : a < sh.length := (List.getElem?_eq_some_iff.mp hs).1
  have ha : (layC (adB base stt) dA sh M)[a]? = some (adB base stt a, .inl (dA 5, ids.length, .inr (.inr (.inr (.inr (rfC (adB base stt) ids)))))) := layC_get hs
  have hv : (layC (adB base stt) dA sh M)[b]? = some (adB base stt b, .inr (ci, vs.mapIdx (fun i kd => fldC (adB base stt) M b i kd))) := by rw [layC_get hb9]; simp [cellC, hc]
  obtain ⟨r', hr', cellV, g1, g2, g3, -⟩ := hP b _ hv
  have hcls := (hK.1 ci _ hcl).2
  obtain ⟨kA, comp, k1, k2, k3, -⟩ := (hK.2 5 _ rfl).2
  have hcomp : comp = D.1 ci := Option.some.inj (k3.symm.trans hcls.1)
  subst hcomp
  obtain ⟨kC, hkC, -⟩ := hcls.2
  have hset : (layC (adB base stt) dA sh M).set a (adB base stt a, .inl (dA 5, ids.length, .inr (.inr (.inr (.inr (rfC (adB base stt) (ids.set i.toNatClampNeg (b + 1)))))))) = layC (adB base stt) dA (sh.set a (105, ids.set i.toNatClampNeg (b + 1))) M := by
    refine layC_set hl9 ?_ (fun j hj => ⟨rfl, rfl⟩)
    have e : (ids.set i.toNatClampNeg (b + 1)).length = ids.length := List.length_set
    show _ = va_E_inl (dA 5) (ids.set i.toNatClampNeg (b + 1)).length _
    rw [e]
  refine W.aast hx hb (hP a _ ha) (fun q h => by cases h) (fun h => by cases h) k1 k2 rfl hkC ⟨h0, by show _ < (arrV _ _ _).slots.size; rw [arrV_size]; exact hlt⟩ g1 (fun q h => by rw [g3] at h; cases h) (by rw [g2]; exact hkC) (by rw [g2]; exact va_assign hcls) rfl rfl hd fun H1 he9 z oq => ?_
  have hP1 : va_P D cl ((layC (adB base stt) dA sh M).set a (adB base stt a, .inl (dA 5, ids.length, .inr (.inr (.inr (.inr (rfC (adB base stt) (ids.set i.toNatClampNeg (b + 1))))))))) H1 := by
    refine hP.set hD ha ?_ oq
    show H1[adB base stt a]? = some (vp_cell _ _)
    rw [he9]
    rw [vp_cell_q, vp_cell_q, arrV_store]
    congr 2
    funext q
    by_cases hq : q = i.toNatClampNeg
    · subst hq
      simp [updV, va_rf, rfC, List.getElem?_set, hlt]
    · have hq2 : ¬ i.toNatClampNeg = q := fun h => hq h.symm
      simp [updV, va_rf, rfC, List.getElem?_set, hq, hq2]
  rw [hset] at hP1
  exact K p l e s m args below meth c D base stt dA hp H1 _ ls hP1 (by rw [z, hz, List.length_set]) (hS.put z oq (hD.2 a _ ha)) hbs hl
theorem c_initN {mt : Mc} {pc : Nat} {lv : List (Nat × Value)} {st : List Value} {sh : Shp} {M : Mem} {P9 : PostT} {k n mc ms : Nat} {mt2 : Mc} {y : MethodName} {idx q a mc2 ms2 : Nat} {as : List Value} {sh2 : Shp} {M2 : Mem} (hd : decode mt.2.1 pc = .ok (.invokespecial idx, 3)) (hct : CtC y mt2 (.ref a :: as) sh M (PC sh2 M2) mc2 ms2) (hw : (mt.1, idx, y) ∈ nestI) (hcd : Cond.code y mt2.2.1 mt2.2.2.1 none ∈ tbl) (hni : y.name = "<init>") (him : Cond.instanceMethod y ∈ tbl) (hini : Cond.initialized y.cls ∈ tbl) (hdn : Dn y q) (hq : as.length = q) (hdp : mt2.2.2.2 + 1 ≤ mt.2.2.2) (hmx : mt2.2.2.1 ≤ 40) (hst : (st.map fun v => v.category).sum ≤ 8) (hk : k + mc2 ≤ mc) (hn : n + ms2 ≤ ms) (K : JC mt (pc + 3) lv st sh2 M2 (k + mc2) (n + ms2) P9 mc ms) : JC mt pc lv (as.reverse ++ .ref a :: st) sh M k n P9 mc ms := by
  intro p l e s m args below meth c D base stt dA hp H locs ls hP hz hS hbs hl
  obtain ⟨hx, hb, hr, hml, hown, hts, hlk, hin, hK, hNi, hOM, hOS, hOL, hCx⟩ := id hp
  have hR : (rmc mt2.2.2.2 mc2 ms2).frames + 1 ≤ (rmc mt.2.2.2 mc ms).frames ∧ 8 + (mt2.2.2.1 + 11) + (rmc mt2.2.2.2 mc2 ms2).locals ≤ (rmc mt.2.2.2 mc ms).locals := by
    refine ⟨hdp, ?_⟩
    show 8 + (mt2.2.2.1 + 11) + 64 * mt2.2.2.2 ≤ 64 * mt.2.2.2
    omega
  have hM := hct l D base stt dA
  refine wr_callC (rest := st.map (rv (adB base stt))) (va_runIN (As := as.map (rv (adB base stt))) (b := adB base stt a) (Ts := tbl) ⟨hx, hb, hml, hown, hts⟩ hM ⟨va_cnB q hts (good_cons hcd) rfl rfl rfl (hNi _ hw) (hts _ hini) hdn hR, hni, hts _ him⟩ ⟨fun a U g mk q => ⟨q.1, q.2.1, q.2.2.1, q.2.2.2.blind⟩, fun U hU hW => ⟨rfl, by rw [hU]; exact hP, by rw [hU]; exact hz, by rw [hU]; exact KC.next ⟨hK, hNi, hOM, hOS, hOL, hCx⟩ hS hW⟩⟩ rfl (by rw [List.length_map]; exact hq) hl.1 ?_ (lv_room (by rw [rv_cats]; exact hst)) hd ⟨hk, hn⟩) hS (fun t H1 locs1 ht hpost hS1 => ?_)
  · show (as.reverse ++ .ref a :: st).map (rv (adB base stt)) = (as.map (rv (adB base stt))).reverse ++ .ref (adB base stt a) :: st.map (rv (adB base stt))
    rw [List.map_append, List.map_reverse]
    rfl
  obtain ⟨hP1, hz1⟩ := hpost
  rw [ht] at hP1 hz1
  exact K p l e s m args below meth c D base stt dA hp H1 locs1 ls hP1 hz1 hS1 hbs hl
theorem c_init {mt : Mc} {pc : Nat} {lv : List (Nat × Value)} {st : List Value} {sh : Shp} {M : Mem} {P9 : PostT} {k n mc ms : Nat} {mt2 : Mc} {y : MethodName} {idx q a mc2 ms2 : Nat} {as : List Value} {sh2 : Shp} {M2 : Mem} (hd : decode mt.2.1 pc = .ok (.invokespecial idx, 3)) (hct : CtC y mt2 (.ref a :: as) sh M (PC sh2 M2) mc2 ms2) (hw : Cond.methodLink mt.1 idx y ∈ tbl) (hcd : Cond.code y mt2.2.1 mt2.2.2.1 none ∈ tbl) (hni : y.name = "<init>") (him : Cond.instanceMethod y ∈ tbl) (hini : Cond.initialized y.cls ∈ tbl) (hdn : Dn y q) (hq : as.length = q) (hdp : mt2.2.2.2 + 1 ≤ mt.2.2.2) (hmx : mt2.2.2.1 ≤ 40) (hst : (st.map fun v => v.category).sum ≤ 8) (hk : k + mc2 ≤ mc) (hn : n + ms2 ≤ ms) (K : JC mt (pc + 3) lv st sh2 M2 (k + mc2) (n + ms2) P9 mc ms) : JC mt pc lv (as.reverse ++ .ref a :: st) sh M k n P9 mc ms := by
  intro p l e s m args below meth c D base stt dA hp H locs ls hP hz hS hbs hl
  obtain ⟨hx, hb, hr, hml, hown, hts, hlk, hin, hK, hNi, hOM, hOS, hOL, hCx⟩ := id hp
  have hR : (rmc mt2.2.2.2 mc2 ms2).frames + 1 ≤ (rmc mt.2.2.2 mc ms).frames ∧ 8 + (mt2.2.2.1 + 11) + (rmc mt2.2.2.2 mc2 ms2).locals ≤ (rmc mt.2.2.2 mc ms).locals := by
    refine ⟨hdp, ?_⟩
    show 8 + (mt2.2.2.1 + 11) + 64 * mt2.2.2.2 ≤ 64 * mt.2.2.2
    omega
  have hM := hct l D base stt dA
  refine wr_callC (rest := st.map (rv (adB base stt))) (va_runI (As := as.map (rv (adB base stt))) (b := adB base stt a) (Ts := tbl) ⟨hx, hb, hml, hown, hts⟩ hM (cwI q hts (good_cons hcd) rfl rfl rfl (hts _ hini) (hts _ hw) (hts _ him) hni hdn hR) ⟨fun a U g mk q => ⟨q.1, q.2.1, q.2.2.1, q.2.2.2.blind⟩, fun U hU hW => ⟨rfl, by rw [hU]; exact hP, by rw [hU]; exact hz, by rw [hU]; exact KC.next ⟨hK, hNi, hOM, hOS, hOL, hCx⟩ hS hW⟩⟩ rfl (by rw [List.length_map]; exact hq) hl.1 ?_ (lv_room (by rw [rv_cats]; exact hst)) hd ⟨hk, hn⟩) hS (fun t H1 locs1 ht hpost hS1 => ?_)
  · show (as.reverse ++ .ref a :: st).map (rv (adB base stt)) = (as.map (rv (adB base stt))).reverse ++ .ref (adB base stt a) :: st.map (rv (adB base stt))
    rw [List.map_append, List.map_reverse]
    rfl
  obtain ⟨hP1, hz1⟩ := hpost
  rw [ht] at hP1 hz1
  exact K p l e s m args below meth c D base stt dA hp H1 locs1 ls hP1 hz1 hS1 hbs hl
theorem c_return {mt : Mc} {pc : Nat} {lv : List (Nat × Value)} {sh sh9 : Shp} {M M9 : Mem} {k n mc ms : Nat} (hd : decode mt.2.1 pc = .ok (.return_, 1)) (hk : k ≤ mc) (hn : n ≤ ms) (hsh : sh = sh9) (hMM : M = M9) : JC mt pc lv [] sh M k n (PC sh9 M9) mc ms := by
  intro p l e s m args below meth c D base stt dA hp H locs ls hP hz hS hbs hl
  obtain ⟨hx, hb, hr, hml, hown, hts, hlk, hin, hK, hNi, hOM, hOS, hOL, hCx⟩ := id hp
  subst hsh
  subst hMM
  refine W.widen hk hn ?_
  exact W.vret hx hb hr (fun t ht hW => ⟨rfl, by show va_P _ _ _ t.heap ∧ t.heap.size = _; rw [ht]; exact ⟨hP, hz⟩, hS.F ht⟩) hS.2.2 hd
theorem c_toJ {mt : Mc} {pc : Nat} {lv : List (Nat × Value)} {st : List Value} {sh shJ : Shp} {M M' : Mem} {k n mc ms : Nat} {F : Option (Unit × Mem)} (hconv : ∀ (ad : Nat → Nat) (dA : Nat → ClassId), layC ad dA sh M = lay ad dA shJ M) (h200 : sh.length ≤ 200) (hk : k ≤ mc) (hn : n ≤ ms) (hF : F = some ((), M')) (K : J (mt.1, mt.2.1, mt.2.2.1, none, mt.2.2.2, shJ) wU pc lv st M F) : JC mt pc lv st sh M k n (PJ shJ M') mc ms := by
  intro p l e s m args below meth c D base stt dA hp H locs ls hP hz hS hbs hl
  obtain ⟨hx, hb, hr, hml, hown, hts, hlk, hin, hK, hNi, hOM, hOS, hOL, hCx⟩ := id hp
  refine W.widen hk hn ?_
  have hD := layC_D (base := base) (stt := stt) (dA := dA) (sh := sh) (M := M) h200
  rw [hconv] at hP hD
  exact K () M' hF p l e s m args below meth c D (adB base stt) dA (fun q => base ≤ q) mc ms ⟨hx, hb, hr, hml, hown, hts, hlk, hCx⟩ H locs ls hP hD hS hl
theorem c_sh {mt : Mc} {pc : Nat} {lv : List (Nat × Value)} {st : List Value} {sh : Shp} {M : Mem} {P9 : PostT} {k n mc ms : Nat} {sh2 : Shp} {M2 : Mem} (h : sh = sh2) (h2 : M = M2) (K : JC mt pc lv st sh2 M2 k n P9 mc ms) : JC mt pc lv st sh M k n P9 mc ms := by
  intro p l e s m args below meth c D base stt dA hp H locs ls hP hz hS hbs hl
  obtain ⟨hx, hb, hr, hml, hown, hts, hlk, hin, hK, hNi, hOM, hOS, hOL, hCx⟩ := id hp
  subst h; subst h2
  exact (K p l e s m args below meth c D base stt dA hp H locs ls hP hz hS hbs hl)
end
section
/-! new long[n][k]: the outer array and its rows -/
theorem layC_apps {ad : Nat → Nat} {dA : Nat → ClassId} {sh ws : Shp} {M : Mem} : layC ad dA (sh ++ ws) M = layC ad dA sh M ++ ws.mapIdx (fun i q => (ad (sh.length + i), cellC ad dA M (sh.length + i) q)) := by
  simp [layC, List.mapIdx_append, Nat.add_comm]
theorem mna_outer (c : ClassId) (N h0 : Nat) : ∀ i : Nat, Jvm.Free.Multi.outerC c N h0 i = arrV c N (fun j => if j < i then .ref (h0 + 1 + j) else .null)
  | 0 => by
    show ({ cls := c, slots := Array.replicate N .null, vm := .none } : Cell) = _
    rw [arrV_new]
    refine congrArg (arrV c N) (funext fun j => ?_)
    simp
  | i + 1 => by
    show (Jvm.Free.Multi.outerC c N h0 i).setSlot i (.ref (h0 + 1 + i)) = _
    rw [mna_outer c N h0 i, arrV_store]
    refine congrArg (arrV c N) (funext fun j => ?_)
    by_cases e : j = i
    · subst e
      simp [updV]
    · by_cases h : j < i
      · simp [updV, e, h, Nat.lt_succ_of_lt h]
      · simp [updV, e, h, show ¬ j < i + 1 by omega]
theorem c_mna {mt : Mc} {pc : Nat} {lv : List (Nat × Value)} {st : List Value} {sh : Shp} {M : Mem} {P9 : PostT} {k n mc ms : Nat} {i j : Int32} {idx : Nat} (hd : decode mt.2.1 pc = .ok (.multianewarray idx 2, 4)) (hw : Cond.classLink mt.1 idx "[[J" ∈ tbl) (hwl : Cond.arrayClass .long ∈ tbl) (hij : i = 7 ∧ j = 6) (hk : k + 8 ≤ mc) (hn : n + 49 ≤ ms) (h2 : sh.length + 8 ≤ 200) (hM : ∀ r, r < 7 → M.2 (sh.length + 1 + r) = fun _ => 0) {a9 : Nat} {sh8 : Shp} (ha9 : sh.length = a9) (hs8 : sh ++ ((106, [a9 + 2, a9 + 3, a9 + 4, a9 + 5, a9 + 6, a9 + 7, a9 + 8]) :: List.replicate 7 (103, [6])) = sh8) (K : JC mt (pc + 4) lv (.ref a9 :: st) sh8 M (k + 8) (n + 49) P9 mc ms) : JC mt pc lv (.int j :: .int i :: st) sh M k n P9 mc ms := by
  subst ha9
  subst hs8
  obtain ⟨rfl, rfl⟩ := hij
  intro p l e s m args below meth c D base stt dA hp H locs ls hP hz hS hbs hl
  obtain ⟨hx, hb, hr, hml, hown, hts, hlk, hin, hK, hNi, hOM, hOS, hOL, hCx⟩ := id hp
  intro T hT Xs
  have e7 : (7 : Int32).toNatClampNeg = 7 := by decide
  have e6 : (6 : Int32).toNatClampNeg = 6 := by decide
  obtain ⟨vm₁, cA, comp, -, fA, fC, -, -, X', step⟩ := Xs.multianewarray2F (ty := .long) hx hown (hts _ hw) hOL (hts _ hwl) (g := F0 m pc ls ((Value.int 6 :: Value.int 7 :: st).map (rv (adB base stt)))) rfl (by rw [hb]; exact hd) (n := 7) (k := 6) rfl (by decide) (by decide) (by decide) (by decide) (by decide) rfl rfl (by rw [e7]; show k + 8 ≤ mc; exact hk) (by rw [e7, e6]; show n + 49 ≤ ms; exact hn)
  rw [e7, e6] at X' step
  generalize hF : Jvm.Free.Multi.fill (T.setVm vm₁) cA comp 7 6 (defaultValue .long) 7 = F at X' step
  have hTh : (T.setVm vm₁).heap = H := hT
  obtain ⟨f1, f2, -, -⟩ := Jvm.Free.Multi.fill_facts (T.setVm vm₁) cA comp 7 6 (defaultValue .long) 7
  rw [hF, hTh] at f1 f2
  have hold : ∀ x : Nat, x < H.size → F.heap[x]? = H[x]? := fun x hx => by
    have := Jvm.Free.Multi.fill_old (T.setVm vm₁) cA comp 7 6 (defaultValue .long) (a := x) (by rw [hTh]; exact hx) 7
    rw [hF, hTh] at this
    exact this
  have hrow : ∀ r : Nat, r < 7 → F.heap[H.size + 1 + r]? = some (arrV comp 6 (fun _ => .long 0)) := fun r hr => by
    have := Jvm.Free.Multi.fill_inner (T.setVm vm₁) cA comp 7 6 (defaultValue .long) 7 r hr
    rw [hF, hTh] at this
    rw [this, ← arrV_new]
    rfl
  rw [mna_outer] at f2
  have eA : cA = dA 6 := Option.some.inj (fA.symm.trans (hK.2 6 _ rfl).2)
  have eC : comp = dA 3 := Option.some.inj (fC.symm.trans (hK.2 3 _ rfl).2)
  subst eA
  subst eC
  have ea : ∀ r, r < 8 → adB base stt (sh.length + r) = H.size + r := fun r hr => by
    unfold adB
    rw [if_pos (by omega), hz, Nat.add_assoc]
  have hk9 : ∀ (k : Nat) (x : Nat × va_E), (layC (adB base stt) dA sh M)[k]? = some x → F.heap[x.1]? = H[x.1]? := fun k x hx => hold x.1 ((hP k x hx).lt)
  have hP1 : va_P D cl (layC (adB base stt) dA (sh ++ ((106, [sh.length + 2, sh.length + 3, sh.length + 4, sh.length + 5, sh.length + 6, sh.length + 7, sh.length + 8]) :: List.replicate 7 (103, [6]))) M) F.heap := by
    rw [layC_apps]
    refine (hP.kept hk9).app (fun q x hx => ?_)
    have hq : q < 8 := by
      have := (List.getElem?_eq_some_iff.mp hx).1
      rw [List.length_mapIdx] at this
      exact this
    rcases Nat.eq_zero_or_pos q with e0 | e0
    · subst e0
      cases hx
      show F.heap[adB base stt (sh.length + 0)]? = some (vp_cell (dA 6) (7, .inr (.inr (.inr (.inr (rfC (adB base stt) [sh.length + 2, sh.length + 3, sh.length + 4, sh.length + 5, sh.length + 6, sh.length + 7, sh.length + 8]))))))
      rw [ea 0 (by decide), vp_cell_q, Nat.add_zero, f2]
      congr 2
      funext r
      by_cases hr : r < 7
      · rw [if_pos hr]
        have er : rfC (adB base stt) [sh.length + 2, sh.length + 3, sh.length + 4, sh.length + 5, sh.length + 6, sh.length + 7, sh.length + 8] r = some (adB base stt (sh.length + (r + 1))) := by
          match r, hr with
          | 0, _ => rfl
          | 1, _ => rfl
          | 2, _ => rfl
          | 3, _ => rfl
          | 4, _ => rfl
          | 5, _ => rfl
          | 6, _ => rfl
        rw [er, ea (r + 1) (by omega)]
        show Value.ref (H.size + 1 + r) = Value.ref (H.size + (r + 1))
        rw [Nat.add_assoc, Nat.add_comm 1 r]
      · rw [if_neg hr]
        have er : rfC (adB base stt) [sh.length + 2, sh.length + 3, sh.length + 4, sh.length + 5, sh.length + 6, sh.length + 7, sh.length + 8] r = none := by
          unfold rfC
          rw [List.getElem?_eq_none (by show 7 ≤ r; omega)]
        rw [er]
        rfl
    · obtain ⟨r, rfl⟩ : ∃ r, q = r + 1 := ⟨q - 1, by omega⟩
      have hr : r < 7 := by omega
      have hx' : x = (adB base stt (sh.length + (r + 1)), cellC (adB base stt) dA M (sh.length + (r + 1)) (103, [6])) := by
        rw [List.getElem?_mapIdx, List.getElem?_cons_succ, List.getElem?_replicate, if_pos hr] at hx
        exact (Option.some.inj hx).symm
      subst hx'
      show F.heap[adB base stt (sh.length + (r + 1))]? = some (arrV (dA 3) 6 (fun j => .long (M.2 (sh.length + (r + 1)) j)))
      rw [ea (r + 1) (by omega), show H.size + (r + 1) = H.size + 1 + r by omega, hrow r hr, show sh.length + (r + 1) = sh.length + 1 + r by omega, hM r hr]
  have hk2 := K p l e s m args below meth c D base stt dA hp F.heap locs ls hP1 (by rw [f1, hz, List.length_append]; simp; omega) ⟨by rw [f1]; have := hS.1; omega, fun x h1 h2 => (hold x (Nat.lt_of_lt_of_le h1 hS.1)).trans (hS.2.1 x h1 h2), hS.2.2⟩ hbs hl
  obtain ⟨t, a1, b1⟩ := hk2 F rfl X'
  refine ⟨t, step t ?_, b1⟩
  have eT : T.heap.size = adB base stt sh.length := by
    rw [hT]
    have := ea 0 (by decide)
    rw [Nat.add_zero, Nat.add_zero] at this
    exact this.symm
  rw [eT]
  exact a1
end
section
/-! THE CLASS IS MADE: each constructor's run (written by wip/gen/ctorgen.py) -/
theorem k_s_1206 : (Int16.ofInt 1206).toInt32 = 1206 := by decide
def mtC_ShakeHands : Mc := ("ShakeHands", b_ShakeHands_init, 2, 8)
theorem d_ShakeHands_init_0 : decode b_ShakeHands_init 0 = .ok (.aload_n 0, 1) := by decide +kernel
theorem d_ShakeHands_init_1 : decode b_ShakeHands_init 1 = .ok (.invokespecial 1, 3) := by decide +kernel
theorem d_ShakeHands_init_4 : decode b_ShakeHands_init 4 = .ok (.aload_n 0, 1) := by decide +kernel
theorem d_ShakeHands_init_5 : decode b_ShakeHands_init 5 = .ok (.new 7, 3) := by decide +kernel
theorem d_ShakeHands_init_8 : decode b_ShakeHands_init 8 = .ok (.dup, 1) := by decide +kernel
theorem d_ShakeHands_init_9 : decode b_ShakeHands_init 9 = .ok (.invokespecial 9, 3) := by decide +kernel
theorem d_ShakeHands_init_12 : decode b_ShakeHands_init 12 = .ok (.putfield 10, 3) := by decide +kernel
theorem d_ShakeHands_init_15 : decode b_ShakeHands_init 15 = .ok (.aload_n 0, 1) := by decide +kernel
theorem d_ShakeHands_init_16 : decode b_ShakeHands_init 16 = .ok (.new 16, 3) := by decide +kernel
theorem d_ShakeHands_init_19 : decode b_ShakeHands_init 19 = .ok (.dup, 1) := by decide +kernel
theorem d_ShakeHands_init_20 : decode b_ShakeHands_init 20 = .ok (.aload_n 0, 1) := by decide +kernel
theorem d_ShakeHands_init_21 : decode b_ShakeHands_init 21 = .ok (.getfield 10, 3) := by decide +kernel
theorem d_ShakeHands_init_24 : decode b_ShakeHands_init 24 = .ok (.invokespecial 18, 3) := by decide +kernel
theorem d_ShakeHands_init_27 : decode b_ShakeHands_init 27 = .ok (.putfield 21, 3) := by decide +kernel
theorem d_ShakeHands_init_30 : decode b_ShakeHands_init 30 = .ok (.aload_n 0, 1) := by decide +kernel
theorem d_ShakeHands_init_31 : decode b_ShakeHands_init 31 = .ok (.new 25, 3) := by decide +kernel
theorem d_ShakeHands_init_34 : decode b_ShakeHands_init 34 = .ok (.dup, 1) := by decide +kernel
theorem d_ShakeHands_init_35 : decode b_ShakeHands_init 35 = .ok (.invokespecial 27, 3) := by decide +kernel
theorem d_ShakeHands_init_38 : decode b_ShakeHands_init 38 = .ok (.putfield 28, 3) := by decide +kernel
theorem d_ShakeHands_init_41 : decode b_ShakeHands_init 41 = .ok (.aload_n 0, 1) := by decide +kernel
theorem d_ShakeHands_init_42 : decode b_ShakeHands_init 42 = .ok (.new 32, 3) := by decide +kernel
theorem d_ShakeHands_init_45 : decode b_ShakeHands_init 45 = .ok (.dup, 1) := by decide +kernel
theorem d_ShakeHands_init_46 : decode b_ShakeHands_init 46 = .ok (.invokespecial 34, 3) := by decide +kernel
theorem d_ShakeHands_init_49 : decode b_ShakeHands_init 49 = .ok (.putfield 35, 3) := by decide +kernel
theorem d_ShakeHands_init_52 : decode b_ShakeHands_init 52 = .ok (.aload_n 0, 1) := by decide +kernel
theorem d_ShakeHands_init_53 : decode b_ShakeHands_init 53 = .ok (.iconst 2, 1) := by decide +kernel
theorem d_ShakeHands_init_54 : decode b_ShakeHands_init 54 = .ok (.anewarray 32, 3) := by decide +kernel
theorem d_ShakeHands_init_57 : decode b_ShakeHands_init 57 = .ok (.putfield 39, 3) := by decide +kernel
theorem d_ShakeHands_init_60 : decode b_ShakeHands_init 60 = .ok (.iconst 0, 1) := by decide +kernel
theorem d_ShakeHands_init_61 : decode b_ShakeHands_init 61 = .ok (.istore_n 1, 1) := by decide +kernel
theorem d_ShakeHands_init_62 : decode b_ShakeHands_init 62 = .ok (.iload_n 1, 1) := by decide +kernel
theorem d_ShakeHands_init_63 : decode b_ShakeHands_init 63 = .ok (.iconst 2, 1) := by decide +kernel
theorem d_ShakeHands_init_64 : decode b_ShakeHands_init 64 = .ok (.if_icmp .ge 22, 3) := by decide +kernel
theorem d_ShakeHands_init_67 : decode b_ShakeHands_init 67 = .ok (.aload_n 0, 1) := by decide +kernel
theorem d_ShakeHands_init_68 : decode b_ShakeHands_init 68 = .ok (.getfield 39, 3) := by decide +kernel
theorem d_ShakeHands_init_71 : decode b_ShakeHands_init 71 = .ok (.iload_n 1, 1) := by decide +kernel
theorem d_ShakeHands_init_72 : decode b_ShakeHands_init 72 = .ok (.new 32, 3) := by decide +kernel
theorem d_ShakeHands_init_75 : decode b_ShakeHands_init 75 = .ok (.dup, 1) := by decide +kernel
theorem d_ShakeHands_init_76 : decode b_ShakeHands_init 76 = .ok (.invokespecial 34, 3) := by decide +kernel
theorem d_ShakeHands_init_79 : decode b_ShakeHands_init 79 = .ok (.aastore, 1) := by decide +kernel
theorem d_ShakeHands_init_80 : decode b_ShakeHands_init 80 = .ok (.iinc 1 1, 3) := by decide +kernel
theorem d_ShakeHands_init_83 : decode b_ShakeHands_init 83 = .ok (.goto (-21), 3) := by decide +kernel
theorem d_ShakeHands_init_86 : decode b_ShakeHands_init 86 = .ok (.aload_n 0, 1) := by decide +kernel
theorem d_ShakeHands_init_87 : decode b_ShakeHands_init 87 = .ok (.new 43, 3) := by decide +kernel
theorem d_ShakeHands_init_90 : decode b_ShakeHands_init 90 = .ok (.dup, 1) := by decide +kernel
theorem d_ShakeHands_init_91 : decode b_ShakeHands_init 91 = .ok (.aload_n 0, 1) := by decide +kernel
theorem d_ShakeHands_init_92 : decode b_ShakeHands_init 92 = .ok (.getfield 28, 3) := by decide +kernel
theorem d_ShakeHands_init_95 : decode b_ShakeHands_init 95 = .ok (.aload_n 0, 1) := by decide +kernel
theorem d_ShakeHands_init_96 : decode b_ShakeHands_init 96 = .ok (.getfield 35, 3) := by decide +kernel
theorem d_ShakeHands_init_99 : decode b_ShakeHands_init 99 = .ok (.invokespecial 45, 3) := by decide +kernel
theorem d_ShakeHands_init_102 : decode b_ShakeHands_init 102 = .ok (.putfield 48, 3) := by decide +kernel
theorem d_ShakeHands_init_105 : decode b_ShakeHands_init 105 = .ok (.aload_n 0, 1) := by decide +kernel
theorem d_ShakeHands_init_106 : decode b_ShakeHands_init 106 = .ok (.new 52, 3) := by decide +kernel
theorem d_ShakeHands_init_109 : decode b_ShakeHands_init 109 = .ok (.dup, 1) := by decide +kernel
theorem d_ShakeHands_init_110 : decode b_ShakeHands_init 110 = .ok (.aload_n 0, 1) := by decide +kernel
theorem d_ShakeHands_init_111 : decode b_ShakeHands_init 111 = .ok (.getfield 28, 3) := by decide +kernel
theorem d_ShakeHands_init_114 : decode b_ShakeHands_init 114 = .ok (.aload_n 0, 1) := by decide +kernel
theorem d_ShakeHands_init_115 : decode b_ShakeHands_init 115 = .ok (.getfield 35, 3) := by decide +kernel
theorem d_ShakeHands_init_118 : decode b_ShakeHands_init 118 = .ok (.invokespecial 54, 3) := by decide +kernel
theorem d_ShakeHands_init_121 : decode b_ShakeHands_init 121 = .ok (.putfield 55, 3) := by decide +kernel
theorem d_ShakeHands_init_124 : decode b_ShakeHands_init 124 = .ok (.aload_n 0, 1) := by decide +kernel
theorem d_ShakeHands_init_125 : decode b_ShakeHands_init 125 = .ok (.iconst 4, 1) := by decide +kernel
theorem d_ShakeHands_init_126 : decode b_ShakeHands_init 126 = .ok (.anewarray 59, 3) := by decide +kernel
theorem d_ShakeHands_init_129 : decode b_ShakeHands_init 129 = .ok (.putfield 61, 3) := by decide +kernel
theorem d_ShakeHands_init_132 : decode b_ShakeHands_init 132 = .ok (.iconst 0, 1) := by decide +kernel
theorem d_ShakeHands_init_133 : decode b_ShakeHands_init 133 = .ok (.istore_n 1, 1) := by decide +kernel
theorem d_ShakeHands_init_134 : decode b_ShakeHands_init 134 = .ok (.iload_n 1, 1) := by decide +kernel
theorem d_ShakeHands_init_135 : decode b_ShakeHands_init 135 = .ok (.iconst 4, 1) := by decide +kernel
theorem d_ShakeHands_init_136 : decode b_ShakeHands_init 136 = .ok (.if_icmp .ge 22, 3) := by decide +kernel
theorem d_ShakeHands_init_139 : decode b_ShakeHands_init 139 = .ok (.aload_n 0, 1) := by decide +kernel
theorem d_ShakeHands_init_140 : decode b_ShakeHands_init 140 = .ok (.getfield 61, 3) := by decide +kernel
theorem d_ShakeHands_init_143 : decode b_ShakeHands_init 143 = .ok (.iload_n 1, 1) := by decide +kernel
theorem d_ShakeHands_init_144 : decode b_ShakeHands_init 144 = .ok (.new 59, 3) := by decide +kernel
theorem d_ShakeHands_init_147 : decode b_ShakeHands_init 147 = .ok (.dup, 1) := by decide +kernel
theorem d_ShakeHands_init_148 : decode b_ShakeHands_init 148 = .ok (.invokespecial 65, 3) := by decide +kernel
theorem d_ShakeHands_init_151 : decode b_ShakeHands_init 151 = .ok (.aastore, 1) := by decide +kernel
theorem d_ShakeHands_init_152 : decode b_ShakeHands_init 152 = .ok (.iinc 1 1, 3) := by decide +kernel
theorem d_ShakeHands_init_155 : decode b_ShakeHands_init 155 = .ok (.goto (-21), 3) := by decide +kernel
theorem d_ShakeHands_init_158 : decode b_ShakeHands_init 158 = .ok (.aload_n 0, 1) := by decide +kernel
theorem d_ShakeHands_init_159 : decode b_ShakeHands_init 159 = .ok (.bipush 6, 2) := by decide +kernel
theorem d_ShakeHands_init_161 : decode b_ShakeHands_init 161 = .ok (.newarray .long, 2) := by decide +kernel
theorem d_ShakeHands_init_163 : decode b_ShakeHands_init 163 = .ok (.putfield 66, 3) := by decide +kernel
theorem d_ShakeHands_init_166 : decode b_ShakeHands_init 166 = .ok (.return_, 1) := by decide +kernel
theorem nu_ShakeHands (ad : Nat → Nat) : ∀ j, j < 11 → defaultValue (t_ShakeHands j) = vp_V (([2, 2, 2, 2, 2, 2, 2, 2, 2, 0, 0] : List Nat).mapIdx (fun i kd => fldC ad zM 0 i kd)) j := by
  intro j hj
  match j, hj with
  | 0, _ => exact (vpV_fld (ad := ad) (M := zM) (a := 0) (ds := [2, 2, 2, 2, 2, 2, 2, 2, 2, 0, 0]) (j := 0) (kd := 2) rfl).symm
  | 1, _ => exact (vpV_fld (ad := ad) (M := zM) (a := 0) (ds := [2, 2, 2, 2, 2, 2, 2, 2, 2, 0, 0]) (j := 1) (kd := 2) rfl).symm
  | 2, _ => exact (vpV_fld (ad := ad) (M := zM) (a := 0) (ds := [2, 2, 2, 2, 2, 2, 2, 2, 2, 0, 0]) (j := 2) (kd := 2) rfl).symm
  | 3, _ => exact (vpV_fld (ad := ad) (M := zM) (a := 0) (ds := [2, 2, 2, 2, 2, 2, 2, 2, 2, 0, 0]) (j := 3) (kd := 2) rfl).symm
  | 4, _ => exact (vpV_fld (ad := ad) (M := zM) (a := 0) (ds := [2, 2, 2, 2, 2, 2, 2, 2, 2, 0, 0]) (j := 4) (kd := 2) rfl).symm
  | 5, _ => exact (vpV_fld (ad := ad) (M := zM) (a := 0) (ds := [2, 2, 2, 2, 2, 2, 2, 2, 2, 0, 0]) (j := 5) (kd := 2) rfl).symm
  | 6, _ => exact (vpV_fld (ad := ad) (M := zM) (a := 0) (ds := [2, 2, 2, 2, 2, 2, 2, 2, 2, 0, 0]) (j := 6) (kd := 2) rfl).symm
  | 7, _ => exact (vpV_fld (ad := ad) (M := zM) (a := 0) (ds := [2, 2, 2, 2, 2, 2, 2, 2, 2, 0, 0]) (j := 7) (kd := 2) rfl).symm
  | 8, _ => exact (vpV_fld (ad := ad) (M := zM) (a := 0) (ds := [2, 2, 2, 2, 2, 2, 2, 2, 2, 0, 0]) (j := 8) (kd := 2) rfl).symm
  | 9, _ => exact (vpV_fld (ad := ad) (M := zM) (a := 0) (ds := [2, 2, 2, 2, 2, 2, 2, 2, 2, 0, 0]) (j := 9) (kd := 0) rfl).symm
  | 10, _ => exact (vpV_fld (ad := ad) (M := zM) (a := 0) (ds := [2, 2, 2, 2, 2, 2, 2, 2, 2, 0, 0]) (j := 10) (kd := 0) rfl).symm
  | j + 11, h => exact absurd h (by omega)
def mtC_Tape : Mc := ("ShakeHands$Tape", b_Tape_init, 1, 2)
theorem d_Tape_init_0 : decode b_Tape_init 0 = .ok (.aload_n 0, 1) := by decide +kernel
theorem d_Tape_init_1 : decode b_Tape_init 1 = .ok (.invokespecial 1, 3) := by decide +kernel
theorem d_Tape_init_4 : decode b_Tape_init 4 = .ok (.aload_n 0, 1) := by decide +kernel
theorem d_Tape_init_5 : decode b_Tape_init 5 = .ok (.sipush 320, 3) := by decide +kernel
theorem d_Tape_init_8 : decode b_Tape_init 8 = .ok (.newarray .byte, 2) := by decide +kernel
theorem d_Tape_init_10 : decode b_Tape_init 10 = .ok (.putfield 9, 3) := by decide +kernel
theorem d_Tape_init_13 : decode b_Tape_init 13 = .ok (.return_, 1) := by decide +kernel
theorem nu_Tape (ad : Nat → Nat) : ∀ j, j < 2 → defaultValue (t_Tape j) = vp_V (([2, 0] : List Nat).mapIdx (fun i kd => fldC ad zM 0 i kd)) j := by
  intro j hj
  match j, hj with
  | 0, _ => exact (vpV_fld (ad := ad) (M := zM) (a := 0) (ds := [2, 0]) (j := 0) (kd := 2) rfl).symm
  | 1, _ => exact (vpV_fld (ad := ad) (M := zM) (a := 0) (ds := [2, 0]) (j := 1) (kd := 0) rfl).symm
  | j + 2, h => exact absurd h (by omega)
def mtC_Teller : Mc := ("ShakeHands$Teller", b_Teller_init, 2, 6)
theorem d_Teller_init_0 : decode b_Teller_init 0 = .ok (.aload_n 0, 1) := by decide +kernel
theorem d_Teller_init_1 : decode b_Teller_init 1 = .ok (.invokespecial 3, 3) := by decide +kernel
theorem d_Teller_init_4 : decode b_Teller_init 4 = .ok (.aload_n 0, 1) := by decide +kernel
theorem d_Teller_init_5 : decode b_Teller_init 5 = .ok (.new 9, 3) := by decide +kernel
theorem d_Teller_init_8 : decode b_Teller_init 8 = .ok (.dup, 1) := by decide +kernel
theorem d_Teller_init_9 : decode b_Teller_init 9 = .ok (.invokespecial 11, 3) := by decide +kernel
theorem d_Teller_init_12 : decode b_Teller_init 12 = .ok (.putfield 12, 3) := by decide +kernel
theorem d_Teller_init_15 : decode b_Teller_init 15 = .ok (.aload_n 0, 1) := by decide +kernel
theorem d_Teller_init_16 : decode b_Teller_init 16 = .ok (.bipush 6, 2) := by decide +kernel
theorem d_Teller_init_18 : decode b_Teller_init 18 = .ok (.newarray .long, 2) := by decide +kernel
theorem d_Teller_init_20 : decode b_Teller_init 20 = .ok (.putfield 18, 3) := by decide +kernel
theorem d_Teller_init_23 : decode b_Teller_init 23 = .ok (.aload_n 0, 1) := by decide +kernel
theorem d_Teller_init_24 : decode b_Teller_init 24 = .ok (.new 22, 3) := by decide +kernel
theorem d_Teller_init_27 : decode b_Teller_init 27 = .ok (.dup, 1) := by decide +kernel
theorem d_Teller_init_28 : decode b_Teller_init 28 = .ok (.invokespecial 24, 3) := by decide +kernel
theorem d_Teller_init_31 : decode b_Teller_init 31 = .ok (.putfield 25, 3) := by decide +kernel
theorem d_Teller_init_34 : decode b_Teller_init 34 = .ok (.aload_n 0, 1) := by decide +kernel
theorem d_Teller_init_35 : decode b_Teller_init 35 = .ok (.aload_n 1, 1) := by decide +kernel
theorem d_Teller_init_36 : decode b_Teller_init 36 = .ok (.putfield 29, 3) := by decide +kernel
theorem d_Teller_init_39 : decode b_Teller_init 39 = .ok (.return_, 1) := by decide +kernel
theorem nu_Teller (ad : Nat → Nat) : ∀ j, j < 15 → defaultValue (t_Teller j) = vp_V (([2, 2, 0, 0, 2, 2, 0, 0, 0, 0, 0, 0, 0, 0, 0] : List Nat).mapIdx (fun i kd => fldC ad zM 0 i kd)) j := by
  intro j hj
  match j, hj with
  | 0, _ => exact (vpV_fld (ad := ad) (M := zM) (a := 0) (ds := [2, 2, 0, 0, 2, 2, 0, 0, 0, 0, 0, 0, 0, 0, 0]) (j := 0) (kd := 2) rfl).symm
  | 1, _ => exact (vpV_fld (ad := ad) (M := zM) (a := 0) (ds := [2, 2, 0, 0, 2, 2, 0, 0, 0, 0, 0, 0, 0, 0, 0]) (j := 1) (kd := 2) rfl).symm
  | 2, _ => exact (vpV_fld (ad := ad) (M := zM) (a := 0) (ds := [2, 2, 0, 0, 2, 2, 0, 0, 0, 0, 0, 0, 0, 0, 0]) (j := 2) (kd := 0) rfl).symm
  | 3, _ => exact (vpV_fld (ad := ad) (M := zM) (a := 0) (ds := [2, 2, 0, 0, 2, 2, 0, 0, 0, 0, 0, 0, 0, 0, 0]) (j := 3) (kd := 0) rfl).symm
  | 4, _ => exact (vpV_fld (ad := ad) (M := zM) (a := 0) (ds := [2, 2, 0, 0, 2, 2, 0, 0, 0, 0, 0, 0, 0, 0, 0]) (j := 4) (kd := 2) rfl).symm
  | 5, _ => exact (vpV_fld (ad := ad) (M := zM) (a := 0) (ds := [2, 2, 0, 0, 2, 2, 0, 0, 0, 0, 0, 0, 0, 0, 0]) (j := 5) (kd := 2) rfl).symm
  | 6, _ => exact (vpV_fld (ad := ad) (M := zM) (a := 0) (ds := [2, 2, 0, 0, 2, 2, 0, 0, 0, 0, 0, 0, 0, 0, 0]) (j := 6) (kd := 0) rfl).symm
  | 7, _ => exact (vpV_fld (ad := ad) (M := zM) (a := 0) (ds := [2, 2, 0, 0, 2, 2, 0, 0, 0, 0, 0, 0, 0, 0, 0]) (j := 7) (kd := 0) rfl).symm
  | 8, _ => exact (vpV_fld (ad := ad) (M := zM) (a := 0) (ds := [2, 2, 0, 0, 2, 2, 0, 0, 0, 0, 0, 0, 0, 0, 0]) (j := 8) (kd := 0) rfl).symm
  | 9, _ => exact (vpV_fld (ad := ad) (M := zM) (a := 0) (ds := [2, 2, 0, 0, 2, 2, 0, 0, 0, 0, 0, 0, 0, 0, 0]) (j := 9) (kd := 0) rfl).symm
  | 10, _ => exact (vpV_fld (ad := ad) (M := zM) (a := 0) (ds := [2, 2, 0, 0, 2, 2, 0, 0, 0, 0, 0, 0, 0, 0, 0]) (j := 10) (kd := 0) rfl).symm
  | 11, _ => exact (vpV_fld (ad := ad) (M := zM) (a := 0) (ds := [2, 2, 0, 0, 2, 2, 0, 0, 0, 0, 0, 0, 0, 0, 0]) (j := 11) (kd := 0) rfl).symm
  | 12, _ => exact (vpV_fld (ad := ad) (M := zM) (a := 0) (ds := [2, 2, 0, 0, 2, 2, 0, 0, 0, 0, 0, 0, 0, 0, 0]) (j := 12) (kd := 0) rfl).symm
  | 13, _ => exact (vpV_fld (ad := ad) (M := zM) (a := 0) (ds := [2, 2, 0, 0, 2, 2, 0, 0, 0, 0, 0, 0, 0, 0, 0]) (j := 13) (kd := 0) rfl).symm
  | 14, _ => exact (vpV_fld (ad := ad) (M := zM) (a := 0) (ds := [2, 2, 0, 0, 2, 2, 0, 0, 0, 0, 0, 0, 0, 0, 0]) (j := 14) (kd := 0) rfl).symm
  | j + 15, h => exact absurd h (by omega)
def mtC_Circle : Mc := ("ShakeHands$Circle", b_Circle_init, 1, 4)
theorem d_Circle_init_0 : decode b_Circle_init 0 = .ok (.aload_n 0, 1) := by decide +kernel
theorem d_Circle_init_1 : decode b_Circle_init 1 = .ok (.invokespecial 5, 3) := by decide +kernel
theorem d_Circle_init_4 : decode b_Circle_init 4 = .ok (.aload_n 0, 1) := by decide +kernel
theorem d_Circle_init_5 : decode b_Circle_init 5 = .ok (.iconst 3, 1) := by decide +kernel
theorem d_Circle_init_6 : decode b_Circle_init 6 = .ok (.putfield 13, 3) := by decide +kernel
theorem d_Circle_init_9 : decode b_Circle_init 9 = .ok (.aload_n 0, 1) := by decide +kernel
theorem d_Circle_init_10 : decode b_Circle_init 10 = .ok (.bipush 9, 2) := by decide +kernel
theorem d_Circle_init_12 : decode b_Circle_init 12 = .ok (.putfield 17, 3) := by decide +kernel
theorem d_Circle_init_15 : decode b_Circle_init 15 = .ok (.aload_n 0, 1) := by decide +kernel
theorem d_Circle_init_16 : decode b_Circle_init 16 = .ok (.bipush 12, 2) := by decide +kernel
theorem d_Circle_init_18 : decode b_Circle_init 18 = .ok (.newarray .int, 2) := by decide +kernel
theorem d_Circle_init_20 : decode b_Circle_init 20 = .ok (.putfield 20, 3) := by decide +kernel
theorem d_Circle_init_23 : decode b_Circle_init 23 = .ok (.aload_n 0, 1) := by decide +kernel
theorem d_Circle_init_24 : decode b_Circle_init 24 = .ok (.bipush 16, 2) := by decide +kernel
theorem d_Circle_init_26 : decode b_Circle_init 26 = .ok (.newarray .int, 2) := by decide +kernel
theorem d_Circle_init_28 : decode b_Circle_init 28 = .ok (.putfield 24, 3) := by decide +kernel
theorem d_Circle_init_31 : decode b_Circle_init 31 = .ok (.aload_n 0, 1) := by decide +kernel
theorem d_Circle_init_32 : decode b_Circle_init 32 = .ok (.bipush 8, 2) := by decide +kernel
theorem d_Circle_init_34 : decode b_Circle_init 34 = .ok (.newarray .int, 2) := by decide +kernel
theorem d_Circle_init_36 : decode b_Circle_init 36 = .ok (.putfield 27, 3) := by decide +kernel
theorem d_Circle_init_39 : decode b_Circle_init 39 = .ok (.aload_n 0, 1) := by decide +kernel
theorem d_Circle_init_40 : decode b_Circle_init 40 = .ok (.new 1, 3) := by decide +kernel
theorem d_Circle_init_43 : decode b_Circle_init 43 = .ok (.dup, 1) := by decide +kernel
theorem d_Circle_init_44 : decode b_Circle_init 44 = .ok (.invokespecial 30, 3) := by decide +kernel
theorem d_Circle_init_47 : decode b_Circle_init 47 = .ok (.putfield 31, 3) := by decide +kernel
theorem d_Circle_init_50 : decode b_Circle_init 50 = .ok (.return_, 1) := by decide +kernel
theorem nu_Circle (ad : Nat → Nat) : ∀ j, j < 9 → defaultValue (t_Circle j) = vp_V (([0, 0, 2, 0, 2, 0, 2, 0, 2] : List Nat).mapIdx (fun i kd => fldC ad zM 0 i kd)) j := by
  intro j hj
  match j, hj with
  | 0, _ => exact (vpV_fld (ad := ad) (M := zM) (a := 0) (ds := [0, 0, 2, 0, 2, 0, 2, 0, 2]) (j := 0) (kd := 0) rfl).symm
  | 1, _ => exact (vpV_fld (ad := ad) (M := zM) (a := 0) (ds := [0, 0, 2, 0, 2, 0, 2, 0, 2]) (j := 1) (kd := 0) rfl).symm
  | 2, _ => exact (vpV_fld (ad := ad) (M := zM) (a := 0) (ds := [0, 0, 2, 0, 2, 0, 2, 0, 2]) (j := 2) (kd := 2) rfl).symm
  | 3, _ => exact (vpV_fld (ad := ad) (M := zM) (a := 0) (ds := [0, 0, 2, 0, 2, 0, 2, 0, 2]) (j := 3) (kd := 0) rfl).symm
  | 4, _ => exact (vpV_fld (ad := ad) (M := zM) (a := 0) (ds := [0, 0, 2, 0, 2, 0, 2, 0, 2]) (j := 4) (kd := 2) rfl).symm
  | 5, _ => exact (vpV_fld (ad := ad) (M := zM) (a := 0) (ds := [0, 0, 2, 0, 2, 0, 2, 0, 2]) (j := 5) (kd := 0) rfl).symm
  | 6, _ => exact (vpV_fld (ad := ad) (M := zM) (a := 0) (ds := [0, 0, 2, 0, 2, 0, 2, 0, 2]) (j := 6) (kd := 2) rfl).symm
  | 7, _ => exact (vpV_fld (ad := ad) (M := zM) (a := 0) (ds := [0, 0, 2, 0, 2, 0, 2, 0, 2]) (j := 7) (kd := 0) rfl).symm
  | 8, _ => exact (vpV_fld (ad := ad) (M := zM) (a := 0) (ds := [0, 0, 2, 0, 2, 0, 2, 0, 2]) (j := 8) (kd := 2) rfl).symm
  | j + 9, h => exact absurd h (by omega)
def mtC_Row : Mc := ("ShakeHands$Row", b_Row_init, 1, 2)
theorem d_Row_init_0 : decode b_Row_init 0 = .ok (.aload_n 0, 1) := by decide +kernel
theorem d_Row_init_1 : decode b_Row_init 1 = .ok (.invokespecial 3, 3) := by decide +kernel
theorem d_Row_init_4 : decode b_Row_init 4 = .ok (.return_, 1) := by decide +kernel
theorem nu_Row (ad : Nat → Nat) : ∀ j, j < 2 → defaultValue (t_Row j) = vp_V (([1, 0] : List Nat).mapIdx (fun i kd => fldC ad zM 0 i kd)) j := by
  intro j hj
  match j, hj with
  | 0, _ => exact (vpV_fld (ad := ad) (M := zM) (a := 0) (ds := [1, 0]) (j := 0) (kd := 1) rfl).symm
  | 1, _ => exact (vpV_fld (ad := ad) (M := zM) (a := 0) (ds := [1, 0]) (j := 1) (kd := 0) rfl).symm
  | j + 2, h => exact absurd h (by omega)
def mtC_Minds : Mc := ("ShakeHands$Minds", b_Minds_init, 1, 2)
theorem d_Minds_init_0 : decode b_Minds_init 0 = .ok (.aload_n 0, 1) := by decide +kernel
theorem d_Minds_init_1 : decode b_Minds_init 1 = .ok (.invokespecial 3, 3) := by decide +kernel
theorem d_Minds_init_4 : decode b_Minds_init 4 = .ok (.aload_n 0, 1) := by decide +kernel
theorem d_Minds_init_5 : decode b_Minds_init 5 = .ok (.bipush 6, 2) := by decide +kernel
theorem d_Minds_init_7 : decode b_Minds_init 7 = .ok (.newarray .long, 2) := by decide +kernel
theorem d_Minds_init_9 : decode b_Minds_init 9 = .ok (.putfield 9, 3) := by decide +kernel
theorem d_Minds_init_12 : decode b_Minds_init 12 = .ok (.aload_n 0, 1) := by decide +kernel
theorem d_Minds_init_13 : decode b_Minds_init 13 = .ok (.bipush 6, 2) := by decide +kernel
theorem d_Minds_init_15 : decode b_Minds_init 15 = .ok (.newarray .int, 2) := by decide +kernel
theorem d_Minds_init_17 : decode b_Minds_init 17 = .ok (.putfield 15, 3) := by decide +kernel
theorem d_Minds_init_20 : decode b_Minds_init 20 = .ok (.return_, 1) := by decide +kernel
theorem nu_Minds (ad : Nat → Nat) : ∀ j, j < 4 → defaultValue (t_Minds j) = vp_V (([2, 0, 0, 2] : List Nat).mapIdx (fun i kd => fldC ad zM 0 i kd)) j := by
  intro j hj
  match j, hj with
  | 0, _ => exact (vpV_fld (ad := ad) (M := zM) (a := 0) (ds := [2, 0, 0, 2]) (j := 0) (kd := 2) rfl).symm
  | 1, _ => exact (vpV_fld (ad := ad) (M := zM) (a := 0) (ds := [2, 0, 0, 2]) (j := 1) (kd := 0) rfl).symm
  | 2, _ => exact (vpV_fld (ad := ad) (M := zM) (a := 0) (ds := [2, 0, 0, 2]) (j := 2) (kd := 0) rfl).symm
  | 3, _ => exact (vpV_fld (ad := ad) (M := zM) (a := 0) (ds := [2, 0, 0, 2]) (j := 3) (kd := 2) rfl).symm
  | j + 4, h => exact absurd h (by omega)
def mtC_Search : Mc := ("ShakeHands$Search", b_Search_init, 3, 2)
theorem d_Search_init_0 : decode b_Search_init 0 = .ok (.aload_n 0, 1) := by decide +kernel
theorem d_Search_init_1 : decode b_Search_init 1 = .ok (.invokespecial 3, 3) := by decide +kernel
theorem d_Search_init_4 : decode b_Search_init 4 = .ok (.aload_n 0, 1) := by decide +kernel
theorem d_Search_init_5 : decode b_Search_init 5 = .ok (.bipush 6, 2) := by decide +kernel
theorem d_Search_init_7 : decode b_Search_init 7 = .ok (.newarray .int, 2) := by decide +kernel
theorem d_Search_init_9 : decode b_Search_init 9 = .ok (.putfield 11, 3) := by decide +kernel
theorem d_Search_init_12 : decode b_Search_init 12 = .ok (.aload_n 0, 1) := by decide +kernel
theorem d_Search_init_13 : decode b_Search_init 13 = .ok (.bipush 6, 2) := by decide +kernel
theorem d_Search_init_15 : decode b_Search_init 15 = .ok (.newarray .int, 2) := by decide +kernel
theorem d_Search_init_17 : decode b_Search_init 17 = .ok (.putfield 15, 3) := by decide +kernel
theorem d_Search_init_20 : decode b_Search_init 20 = .ok (.aload_n 0, 1) := by decide +kernel
theorem d_Search_init_21 : decode b_Search_init 21 = .ok (.bipush 7, 2) := by decide +kernel
theorem d_Search_init_23 : decode b_Search_init 23 = .ok (.bipush 6, 2) := by decide +kernel
theorem d_Search_init_25 : decode b_Search_init 25 = .ok (.multianewarray 18 2, 4) := by decide +kernel
theorem d_Search_init_29 : decode b_Search_init 29 = .ok (.putfield 20, 3) := by decide +kernel
theorem d_Search_init_32 : decode b_Search_init 32 = .ok (.aload_n 0, 1) := by decide +kernel
theorem d_Search_init_33 : decode b_Search_init 33 = .ok (.aload_n 1, 1) := by decide +kernel
theorem d_Search_init_34 : decode b_Search_init 34 = .ok (.putfield 23, 3) := by decide +kernel
theorem d_Search_init_37 : decode b_Search_init 37 = .ok (.aload_n 0, 1) := by decide +kernel
theorem d_Search_init_38 : decode b_Search_init 38 = .ok (.aload_n 2, 1) := by decide +kernel
theorem d_Search_init_39 : decode b_Search_init 39 = .ok (.putfield 27, 3) := by decide +kernel
theorem d_Search_init_42 : decode b_Search_init 42 = .ok (.return_, 1) := by decide +kernel
theorem nu_Search (ad : Nat → Nat) : ∀ j, j < 13 → defaultValue (t_Search j) = vp_V (([2, 2, 0, 0, 0, 2, 2, 2, 0, 0, 0, 0, 0] : List Nat).mapIdx (fun i kd => fldC ad zM 0 i kd)) j := by
  intro j hj
  match j, hj with
  | 0, _ => exact (vpV_fld (ad := ad) (M := zM) (a := 0) (ds := [2, 2, 0, 0, 0, 2, 2, 2, 0, 0, 0, 0, 0]) (j := 0) (kd := 2) rfl).symm
  | 1, _ => exact (vpV_fld (ad := ad) (M := zM) (a := 0) (ds := [2, 2, 0, 0, 0, 2, 2, 2, 0, 0, 0, 0, 0]) (j := 1) (kd := 2) rfl).symm
  | 2, _ => exact (vpV_fld (ad := ad) (M := zM) (a := 0) (ds := [2, 2, 0, 0, 0, 2, 2, 2, 0, 0, 0, 0, 0]) (j := 2) (kd := 0) rfl).symm
  | 3, _ => exact (vpV_fld (ad := ad) (M := zM) (a := 0) (ds := [2, 2, 0, 0, 0, 2, 2, 2, 0, 0, 0, 0, 0]) (j := 3) (kd := 0) rfl).symm
  | 4, _ => exact (vpV_fld (ad := ad) (M := zM) (a := 0) (ds := [2, 2, 0, 0, 0, 2, 2, 2, 0, 0, 0, 0, 0]) (j := 4) (kd := 0) rfl).symm
  | 5, _ => exact (vpV_fld (ad := ad) (M := zM) (a := 0) (ds := [2, 2, 0, 0, 0, 2, 2, 2, 0, 0, 0, 0, 0]) (j := 5) (kd := 2) rfl).symm
  | 6, _ => exact (vpV_fld (ad := ad) (M := zM) (a := 0) (ds := [2, 2, 0, 0, 0, 2, 2, 2, 0, 0, 0, 0, 0]) (j := 6) (kd := 2) rfl).symm
  | 7, _ => exact (vpV_fld (ad := ad) (M := zM) (a := 0) (ds := [2, 2, 0, 0, 0, 2, 2, 2, 0, 0, 0, 0, 0]) (j := 7) (kd := 2) rfl).symm
  | 8, _ => exact (vpV_fld (ad := ad) (M := zM) (a := 0) (ds := [2, 2, 0, 0, 0, 2, 2, 2, 0, 0, 0, 0, 0]) (j := 8) (kd := 0) rfl).symm
  | 9, _ => exact (vpV_fld (ad := ad) (M := zM) (a := 0) (ds := [2, 2, 0, 0, 0, 2, 2, 2, 0, 0, 0, 0, 0]) (j := 9) (kd := 0) rfl).symm
  | 10, _ => exact (vpV_fld (ad := ad) (M := zM) (a := 0) (ds := [2, 2, 0, 0, 0, 2, 2, 2, 0, 0, 0, 0, 0]) (j := 10) (kd := 0) rfl).symm
  | 11, _ => exact (vpV_fld (ad := ad) (M := zM) (a := 0) (ds := [2, 2, 0, 0, 0, 2, 2, 2, 0, 0, 0, 0, 0]) (j := 11) (kd := 0) rfl).symm
  | 12, _ => exact (vpV_fld (ad := ad) (M := zM) (a := 0) (ds := [2, 2, 0, 0, 0, 2, 2, 2, 0, 0, 0, 0, 0]) (j := 12) (kd := 0) rfl).symm
  | j + 13, h => exact absurd h (by omega)
def mtC_Habit : Mc := ("ShakeHands$Habit", b_Habit_init, 3, 2)
theorem d_Habit_init_0 : decode b_Habit_init 0 = .ok (.aload_n 0, 1) := by decide +kernel
theorem d_Habit_init_1 : decode b_Habit_init 1 = .ok (.invokespecial 3, 3) := by decide +kernel
theorem d_Habit_init_4 : decode b_Habit_init 4 = .ok (.aload_n 0, 1) := by decide +kernel
theorem d_Habit_init_5 : decode b_Habit_init 5 = .ok (.sipush 1206, 3) := by decide +kernel
theorem d_Habit_init_8 : decode b_Habit_init 8 = .ok (.newarray .long, 2) := by decide +kernel
theorem d_Habit_init_10 : decode b_Habit_init 10 = .ok (.putfield 11, 3) := by decide +kernel
theorem d_Habit_init_13 : decode b_Habit_init 13 = .ok (.aload_n 0, 1) := by decide +kernel
theorem d_Habit_init_14 : decode b_Habit_init 14 = .ok (.bipush 6, 2) := by decide +kernel
theorem d_Habit_init_16 : decode b_Habit_init 16 = .ok (.newarray .long, 2) := by decide +kernel
theorem d_Habit_init_18 : decode b_Habit_init 18 = .ok (.putfield 15, 3) := by decide +kernel
theorem d_Habit_init_21 : decode b_Habit_init 21 = .ok (.aload_n 0, 1) := by decide +kernel
theorem d_Habit_init_22 : decode b_Habit_init 22 = .ok (.aload_n 1, 1) := by decide +kernel
theorem d_Habit_init_23 : decode b_Habit_init 23 = .ok (.putfield 18, 3) := by decide +kernel
theorem d_Habit_init_26 : decode b_Habit_init 26 = .ok (.aload_n 0, 1) := by decide +kernel
theorem d_Habit_init_27 : decode b_Habit_init 27 = .ok (.aload_n 2, 1) := by decide +kernel
theorem d_Habit_init_28 : decode b_Habit_init 28 = .ok (.putfield 22, 3) := by decide +kernel
theorem d_Habit_init_31 : decode b_Habit_init 31 = .ok (.return_, 1) := by decide +kernel
theorem nu_Habit (ad : Nat → Nat) : ∀ j, j < 4 → defaultValue (t_Habit j) = vp_V (([2, 2, 2, 2] : List Nat).mapIdx (fun i kd => fldC ad zM 0 i kd)) j := by
  intro j hj
  match j, hj with
  | 0, _ => exact (vpV_fld (ad := ad) (M := zM) (a := 0) (ds := [2, 2, 2, 2]) (j := 0) (kd := 2) rfl).symm
  | 1, _ => exact (vpV_fld (ad := ad) (M := zM) (a := 0) (ds := [2, 2, 2, 2]) (j := 1) (kd := 2) rfl).symm
  | 2, _ => exact (vpV_fld (ad := ad) (M := zM) (a := 0) (ds := [2, 2, 2, 2]) (j := 2) (kd := 2) rfl).symm
  | 3, _ => exact (vpV_fld (ad := ad) (M := zM) (a := 0) (ds := [2, 2, 2, 2]) (j := 3) (kd := 2) rfl).symm
  | j + 4, h => exact absurd h (by omega)
def mtC_Sheet : Mc := ("ShakeHands$Sheet", b_Sheet_init, 1, 2)
theorem d_Sheet_init_0 : decode b_Sheet_init 0 = .ok (.aload_n 0, 1) := by decide +kernel
theorem d_Sheet_init_1 : decode b_Sheet_init 1 = .ok (.invokespecial 1, 3) := by decide +kernel
theorem d_Sheet_init_4 : decode b_Sheet_init 4 = .ok (.aload_n 0, 1) := by decide +kernel
theorem d_Sheet_init_5 : decode b_Sheet_init 5 = .ok (.bipush 40, 2) := by decide +kernel
theorem d_Sheet_init_7 : decode b_Sheet_init 7 = .ok (.newarray .int, 2) := by decide +kernel
theorem d_Sheet_init_9 : decode b_Sheet_init 9 = .ok (.putfield 9, 3) := by decide +kernel
theorem d_Sheet_init_12 : decode b_Sheet_init 12 = .ok (.return_, 1) := by decide +kernel
theorem nu_Sheet (ad : Nat → Nat) : ∀ j, j < 4 → defaultValue (t_Sheet j) = vp_V (([0, 0, 0, 2] : List Nat).mapIdx (fun i kd => fldC ad zM 0 i kd)) j := by
  intro j hj
  match j, hj with
  | 0, _ => exact (vpV_fld (ad := ad) (M := zM) (a := 0) (ds := [0, 0, 0, 2]) (j := 0) (kd := 0) rfl).symm
  | 1, _ => exact (vpV_fld (ad := ad) (M := zM) (a := 0) (ds := [0, 0, 0, 2]) (j := 1) (kd := 0) rfl).symm
  | 2, _ => exact (vpV_fld (ad := ad) (M := zM) (a := 0) (ds := [0, 0, 0, 2]) (j := 2) (kd := 0) rfl).symm
  | 3, _ => exact (vpV_fld (ad := ad) (M := zM) (a := 0) (ds := [0, 0, 0, 2]) (j := 3) (kd := 2) rfl).symm
  | j + 4, h => exact absurd h (by omega)
theorem oi_ShakeHands_1 : Cond.methodLink "ShakeHands" 1 objectInit ∈ tbl := tb_1 23 (by decide +kernel) rfl
theorem oi_Circle_5 : Cond.methodLink "ShakeHands$Circle" 5 objectInit ∈ tbl := tb_1 54 (by decide +kernel) rfl
theorem oi_Habit_3 : Cond.methodLink "ShakeHands$Habit" 3 objectInit ∈ tbl := tb_2 19 (by decide +kernel) rfl
theorem oi_Minds_3 : Cond.methodLink "ShakeHands$Minds" 3 objectInit ∈ tbl := tb_1 176 (by decide +kernel) rfl
theorem oi_Row_3 : Cond.methodLink "ShakeHands$Row" 3 objectInit ∈ tbl := tb_1 60 (by decide +kernel) rfl
theorem oi_Search_3 : Cond.methodLink "ShakeHands$Search" 3 objectInit ∈ tbl := tb_1 206 (by decide +kernel) rfl
theorem oi_Sheet_1 : Cond.methodLink "ShakeHands$Sheet" 1 objectInit ∈ tbl := tb_2 39 (by decide +kernel) rfl
theorem oi_Tape_1 : Cond.methodLink "ShakeHands$Tape" 1 objectInit ∈ tbl := tb_1 31 (by decide +kernel) rfl
theorem oi_Teller_3 : Cond.methodLink "ShakeHands$Teller" 3 objectInit ∈ tbl := tb_1 48 (by decide +kernel) rfl
theorem cwl_ShakeHands_7 : Cond.classLink "ShakeHands" 7 "ShakeHands$Tape" ∈ tbl := tb_1 26 (by decide +kernel) rfl
theorem cwl_ShakeHands_16 : Cond.classLink "ShakeHands" 16 "ShakeHands$Teller" ∈ tbl := tb_1 43 (by decide +kernel) rfl
theorem cwl_ShakeHands_25 : Cond.classLink "ShakeHands" 25 "ShakeHands$Circle" ∈ tbl := tb_1 169 (by decide +kernel) rfl
theorem cwl_ShakeHands_32 : Cond.classLink "ShakeHands" 32 "ShakeHands$Minds" ∈ tbl := tb_1 171 (by decide +kernel) rfl
theorem cwl_ShakeHands_43 : Cond.classLink "ShakeHands" 43 "ShakeHands$Search" ∈ tbl := tb_1 201 (by decide +kernel) rfl
theorem cwl_ShakeHands_52 : Cond.classLink "ShakeHands" 52 "ShakeHands$Habit" ∈ tbl := tb_2 14 (by decide +kernel) rfl
theorem cwl_ShakeHands_59 : Cond.classLink "ShakeHands" 59 "ShakeHands$Sheet" ∈ tbl := tb_2 33 (by decide +kernel) rfl
theorem cwl_Circle_1 : Cond.classLink "ShakeHands$Circle" 1 "ShakeHands$Row" ∈ tbl := tb_1 55 (by decide +kernel) rfl
theorem cwl_Search_18 : Cond.classLink "ShakeHands$Search" 18 "[[J" ∈ tbl := tb_1 207 (by decide +kernel) rfl
theorem cwl_Teller_9 : Cond.classLink "ShakeHands$Teller" 9 "ShakeHands$Circle" ∈ tbl := tb_1 49 (by decide +kernel) rfl
theorem cwl_Teller_22 : Cond.classLink "ShakeHands$Teller" 22 "ShakeHands$Row" ∈ tbl := tb_1 116 (by decide +kernel) rfl
theorem ac_byte : Cond.arrayClass .byte ∈ tbl := tb_1 42 (by decide +kernel) rfl
theorem ac_int : Cond.arrayClass .int ∈ tbl := tb_1 70 (by decide +kernel) rfl
theorem ac_long : Cond.arrayClass .long ∈ tbl := tb_1 168 (by decide +kernel) rfl
theorem cN_ShakeHands_9 : ("ShakeHands", 9, y_Tape_init) ∈ nestI := by decide +kernel
theorem cI_ShakeHands_18 : Cond.methodLink "ShakeHands" 18 y_Teller_init ∈ tbl := tb_1 45 (by decide +kernel) rfl
theorem cN_ShakeHands_27 : ("ShakeHands", 27, y_Circle_init) ∈ nestI := by decide +kernel
theorem cN_ShakeHands_34 : ("ShakeHands", 34, y_Minds_init) ∈ nestI := by decide +kernel
theorem cI_ShakeHands_45 : Cond.methodLink "ShakeHands" 45 y_Search_init ∈ tbl := tb_1 203 (by decide +kernel) rfl
theorem cI_ShakeHands_54 : Cond.methodLink "ShakeHands" 54 y_Habit_init ∈ tbl := tb_2 16 (by decide +kernel) rfl
theorem cN_ShakeHands_65 : ("ShakeHands", 65, y_Sheet_init) ∈ nestI := by decide +kernel
theorem cN_Circle_30 : ("ShakeHands$Circle", 30, y_Row_init) ∈ nestI := by decide +kernel
theorem cN_Teller_11 : ("ShakeHands$Teller", 11, y_Circle_init) ∈ nestI := by decide +kernel
theorem cN_Teller_24 : ("ShakeHands$Teller", 24, y_Row_init) ∈ nestI := by decide +kernel
theorem dn_Circle_init : Dn y_Circle_init 0 := ⟨by decide +kernel, by decide +kernel, by decide +kernel⟩
theorem dn_Habit_init : Dn y_Habit_init 2 := ⟨by decide +kernel, by decide +kernel, by decide +kernel⟩
theorem dn_Minds_init : Dn y_Minds_init 0 := ⟨by decide +kernel, by decide +kernel, by decide +kernel⟩
theorem dn_Row_init : Dn y_Row_init 0 := ⟨by decide +kernel, by decide +kernel, by decide +kernel⟩
theorem dn_Search_init : Dn y_Search_init 2 := ⟨by decide +kernel, by decide +kernel, by decide +kernel⟩
theorem dn_Sheet_init : Dn y_Sheet_init 0 := ⟨by decide +kernel, by decide +kernel, by decide +kernel⟩
theorem dn_Tape_init : Dn y_Tape_init 0 := ⟨by decide +kernel, by decide +kernel, by decide +kernel⟩
theorem dn_Teller_init : Dn y_Teller_init 1 := ⟨by decide +kernel, by decide +kernel, by decide +kernel⟩
set_option maxRecDepth 20000 in
set_option maxHeartbeats 4000000 in
theorem CC_1 : CtC y_Tape_init mtC_Tape [Value.ref 1] [(8, [2, 2, 2, 2, 2, 2, 2, 2, 2, 0, 0]), (6, [2, 0])] (zM) (PC [(8, [2, 2, 2, 2, 2, 2, 2, 2, 2, 0, 0]), (6, [5, 0]), (101, [320])] (zM)) 1 320 := by
  refine ctc_of (by decide +kernel) rfl rfl (Nat.le_of_ble_eq_true rfl) ?_
  refine c_aload_n (pc := 0) (q := 0) d_Tape_init_0 rfl rfl ?_
  refine c_objInit (pc := 1) d_Tape_init_1 oi_Tape_1 (Nat.le_of_ble_eq_true rfl) (Nat.le_of_ble_eq_true rfl) ?_
  refine c_aload_n (pc := 4) (q := 0) d_Tape_init_4 rfl rfl ?_
  refine c_sipush (pc := 5) d_Tape_init_5 k_s_320 ?_
  refine c_newaB (pc := 8) (N := 320) (sh8 := [(8, [2, 2, 2, 2, 2, 2, 2, 2, 2, 0, 0]), (6, [2, 0]), (101, [320])]) (a9 := 2) d_Tape_init_8 (by decide) (by decide) ac_byte (Nat.le_of_ble_eq_true rfl) ⟨by funext y; simp [si, zM], by funext y; simp [si, zM]⟩ (Nat.le_of_ble_eq_true rfl) (Nat.le_of_ble_eq_true rfl) (Nat.le_of_ble_eq_true rfl) rfl rfl ?_
  refine c_putR (pc := 10) (sh8 := [(8, [2, 2, 2, 2, 2, 2, 2, 2, 2, 0, 0]), (6, [5, 0]), (101, [320])]) d_Tape_init_10 fl_Tape_9 rfl rfl (by decide) (by decide) (Nat.le_of_ble_eq_true rfl) (fun C T N h => by cases h; rfl) rfl ?_
  exact c_return (pc := 13) d_Tape_init_13 (Nat.le_of_ble_eq_true rfl) (Nat.le_of_ble_eq_true rfl) rfl rfl
set_option maxRecDepth 20000 in
set_option maxHeartbeats 4000000 in
theorem CC_2 : CtC y_Row_init mtC_Row [Value.ref 8] [(8, [4, 2, 2, 2, 2, 2, 2, 2, 2, 0, 0]), (6, [5, 0]), (101, [320]), (7, [2, 2, 0, 0, 2, 2, 0, 0, 0, 0, 0, 0, 0, 0, 0]), (0, [0, 0, 8, 0, 9, 0, 10, 0, 2]), (100, [12]), (100, [16]), (100, [8]), (3, [1, 0])] (si (si zM 4 0 3) 4 1 9) (PC [(8, [4, 2, 2, 2, 2, 2, 2, 2, 2, 0, 0]), (6, [5, 0]), (101, [320]), (7, [2, 2, 0, 0, 2, 2, 0, 0, 0, 0, 0, 0, 0, 0, 0]), (0, [0, 0, 8, 0, 9, 0, 10, 0, 2]), (100, [12]), (100, [16]), (100, [8]), (3, [1, 0])] (si (si zM 4 0 3) 4 1 9)) 0 0 := by
  refine ctc_of (by decide +kernel) rfl rfl (Nat.le_of_ble_eq_true rfl) ?_
  refine c_aload_n (pc := 0) (q := 0) d_Row_init_0 rfl rfl ?_
  refine c_objInit (pc := 1) d_Row_init_1 oi_Row_3 (Nat.le_of_ble_eq_true rfl) (Nat.le_of_ble_eq_true rfl) ?_
  exact c_return (pc := 4) d_Row_init_4 (Nat.le_of_ble_eq_true rfl) (Nat.le_of_ble_eq_true rfl) rfl rfl
set_option maxRecDepth 20000 in
set_option maxHeartbeats 4000000 in
theorem CC_3 : CtC y_Circle_init mtC_Circle [Value.ref 4] [(8, [4, 2, 2, 2, 2, 2, 2, 2, 2, 0, 0]), (6, [5, 0]), (101, [320]), (7, [2, 2, 0, 0, 2, 2, 0, 0, 0, 0, 0, 0, 0, 0, 0]), (0, [0, 0, 2, 0, 2, 0, 2, 0, 2])] (zM) (PC [(8, [4, 2, 2, 2, 2, 2, 2, 2, 2, 0, 0]), (6, [5, 0]), (101, [320]), (7, [2, 2, 0, 0, 2, 2, 0, 0, 0, 0, 0, 0, 0, 0, 0]), (0, [0, 0, 8, 0, 9, 0, 10, 0, 11]), (100, [12]), (100, [16]), (100, [8]), (3, [1, 0])] (si (si zM 4 0 3) 4 1 9)) 4 38 := by
  refine ctc_of (by decide +kernel) rfl rfl (Nat.le_of_ble_eq_true rfl) ?_
  refine c_aload_n (pc := 0) (q := 0) d_Circle_init_0 rfl rfl ?_
  refine c_objInit (pc := 1) d_Circle_init_1 oi_Circle_5 (Nat.le_of_ble_eq_true rfl) (Nat.le_of_ble_eq_true rfl) ?_
  refine c_aload_n (pc := 4) (q := 0) d_Circle_init_4 rfl rfl ?_
  refine c_iconst (pc := 5) d_Circle_init_5 k_i_3 ?_
  refine c_putI (pc := 6) d_Circle_init_6 fl_Circle_13 rfl (by decide) (by decide) rfl (Nat.le_of_ble_eq_true rfl) ?_
  refine c_aload_n (pc := 9) (q := 0) d_Circle_init_9 rfl rfl ?_
  refine c_bipush (pc := 10) d_Circle_init_10 k_b_9 ?_
  refine c_putI (pc := 12) d_Circle_init_12 fl_Circle_17 rfl (by decide) (by decide) rfl (Nat.le_of_ble_eq_true rfl) ?_
  refine c_aload_n (pc := 15) (q := 0) d_Circle_init_15 rfl rfl ?_
  refine c_bipush (pc := 16) d_Circle_init_16 k_b_12 ?_
  refine c_newaI (pc := 18) (N := 12) (sh8 := [(8, [4, 2, 2, 2, 2, 2, 2, 2, 2, 0, 0]), (6, [5, 0]), (101, [320]), (7, [2, 2, 0, 0, 2, 2, 0, 0, 0, 0, 0, 0, 0, 0, 0]), (0, [0, 0, 2, 0, 2, 0, 2, 0, 2]), (100, [12])]) (a9 := 5) d_Circle_init_18 (by decide) (by decide) ac_int (Nat.le_of_ble_eq_true rfl) ⟨by funext y; simp [si, zM], by funext y; simp [si, zM]⟩ (Nat.le_of_ble_eq_true rfl) (Nat.le_of_ble_eq_true rfl) (Nat.le_of_ble_eq_true rfl) rfl rfl ?_
  refine c_putR (pc := 20) (sh8 := [(8, [4, 2, 2, 2, 2, 2, 2, 2, 2, 0, 0]), (6, [5, 0]), (101, [320]), (7, [2, 2, 0, 0, 2, 2, 0, 0, 0, 0, 0, 0, 0, 0, 0]), (0, [0, 0, 8, 0, 2, 0, 2, 0, 2]), (100, [12])]) d_Circle_init_20 fl_Circle_20 rfl rfl (by decide) (by decide) (Nat.le_of_ble_eq_true rfl) (fun C T N h => by cases h; rfl) rfl ?_
  refine c_aload_n (pc := 23) (q := 0) d_Circle_init_23 rfl rfl ?_
  refine c_bipush (pc := 24) d_Circle_init_24 k_b_16 ?_
  refine c_newaI (pc := 26) (N := 16) (sh8 := [(8, [4, 2, 2, 2, 2, 2, 2, 2, 2, 0, 0]), (6, [5, 0]), (101, [320]), (7, [2, 2, 0, 0, 2, 2, 0, 0, 0, 0, 0, 0, 0, 0, 0]), (0, [0, 0, 8, 0, 2, 0, 2, 0, 2]), (100, [12]), (100, [16])]) (a9 := 6) d_Circle_init_26 (by decide) (by decide) ac_int (Nat.le_of_ble_eq_true rfl) ⟨by funext y; simp [si, zM], by funext y; simp [si, zM]⟩ (Nat.le_of_ble_eq_true rfl) (Nat.le_of_ble_eq_true rfl) (Nat.le_of_ble_eq_true rfl) rfl rfl ?_
  refine c_putR (pc := 28) (sh8 := [(8, [4, 2, 2, 2, 2, 2, 2, 2, 2, 0, 0]), (6, [5, 0]), (101, [320]), (7, [2, 2, 0, 0, 2, 2, 0, 0, 0, 0, 0, 0, 0, 0, 0]), (0, [0, 0, 8, 0, 9, 0, 2, 0, 2]), (100, [12]), (100, [16])]) d_Circle_init_28 fl_Circle_24 rfl rfl (by decide) (by decide) (Nat.le_of_ble_eq_true rfl) (fun C T N h => by cases h; rfl) rfl ?_
  refine c_aload_n (pc := 31) (q := 0) d_Circle_init_31 rfl rfl ?_
  refine c_bipush (pc := 32) d_Circle_init_32 k_b_8 ?_
  refine c_newaI (pc := 34) (N := 8) (sh8 := [(8, [4, 2, 2, 2, 2, 2, 2, 2, 2, 0, 0]), (6, [5, 0]), (101, [320]), (7, [2, 2, 0, 0, 2, 2, 0, 0, 0, 0, 0, 0, 0, 0, 0]), (0, [0, 0, 8, 0, 9, 0, 2, 0, 2]), (100, [12]), (100, [16]), (100, [8])]) (a9 := 7) d_Circle_init_34 (by decide) (by decide) ac_int (Nat.le_of_ble_eq_true rfl) ⟨by funext y; simp [si, zM], by funext y; simp [si, zM]⟩ (Nat.le_of_ble_eq_true rfl) (Nat.le_of_ble_eq_true rfl) (Nat.le_of_ble_eq_true rfl) rfl rfl ?_
  refine c_putR (pc := 36) (sh8 := [(8, [4, 2, 2, 2, 2, 2, 2, 2, 2, 0, 0]), (6, [5, 0]), (101, [320]), (7, [2, 2, 0, 0, 2, 2, 0, 0, 0, 0, 0, 0, 0, 0, 0]), (0, [0, 0, 8, 0, 9, 0, 10, 0, 2]), (100, [12]), (100, [16]), (100, [8])]) d_Circle_init_36 fl_Circle_27 rfl rfl (by decide) (by decide) (Nat.le_of_ble_eq_true rfl) (fun C T N h => by cases h; rfl) rfl ?_
  refine c_aload_n (pc := 39) (q := 0) d_Circle_init_39 rfl rfl ?_
  refine c_new (pc := 40) (ci := 3) (T := F_Row) (N := 2) (ds := [1, 0]) (sh8 := [(8, [4, 2, 2, 2, 2, 2, 2, 2, 2, 0, 0]), (6, [5, 0]), (101, [320]), (7, [2, 2, 0, 0, 2, 2, 0, 0, 0, 0, 0, 0, 0, 0, 0]), (0, [0, 0, 8, 0, 9, 0, 10, 0, 2]), (100, [12]), (100, [16]), (100, [8]), (3, [1, 0])]) (a9 := 8) d_Circle_init_40 rfl (by decide) i_Row t_Row_ok cwl_Circle_1 in_Row ini_Row (fun ad j hj => nu_Row ad j hj) ⟨by funext y; simp [si, zM], by funext y; simp [si, zM]⟩ (Nat.le_of_ble_eq_true rfl) (Nat.le_of_ble_eq_true rfl) (Nat.le_of_ble_eq_true rfl) rfl rfl ?_
  refine c_dup (pc := 43) d_Circle_init_43 rfl ?_
  refine c_initN (pc := 44) (as := []) (a := 8) d_Circle_init_44 CC_2 cN_Circle_30 cd_Row_init rfl im_Row_init ini_Row dn_Row_init rfl (by decide) (by decide) (Nat.le_of_ble_eq_true rfl) (Nat.le_of_ble_eq_true rfl) (Nat.le_of_ble_eq_true rfl) ?_
  refine c_putR (pc := 47) (sh8 := [(8, [4, 2, 2, 2, 2, 2, 2, 2, 2, 0, 0]), (6, [5, 0]), (101, [320]), (7, [2, 2, 0, 0, 2, 2, 0, 0, 0, 0, 0, 0, 0, 0, 0]), (0, [0, 0, 8, 0, 9, 0, 10, 0, 11]), (100, [12]), (100, [16]), (100, [8]), (3, [1, 0])]) d_Circle_init_47 fl_Circle_31 rfl rfl (by decide) (by decide) (Nat.le_of_ble_eq_true rfl) (fun C T N h => by cases h; rfl) rfl ?_
  exact c_return (pc := 50) d_Circle_init_50 (Nat.le_of_ble_eq_true rfl) (Nat.le_of_ble_eq_true rfl) rfl rfl
set_option maxRecDepth 20000 in
set_option maxHeartbeats 4000000 in
theorem CC_4 : CtC y_Row_init mtC_Row [Value.ref 10] [(8, [4, 2, 2, 2, 2, 2, 2, 2, 2, 0, 0]), (6, [5, 0]), (101, [320]), (7, [7, 12, 0, 0, 2, 2, 0, 0, 0, 0, 0, 0, 0, 0, 0]), (0, [0, 0, 8, 0, 9, 0, 10, 0, 11]), (100, [12]), (100, [16]), (100, [8]), (3, [1, 0]), (103, [6]), (3, [1, 0])] (si (si zM 4 0 3) 4 1 9) (PC [(8, [4, 2, 2, 2, 2, 2, 2, 2, 2, 0, 0]), (6, [5, 0]), (101, [320]), (7, [7, 12, 0, 0, 2, 2, 0, 0, 0, 0, 0, 0, 0, 0, 0]), (0, [0, 0, 8, 0, 9, 0, 10, 0, 11]), (100, [12]), (100, [16]), (100, [8]), (3, [1, 0]), (103, [6]), (3, [1, 0])] (si (si zM 4 0 3) 4 1 9)) 0 0 := by
  refine ctc_of (by decide +kernel) rfl rfl (Nat.le_of_ble_eq_true rfl) ?_
  refine c_aload_n (pc := 0) (q := 0) d_Row_init_0 rfl rfl ?_
  refine c_objInit (pc := 1) d_Row_init_1 oi_Row_3 (Nat.le_of_ble_eq_true rfl) (Nat.le_of_ble_eq_true rfl) ?_
  exact c_return (pc := 4) d_Row_init_4 (Nat.le_of_ble_eq_true rfl) (Nat.le_of_ble_eq_true rfl) rfl rfl
set_option maxRecDepth 20000 in
set_option maxHeartbeats 4000000 in
theorem CC_5 : CtC y_Teller_init mtC_Teller [Value.ref 3, Value.ref 1] [(8, [4, 2, 2, 2, 2, 2, 2, 2, 2, 0, 0]), (6, [5, 0]), (101, [320]), (7, [2, 2, 0, 0, 2, 2, 0, 0, 0, 0, 0, 0, 0, 0, 0])] (zM) (PC [(8, [4, 2, 2, 2, 2, 2, 2, 2, 2, 0, 0]), (6, [5, 0]), (101, [320]), (7, [7, 12, 0, 0, 4, 13, 0, 0, 0, 0, 0, 0, 0, 0, 0]), (0, [0, 0, 8, 0, 9, 0, 10, 0, 11]), (100, [12]), (100, [16]), (100, [8]), (3, [1, 0]), (103, [6]), (3, [1, 0])] (si (si zM 4 0 3) 4 1 9)) 7 55 := by
  refine ctc_of (by decide +kernel) rfl rfl (Nat.le_of_ble_eq_true rfl) ?_
  refine c_aload_n (pc := 0) (q := 0) d_Teller_init_0 rfl rfl ?_
  refine c_objInit (pc := 1) d_Teller_init_1 oi_Teller_3 (Nat.le_of_ble_eq_true rfl) (Nat.le_of_ble_eq_true rfl) ?_
  refine c_aload_n (pc := 4) (q := 0) d_Teller_init_4 rfl rfl ?_
  refine c_new (pc := 5) (ci := 0) (T := F_Circle) (N := 9) (ds := [0, 0, 2, 0, 2, 0, 2, 0, 2]) (sh8 := [(8, [4, 2, 2, 2, 2, 2, 2, 2, 2, 0, 0]), (6, [5, 0]), (101, [320]), (7, [2, 2, 0, 0, 2, 2, 0, 0, 0, 0, 0, 0, 0, 0, 0]), (0, [0, 0, 2, 0, 2, 0, 2, 0, 2])]) (a9 := 4) d_Teller_init_5 rfl (by decide) i_Circle t_Circle_ok cwl_Teller_9 in_Circle ini_Circle (fun ad j hj => nu_Circle ad j hj) ⟨by funext y; simp [si, zM], by funext y; simp [si, zM]⟩ (Nat.le_of_ble_eq_true rfl) (Nat.le_of_ble_eq_true rfl) (Nat.le_of_ble_eq_true rfl) rfl rfl ?_
  refine c_dup (pc := 8) d_Teller_init_8 rfl ?_
  refine c_initN (pc := 9) (as := []) (a := 4) d_Teller_init_9 CC_3 cN_Teller_11 cd_Circle_init rfl im_Circle_init ini_Circle dn_Circle_init rfl (by decide) (by decide) (Nat.le_of_ble_eq_true rfl) (Nat.le_of_ble_eq_true rfl) (Nat.le_of_ble_eq_true rfl) ?_
  refine c_putR (pc := 12) (sh8 := [(8, [4, 2, 2, 2, 2, 2, 2, 2, 2, 0, 0]), (6, [5, 0]), (101, [320]), (7, [7, 2, 0, 0, 2, 2, 0, 0, 0, 0, 0, 0, 0, 0, 0]), (0, [0, 0, 8, 0, 9, 0, 10, 0, 11]), (100, [12]), (100, [16]), (100, [8]), (3, [1, 0])]) d_Teller_init_12 fl_Teller_12 rfl rfl (by decide) (by decide) (Nat.le_of_ble_eq_true rfl) (fun C T N h => by cases h; rfl) rfl ?_
  refine c_aload_n (pc := 15) (q := 0) d_Teller_init_15 rfl rfl ?_
  refine c_bipush (pc := 16) d_Teller_init_16 k_b_6 ?_
  refine c_newaL (pc := 18) (N := 6) (sh8 := [(8, [4, 2, 2, 2, 2, 2, 2, 2, 2, 0, 0]), (6, [5, 0]), (101, [320]), (7, [7, 2, 0, 0, 2, 2, 0, 0, 0, 0, 0, 0, 0, 0, 0]), (0, [0, 0, 8, 0, 9, 0, 10, 0, 11]), (100, [12]), (100, [16]), (100, [8]), (3, [1, 0]), (103, [6])]) (a9 := 9) d_Teller_init_18 (by decide) (by decide) ac_long (Nat.le_of_ble_eq_true rfl) ⟨by funext y; simp [si, zM], by funext y; simp [si, zM]⟩ (Nat.le_of_ble_eq_true rfl) (Nat.le_of_ble_eq_true rfl) (Nat.le_of_ble_eq_true rfl) rfl rfl ?_
  refine c_putR (pc := 20) (sh8 := [(8, [4, 2, 2, 2, 2, 2, 2, 2, 2, 0, 0]), (6, [5, 0]), (101, [320]), (7, [7, 12, 0, 0, 2, 2, 0, 0, 0, 0, 0, 0, 0, 0, 0]), (0, [0, 0, 8, 0, 9, 0, 10, 0, 11]), (100, [12]), (100, [16]), (100, [8]), (3, [1, 0]), (103, [6])]) d_Teller_init_20 fl_Teller_18 rfl rfl (by decide) (by decide) (Nat.le_of_ble_eq_true rfl) (fun C T N h => by cases h; rfl) rfl ?_
  refine c_aload_n (pc := 23) (q := 0) d_Teller_init_23 rfl rfl ?_
  refine c_new (pc := 24) (ci := 3) (T := F_Row) (N := 2) (ds := [1, 0]) (sh8 := [(8, [4, 2, 2, 2, 2, 2, 2, 2, 2, 0, 0]), (6, [5, 0]), (101, [320]), (7, [7, 12, 0, 0, 2, 2, 0, 0, 0, 0, 0, 0, 0, 0, 0]), (0, [0, 0, 8, 0, 9, 0, 10, 0, 11]), (100, [12]), (100, [16]), (100, [8]), (3, [1, 0]), (103, [6]), (3, [1, 0])]) (a9 := 10) d_Teller_init_24 rfl (by decide) i_Row t_Row_ok cwl_Teller_22 in_Row ini_Row (fun ad j hj => nu_Row ad j hj) ⟨by funext y; simp [si, zM], by funext y; simp [si, zM]⟩ (Nat.le_of_ble_eq_true rfl) (Nat.le_of_ble_eq_true rfl) (Nat.le_of_ble_eq_true rfl) rfl rfl ?_
  refine c_dup (pc := 27) d_Teller_init_27 rfl ?_
  refine c_initN (pc := 28) (as := []) (a := 10) d_Teller_init_28 CC_4 cN_Teller_24 cd_Row_init rfl im_Row_init ini_Row dn_Row_init rfl (by decide) (by decide) (Nat.le_of_ble_eq_true rfl) (Nat.le_of_ble_eq_true rfl) (Nat.le_of_ble_eq_true rfl) ?_
  refine c_putR (pc := 31) (sh8 := [(8, [4, 2, 2, 2, 2, 2, 2, 2, 2, 0, 0]), (6, [5, 0]), (101, [320]), (7, [7, 12, 0, 0, 2, 13, 0, 0, 0, 0, 0, 0, 0, 0, 0]), (0, [0, 0, 8, 0, 9, 0, 10, 0, 11]), (100, [12]), (100, [16]), (100, [8]), (3, [1, 0]), (103, [6]), (3, [1, 0])]) d_Teller_init_31 fl_Teller_25 rfl rfl (by decide) (by decide) (Nat.le_of_ble_eq_true rfl) (fun C T N h => by cases h; rfl) rfl ?_
  refine c_aload_n (pc := 34) (q := 0) d_Teller_init_34 rfl rfl ?_
  refine c_aload_n (pc := 35) (q := 1) d_Teller_init_35 rfl rfl ?_
  refine c_putR (pc := 36) (sh8 := [(8, [4, 2, 2, 2, 2, 2, 2, 2, 2, 0, 0]), (6, [5, 0]), (101, [320]), (7, [7, 12, 0, 0, 4, 13, 0, 0, 0, 0, 0, 0, 0, 0, 0]), (0, [0, 0, 8, 0, 9, 0, 10, 0, 11]), (100, [12]), (100, [16]), (100, [8]), (3, [1, 0]), (103, [6]), (3, [1, 0])]) d_Teller_init_36 fl_Teller_29 rfl rfl (by decide) (by decide) (Nat.le_of_ble_eq_true rfl) (fun C T N h => by cases h; rfl) rfl ?_
  exact c_return (pc := 39) d_Teller_init_39 (Nat.le_of_ble_eq_true rfl) (Nat.le_of_ble_eq_true rfl) rfl rfl
set_option maxRecDepth 20000 in
set_option maxHeartbeats 4000000 in
theorem CC_6 : CtC y_Row_init mtC_Row [Value.ref 15] [(8, [4, 6, 2, 2, 2, 2, 2, 2, 2, 0, 0]), (6, [5, 0]), (101, [320]), (7, [7, 12, 0, 0, 4, 13, 0, 0, 0, 0, 0, 0, 0, 0, 0]), (0, [0, 0, 8, 0, 9, 0, 10, 0, 11]), (100, [12]), (100, [16]), (100, [8]), (3, [1, 0]), (103, [6]), (3, [1, 0]), (0, [0, 0, 15, 0, 16, 0, 17, 0, 2]), (100, [12]), (100, [16]), (100, [8]), (3, [1, 0])] (si (si (si (si zM 4 0 3) 4 1 9) 11 0 3) 11 1 9) (PC [(8, [4, 6, 2, 2, 2, 2, 2, 2, 2, 0, 0]), (6, [5, 0]), (101, [320]), (7, [7, 12, 0, 0, 4, 13, 0, 0, 0, 0, 0, 0, 0, 0, 0]), (0, [0, 0, 8, 0, 9, 0, 10, 0, 11]), (100, [12]), (100, [16]), (100, [8]), (3, [1, 0]), (103, [6]), (3, [1, 0]), (0, [0, 0, 15, 0, 16, 0, 17, 0, 2]), (100, [12]), (100, [16]), (100, [8]), (3, [1, 0])] (si (si (si (si zM 4 0 3) 4 1 9) 11 0 3) 11 1 9)) 0 0 := by
  refine ctc_of (by decide +kernel) rfl rfl (Nat.le_of_ble_eq_true rfl) ?_
  refine c_aload_n (pc := 0) (q := 0) d_Row_init_0 rfl rfl ?_
  refine c_objInit (pc := 1) d_Row_init_1 oi_Row_3 (Nat.le_of_ble_eq_true rfl) (Nat.le_of_ble_eq_true rfl) ?_
  exact c_return (pc := 4) d_Row_init_4 (Nat.le_of_ble_eq_true rfl) (Nat.le_of_ble_eq_true rfl) rfl rfl
set_option maxRecDepth 20000 in
set_option maxHeartbeats 4000000 in
theorem CC_7 : CtC y_Circle_init mtC_Circle [Value.ref 11] [(8, [4, 6, 2, 2, 2, 2, 2, 2, 2, 0, 0]), (6, [5, 0]), (101, [320]), (7, [7, 12, 0, 0, 4, 13, 0, 0, 0, 0, 0, 0, 0, 0, 0]), (0, [0, 0, 8, 0, 9, 0, 10, 0, 11]), (100, [12]), (100, [16]), (100, [8]), (3, [1, 0]), (103, [6]), (3, [1, 0]), (0, [0, 0, 2, 0, 2, 0, 2, 0, 2])] (si (si zM 4 0 3) 4 1 9) (PC [(8, [4, 6, 2, 2, 2, 2, 2, 2, 2, 0, 0]), (6, [5, 0]), (101, [320]), (7, [7, 12, 0, 0, 4, 13, 0, 0, 0, 0, 0, 0, 0, 0, 0]), (0, [0, 0, 8, 0, 9, 0, 10, 0, 11]), (100, [12]), (100, [16]), (100, [8]), (3, [1, 0]), (103, [6]), (3, [1, 0]), (0, [0, 0, 15, 0, 16, 0, 17, 0, 18]), (100, [12]), (100, [16]), (100, [8]), (3, [1, 0])] (si (si (si (si zM 4 0 3) 4 1 9) 11 0 3) 11 1 9)) 4 38 := by
  refine ctc_of (by decide +kernel) rfl rfl (Nat.le_of_ble_eq_true rfl) ?_
  refine c_aload_n (pc := 0) (q := 0) d_Circle_init_0 rfl rfl ?_
  refine c_objInit (pc := 1) d_Circle_init_1 oi_Circle_5 (Nat.le_of_ble_eq_true rfl) (Nat.le_of_ble_eq_true rfl) ?_
  refine c_aload_n (pc := 4) (q := 0) d_Circle_init_4 rfl rfl ?_
  refine c_iconst (pc := 5) d_Circle_init_5 k_i_3 ?_
  refine c_putI (pc := 6) d_Circle_init_6 fl_Circle_13 rfl (by decide) (by decide) rfl (Nat.le_of_ble_eq_true rfl) ?_
  refine c_aload_n (pc := 9) (q := 0) d_Circle_init_9 rfl rfl ?_
  refine c_bipush (pc := 10) d_Circle_init_10 k_b_9 ?_
  refine c_putI (pc := 12) d_Circle_init_12 fl_Circle_17 rfl (by decide) (by decide) rfl (Nat.le_of_ble_eq_true rfl) ?_
  refine c_aload_n (pc := 15) (q := 0) d_Circle_init_15 rfl rfl ?_
  refine c_bipush (pc := 16) d_Circle_init_16 k_b_12 ?_
  refine c_newaI (pc := 18) (N := 12) (sh8 := [(8, [4, 6, 2, 2, 2, 2, 2, 2, 2, 0, 0]), (6, [5, 0]), (101, [320]), (7, [7, 12, 0, 0, 4, 13, 0, 0, 0, 0, 0, 0, 0, 0, 0]), (0, [0, 0, 8, 0, 9, 0, 10, 0, 11]), (100, [12]), (100, [16]), (100, [8]), (3, [1, 0]), (103, [6]), (3, [1, 0]), (0, [0, 0, 2, 0, 2, 0, 2, 0, 2]), (100, [12])]) (a9 := 12) d_Circle_init_18 (by decide) (by decide) ac_int (Nat.le_of_ble_eq_true rfl) ⟨by funext y; simp [si, zM], by funext y; simp [si, zM]⟩ (Nat.le_of_ble_eq_true rfl) (Nat.le_of_ble_eq_true rfl) (Nat.le_of_ble_eq_true rfl) rfl rfl ?_
  refine c_putR (pc := 20) (sh8 := [(8, [4, 6, 2, 2, 2, 2, 2, 2, 2, 0, 0]), (6, [5, 0]), (101, [320]), (7, [7, 12, 0, 0, 4, 13, 0, 0, 0, 0, 0, 0, 0, 0, 0]), (0, [0, 0, 8, 0, 9, 0, 10, 0, 11]), (100, [12]), (100, [16]), (100, [8]), (3, [1, 0]), (103, [6]), (3, [1, 0]), (0, [0, 0, 15, 0, 2, 0, 2, 0, 2]), (100, [12])]) d_Circle_init_20 fl_Circle_20 rfl rfl (by decide) (by decide) (Nat.le_of_ble_eq_true rfl) (fun C T N h => by cases h; rfl) rfl ?_
  refine c_aload_n (pc := 23) (q := 0) d_Circle_init_23 rfl rfl ?_
  refine c_bipush (pc := 24) d_Circle_init_24 k_b_16 ?_
  refine c_newaI (pc := 26) (N := 16) (sh8 := [(8, [4, 6, 2, 2, 2, 2, 2, 2, 2, 0, 0]), (6, [5, 0]), (101, [320]), (7, [7, 12, 0, 0, 4, 13, 0, 0, 0, 0, 0, 0, 0, 0, 0]), (0, [0, 0, 8, 0, 9, 0, 10, 0, 11]), (100, [12]), (100, [16]), (100, [8]), (3, [1, 0]), (103, [6]), (3, [1, 0]), (0, [0, 0, 15, 0, 2, 0, 2, 0, 2]), (100, [12]), (100, [16])]) (a9 := 13) d_Circle_init_26 (by decide) (by decide) ac_int (Nat.le_of_ble_eq_true rfl) ⟨by funext y; simp [si, zM], by funext y; simp [si, zM]⟩ (Nat.le_of_ble_eq_true rfl) (Nat.le_of_ble_eq_true rfl) (Nat.le_of_ble_eq_true rfl) rfl rfl ?_
  refine c_putR (pc := 28) (sh8 := [(8, [4, 6, 2, 2, 2, 2, 2, 2, 2, 0, 0]), (6, [5, 0]), (101, [320]), (7, [7, 12, 0, 0, 4, 13, 0, 0, 0, 0, 0, 0, 0, 0, 0]), (0, [0, 0, 8, 0, 9, 0, 10, 0, 11]), (100, [12]), (100, [16]), (100, [8]), (3, [1, 0]), (103, [6]), (3, [1, 0]), (0, [0, 0, 15, 0, 16, 0, 2, 0, 2]), (100, [12]), (100, [16])]) d_Circle_init_28 fl_Circle_24 rfl rfl (by decide) (by decide) (Nat.le_of_ble_eq_true rfl) (fun C T N h => by cases h; rfl) rfl ?_
  refine c_aload_n (pc := 31) (q := 0) d_Circle_init_31 rfl rfl ?_
  refine c_bipush (pc := 32) d_Circle_init_32 k_b_8 ?_
  refine c_newaI (pc := 34) (N := 8) (sh8 := [(8, [4, 6, 2, 2, 2, 2, 2, 2, 2, 0, 0]), (6, [5, 0]), (101, [320]), (7, [7, 12, 0, 0, 4, 13, 0, 0, 0, 0, 0, 0, 0, 0, 0]), (0, [0, 0, 8, 0, 9, 0, 10, 0, 11]), (100, [12]), (100, [16]), (100, [8]), (3, [1, 0]), (103, [6]), (3, [1, 0]), (0, [0, 0, 15, 0, 16, 0, 2, 0, 2]), (100, [12]), (100, [16]), (100, [8])]) (a9 := 14) d_Circle_init_34 (by decide) (by decide) ac_int (Nat.le_of_ble_eq_true rfl) ⟨by funext y; simp [si, zM], by funext y; simp [si, zM]⟩ (Nat.le_of_ble_eq_true rfl) (Nat.le_of_ble_eq_true rfl) (Nat.le_of_ble_eq_true rfl) rfl rfl ?_
  refine c_putR (pc := 36) (sh8 := [(8, [4, 6, 2, 2, 2, 2, 2, 2, 2, 0, 0]), (6, [5, 0]), (101, [320]), (7, [7, 12, 0, 0, 4, 13, 0, 0, 0, 0, 0, 0, 0, 0, 0]), (0, [0, 0, 8, 0, 9, 0, 10, 0, 11]), (100, [12]), (100, [16]), (100, [8]), (3, [1, 0]), (103, [6]), (3, [1, 0]), (0, [0, 0, 15, 0, 16, 0, 17, 0, 2]), (100, [12]), (100, [16]), (100, [8])]) d_Circle_init_36 fl_Circle_27 rfl rfl (by decide) (by decide) (Nat.le_of_ble_eq_true rfl) (fun C T N h => by cases h; rfl) rfl ?_
  refine c_aload_n (pc := 39) (q := 0) d_Circle_init_39 rfl rfl ?_
  refine c_new (pc := 40) (ci := 3) (T := F_Row) (N := 2) (ds := [1, 0]) (sh8 := [(8, [4, 6, 2, 2, 2, 2, 2, 2, 2, 0, 0]), (6, [5, 0]), (101, [320]), (7, [7, 12, 0, 0, 4, 13, 0, 0, 0, 0, 0, 0, 0, 0, 0]), (0, [0, 0, 8, 0, 9, 0, 10, 0, 11]), (100, [12]), (100, [16]), (100, [8]), (3, [1, 0]), (103, [6]), (3, [1, 0]), (0, [0, 0, 15, 0, 16, 0, 17, 0, 2]), (100, [12]), (100, [16]), (100, [8]), (3, [1, 0])]) (a9 := 15) d_Circle_init_40 rfl (by decide) i_Row t_Row_ok cwl_Circle_1 in_Row ini_Row (fun ad j hj => nu_Row ad j hj) ⟨by funext y; simp [si, zM], by funext y; simp [si, zM]⟩ (Nat.le_of_ble_eq_true rfl) (Nat.le_of_ble_eq_true rfl) (Nat.le_of_ble_eq_true rfl) rfl rfl ?_
  refine c_dup (pc := 43) d_Circle_init_43 rfl ?_
  refine c_initN (pc := 44) (as := []) (a := 15) d_Circle_init_44 CC_6 cN_Circle_30 cd_Row_init rfl im_Row_init ini_Row dn_Row_init rfl (by decide) (by decide) (Nat.le_of_ble_eq_true rfl) (Nat.le_of_ble_eq_true rfl) (Nat.le_of_ble_eq_true rfl) ?_
  refine c_putR (pc := 47) (sh8 := [(8, [4, 6, 2, 2, 2, 2, 2, 2, 2, 0, 0]), (6, [5, 0]), (101, [320]), (7, [7, 12, 0, 0, 4, 13, 0, 0, 0, 0, 0, 0, 0, 0, 0]), (0, [0, 0, 8, 0, 9, 0, 10, 0, 11]), (100, [12]), (100, [16]), (100, [8]), (3, [1, 0]), (103, [6]), (3, [1, 0]), (0, [0, 0, 15, 0, 16, 0, 17, 0, 18]), (100, [12]), (100, [16]), (100, [8]), (3, [1, 0])]) d_Circle_init_47 fl_Circle_31 rfl rfl (by decide) (by decide) (Nat.le_of_ble_eq_true rfl) (fun C T N h => by cases h; rfl) rfl ?_
  exact c_return (pc := 50) d_Circle_init_50 (Nat.le_of_ble_eq_true rfl) (Nat.le_of_ble_eq_true rfl) rfl rfl
set_option maxRecDepth 20000 in
set_option maxHeartbeats 4000000 in
theorem CC_8 : CtC y_Minds_init mtC_Minds [Value.ref 16] [(8, [4, 6, 14, 2, 2, 2, 2, 2, 2, 0, 0]), (6, [5, 0]), (101, [320]), (7, [7, 12, 0, 0, 4, 13, 0, 0, 0, 0, 0, 0, 0, 0, 0]), (0, [0, 0, 8, 0, 9, 0, 10, 0, 11]), (100, [12]), (100, [16]), (100, [8]), (3, [1, 0]), (103, [6]), (3, [1, 0]), (0, [0, 0, 15, 0, 16, 0, 17, 0, 18]), (100, [12]), (100, [16]), (100, [8]), (3, [1, 0]), (2, [2, 0, 0, 2])] (si (si (si (si zM 4 0 3) 4 1 9) 11 0 3) 11 1 9) (PC [(8, [4, 6, 14, 2, 2, 2, 2, 2, 2, 0, 0]), (6, [5, 0]), (101, [320]), (7, [7, 12, 0, 0, 4, 13, 0, 0, 0, 0, 0, 0, 0, 0, 0]), (0, [0, 0, 8, 0, 9, 0, 10, 0, 11]), (100, [12]), (100, [16]), (100, [8]), (3, [1, 0]), (103, [6]), (3, [1, 0]), (0, [0, 0, 15, 0, 16, 0, 17, 0, 18]), (100, [12]), (100, [16]), (100, [8]), (3, [1, 0]), (2, [20, 0, 0, 21]), (103, [6]), (100, [6])] (si (si (si (si zM 4 0 3) 4 1 9) 11 0 3) 11 1 9)) 2 12 := by
  refine ctc_of (by decide +kernel) rfl rfl (Nat.le_of_ble_eq_true rfl) ?_
  refine c_aload_n (pc := 0) (q := 0) d_Minds_init_0 rfl rfl ?_
  refine c_objInit (pc := 1) d_Minds_init_1 oi_Minds_3 (Nat.le_of_ble_eq_true rfl) (Nat.le_of_ble_eq_true rfl) ?_
  refine c_aload_n (pc := 4) (q := 0) d_Minds_init_4 rfl rfl ?_
  refine c_bipush (pc := 5) d_Minds_init_5 k_b_6 ?_
  refine c_newaL (pc := 7) (N := 6) (sh8 := [(8, [4, 6, 14, 2, 2, 2, 2, 2, 2, 0, 0]), (6, [5, 0]), (101, [320]), (7, [7, 12, 0, 0, 4, 13, 0, 0, 0, 0, 0, 0, 0, 0, 0]), (0, [0, 0, 8, 0, 9, 0, 10, 0, 11]), (100, [12]), (100, [16]), (100, [8]), (3, [1, 0]), (103, [6]), (3, [1, 0]), (0, [0, 0, 15, 0, 16, 0, 17, 0, 18]), (100, [12]), (100, [16]), (100, [8]), (3, [1, 0]), (2, [2, 0, 0, 2]), (103, [6])]) (a9 := 17) d_Minds_init_7 (by decide) (by decide) ac_long (Nat.le_of_ble_eq_true rfl) ⟨by funext y; simp [si, zM], by funext y; simp [si, zM]⟩ (Nat.le_of_ble_eq_true rfl) (Nat.le_of_ble_eq_true rfl) (Nat.le_of_ble_eq_true rfl) rfl rfl ?_
  refine c_putR (pc := 9) (sh8 := [(8, [4, 6, 14, 2, 2, 2, 2, 2, 2, 0, 0]), (6, [5, 0]), (101, [320]), (7, [7, 12, 0, 0, 4, 13, 0, 0, 0, 0, 0, 0, 0, 0, 0]), (0, [0, 0, 8, 0, 9, 0, 10, 0, 11]), (100, [12]), (100, [16]), (100, [8]), (3, [1, 0]), (103, [6]), (3, [1, 0]), (0, [0, 0, 15, 0, 16, 0, 17, 0, 18]), (100, [12]), (100, [16]), (100, [8]), (3, [1, 0]), (2, [20, 0, 0, 2]), (103, [6])]) d_Minds_init_9 fl_Minds_9 rfl rfl (by decide) (by decide) (Nat.le_of_ble_eq_true rfl) (fun C T N h => by cases h; rfl) rfl ?_
  refine c_aload_n (pc := 12) (q := 0) d_Minds_init_12 rfl rfl ?_
  refine c_bipush (pc := 13) d_Minds_init_13 k_b_6 ?_
  refine c_newaI (pc := 15) (N := 6) (sh8 := [(8, [4, 6, 14, 2, 2, 2, 2, 2, 2, 0, 0]), (6, [5, 0]), (101, [320]), (7, [7, 12, 0, 0, 4, 13, 0, 0, 0, 0, 0, 0, 0, 0, 0]), (0, [0, 0, 8, 0, 9, 0, 10, 0, 11]), (100, [12]), (100, [16]), (100, [8]), (3, [1, 0]), (103, [6]), (3, [1, 0]), (0, [0, 0, 15, 0, 16, 0, 17, 0, 18]), (100, [12]), (100, [16]), (100, [8]), (3, [1, 0]), (2, [20, 0, 0, 2]), (103, [6]), (100, [6])]) (a9 := 18) d_Minds_init_15 (by decide) (by decide) ac_int (Nat.le_of_ble_eq_true rfl) ⟨by funext y; simp [si, zM], by funext y; simp [si, zM]⟩ (Nat.le_of_ble_eq_true rfl) (Nat.le_of_ble_eq_true rfl) (Nat.le_of_ble_eq_true rfl) rfl rfl ?_
  refine c_putR (pc := 17) (sh8 := [(8, [4, 6, 14, 2, 2, 2, 2, 2, 2, 0, 0]), (6, [5, 0]), (101, [320]), (7, [7, 12, 0, 0, 4, 13, 0, 0, 0, 0, 0, 0, 0, 0, 0]), (0, [0, 0, 8, 0, 9, 0, 10, 0, 11]), (100, [12]), (100, [16]), (100, [8]), (3, [1, 0]), (103, [6]), (3, [1, 0]), (0, [0, 0, 15, 0, 16, 0, 17, 0, 18]), (100, [12]), (100, [16]), (100, [8]), (3, [1, 0]), (2, [20, 0, 0, 21]), (103, [6]), (100, [6])]) d_Minds_init_17 fl_Minds_15 rfl rfl (by decide) (by decide) (Nat.le_of_ble_eq_true rfl) (fun C T N h => by cases h; rfl) rfl ?_
  exact c_return (pc := 20) d_Minds_init_20 (Nat.le_of_ble_eq_true rfl) (Nat.le_of_ble_eq_true rfl) rfl rfl
set_option maxRecDepth 20000 in
set_option maxHeartbeats 4000000 in
theorem CC_9 : CtC y_Minds_init mtC_Minds [Value.ref 20] [(8, [4, 6, 14, 19, 22, 2, 2, 2, 2, 0, 0]), (6, [5, 0]), (101, [320]), (7, [7, 12, 0, 0, 4, 13, 0, 0, 0, 0, 0, 0, 0, 0, 0]), (0, [0, 0, 8, 0, 9, 0, 10, 0, 11]), (100, [12]), (100, [16]), (100, [8]), (3, [1, 0]), (103, [6]), (3, [1, 0]), (0, [0, 0, 15, 0, 16, 0, 17, 0, 18]), (100, [12]), (100, [16]), (100, [8]), (3, [1, 0]), (2, [20, 0, 0, 21]), (103, [6]), (100, [6]), (104, [0, 0]), (2, [2, 0, 0, 2])] (si (si (si (si zM 4 0 3) 4 1 9) 11 0 3) 11 1 9) (PC [(8, [4, 6, 14, 19, 22, 2, 2, 2, 2, 0, 0]), (6, [5, 0]), (101, [320]), (7, [7, 12, 0, 0, 4, 13, 0, 0, 0, 0, 0, 0, 0, 0, 0]), (0, [0, 0, 8, 0, 9, 0, 10, 0, 11]), (100, [12]), (100, [16]), (100, [8]), (3, [1, 0]), (103, [6]), (3, [1, 0]), (0, [0, 0, 15, 0, 16, 0, 17, 0, 18]), (100, [12]), (100, [16]), (100, [8]), (3, [1, 0]), (2, [20, 0, 0, 21]), (103, [6]), (100, [6]), (104, [0, 0]), (2, [24, 0, 0, 25]), (103, [6]), (100, [6])] (si (si (si (si zM 4 0 3) 4 1 9) 11 0 3) 11 1 9)) 2 12 := by
  refine ctc_of (by decide +kernel) rfl rfl (Nat.le_of_ble_eq_true rfl) ?_
  refine c_aload_n (pc := 0) (q := 0) d_Minds_init_0 rfl rfl ?_
  refine c_objInit (pc := 1) d_Minds_init_1 oi_Minds_3 (Nat.le_of_ble_eq_true rfl) (Nat.le_of_ble_eq_true rfl) ?_
  refine c_aload_n (pc := 4) (q := 0) d_Minds_init_4 rfl rfl ?_
  refine c_bipush (pc := 5) d_Minds_init_5 k_b_6 ?_
  refine c_newaL (pc := 7) (N := 6) (sh8 := [(8, [4, 6, 14, 19, 22, 2, 2, 2, 2, 0, 0]), (6, [5, 0]), (101, [320]), (7, [7, 12, 0, 0, 4, 13, 0, 0, 0, 0, 0, 0, 0, 0, 0]), (0, [0, 0, 8, 0, 9, 0, 10, 0, 11]), (100, [12]), (100, [16]), (100, [8]), (3, [1, 0]), (103, [6]), (3, [1, 0]), (0, [0, 0, 15, 0, 16, 0, 17, 0, 18]), (100, [12]), (100, [16]), (100, [8]), (3, [1, 0]), (2, [20, 0, 0, 21]), (103, [6]), (100, [6]), (104, [0, 0]), (2, [2, 0, 0, 2]), (103, [6])]) (a9 := 21) d_Minds_init_7 (by decide) (by decide) ac_long (Nat.le_of_ble_eq_true rfl) ⟨by funext y; simp [si, zM], by funext y; simp [si, zM]⟩ (Nat.le_of_ble_eq_true rfl) (Nat.le_of_ble_eq_true rfl) (Nat.le_of_ble_eq_true rfl) rfl rfl ?_
  refine c_putR (pc := 9) (sh8 := [(8, [4, 6, 14, 19, 22, 2, 2, 2, 2, 0, 0]), (6, [5, 0]), (101, [320]), (7, [7, 12, 0, 0, 4, 13, 0, 0, 0, 0, 0, 0, 0, 0, 0]), (0, [0, 0, 8, 0, 9, 0, 10, 0, 11]), (100, [12]), (100, [16]), (100, [8]), (3, [1, 0]), (103, [6]), (3, [1, 0]), (0, [0, 0, 15, 0, 16, 0, 17, 0, 18]), (100, [12]), (100, [16]), (100, [8]), (3, [1, 0]), (2, [20, 0, 0, 21]), (103, [6]), (100, [6]), (104, [0, 0]), (2, [24, 0, 0, 2]), (103, [6])]) d_Minds_init_9 fl_Minds_9 rfl rfl (by decide) (by decide) (Nat.le_of_ble_eq_true rfl) (fun C T N h => by cases h; rfl) rfl ?_
  refine c_aload_n (pc := 12) (q := 0) d_Minds_init_12 rfl rfl ?_
  refine c_bipush (pc := 13) d_Minds_init_13 k_b_6 ?_
  refine c_newaI (pc := 15) (N := 6) (sh8 := [(8, [4, 6, 14, 19, 22, 2, 2, 2, 2, 0, 0]), (6, [5, 0]), (101, [320]), (7, [7, 12, 0, 0, 4, 13, 0, 0, 0, 0, 0, 0, 0, 0, 0]), (0, [0, 0, 8, 0, 9, 0, 10, 0, 11]), (100, [12]), (100, [16]), (100, [8]), (3, [1, 0]), (103, [6]), (3, [1, 0]), (0, [0, 0, 15, 0, 16, 0, 17, 0, 18]), (100, [12]), (100, [16]), (100, [8]), (3, [1, 0]), (2, [20, 0, 0, 21]), (103, [6]), (100, [6]), (104, [0, 0]), (2, [24, 0, 0, 2]), (103, [6]), (100, [6])]) (a9 := 22) d_Minds_init_15 (by decide) (by decide) ac_int (Nat.le_of_ble_eq_true rfl) ⟨by funext y; simp [si, zM], by funext y; simp [si, zM]⟩ (Nat.le_of_ble_eq_true rfl) (Nat.le_of_ble_eq_true rfl) (Nat.le_of_ble_eq_true rfl) rfl rfl ?_
  refine c_putR (pc := 17) (sh8 := [(8, [4, 6, 14, 19, 22, 2, 2, 2, 2, 0, 0]), (6, [5, 0]), (101, [320]), (7, [7, 12, 0, 0, 4, 13, 0, 0, 0, 0, 0, 0, 0, 0, 0]), (0, [0, 0, 8, 0, 9, 0, 10, 0, 11]), (100, [12]), (100, [16]), (100, [8]), (3, [1, 0]), (103, [6]), (3, [1, 0]), (0, [0, 0, 15, 0, 16, 0, 17, 0, 18]), (100, [12]), (100, [16]), (100, [8]), (3, [1, 0]), (2, [20, 0, 0, 21]), (103, [6]), (100, [6]), (104, [0, 0]), (2, [24, 0, 0, 25]), (103, [6]), (100, [6])]) d_Minds_init_17 fl_Minds_15 rfl rfl (by decide) (by decide) (Nat.le_of_ble_eq_true rfl) (fun C T N h => by cases h; rfl) rfl ?_
  exact c_return (pc := 20) d_Minds_init_20 (Nat.le_of_ble_eq_true rfl) (Nat.le_of_ble_eq_true rfl) rfl rfl
set_option maxRecDepth 20000 in
set_option maxHeartbeats 4000000 in
theorem CC_10 : CtC y_Minds_init mtC_Minds [Value.ref 23] [(8, [4, 6, 14, 19, 22, 2, 2, 2, 2, 0, 0]), (6, [5, 0]), (101, [320]), (7, [7, 12, 0, 0, 4, 13, 0, 0, 0, 0, 0, 0, 0, 0, 0]), (0, [0, 0, 8, 0, 9, 0, 10, 0, 11]), (100, [12]), (100, [16]), (100, [8]), (3, [1, 0]), (103, [6]), (3, [1, 0]), (0, [0, 0, 15, 0, 16, 0, 17, 0, 18]), (100, [12]), (100, [16]), (100, [8]), (3, [1, 0]), (2, [20, 0, 0, 21]), (103, [6]), (100, [6]), (104, [21, 0]), (2, [24, 0, 0, 25]), (103, [6]), (100, [6]), (2, [2, 0, 0, 2])] (si (si (si (si zM 4 0 3) 4 1 9) 11 0 3) 11 1 9) (PC [(8, [4, 6, 14, 19, 22, 2, 2, 2, 2, 0, 0]), (6, [5, 0]), (101, [320]), (7, [7, 12, 0, 0, 4, 13, 0, 0, 0, 0, 0, 0, 0, 0, 0]), (0, [0, 0, 8, 0, 9, 0, 10, 0, 11]), (100, [12]), (100, [16]), (100, [8]), (3, [1, 0]), (103, [6]), (3, [1, 0]), (0, [0, 0, 15, 0, 16, 0, 17, 0, 18]), (100, [12]), (100, [16]), (100, [8]), (3, [1, 0]), (2, [20, 0, 0, 21]), (103, [6]), (100, [6]), (104, [21, 0]), (2, [24, 0, 0, 25]), (103, [6]), (100, [6]), (2, [27, 0, 0, 28]), (103, [6]), (100, [6])] (si (si (si (si zM 4 0 3) 4 1 9) 11 0 3) 11 1 9)) 2 12 := by
  refine ctc_of (by decide +kernel) rfl rfl (Nat.le_of_ble_eq_true rfl) ?_
  refine c_aload_n (pc := 0) (q := 0) d_Minds_init_0 rfl rfl ?_
  refine c_objInit (pc := 1) d_Minds_init_1 oi_Minds_3 (Nat.le_of_ble_eq_true rfl) (Nat.le_of_ble_eq_true rfl) ?_
  refine c_aload_n (pc := 4) (q := 0) d_Minds_init_4 rfl rfl ?_
  refine c_bipush (pc := 5) d_Minds_init_5 k_b_6 ?_
  refine c_newaL (pc := 7) (N := 6) (sh8 := [(8, [4, 6, 14, 19, 22, 2, 2, 2, 2, 0, 0]), (6, [5, 0]), (101, [320]), (7, [7, 12, 0, 0, 4, 13, 0, 0, 0, 0, 0, 0, 0, 0, 0]), (0, [0, 0, 8, 0, 9, 0, 10, 0, 11]), (100, [12]), (100, [16]), (100, [8]), (3, [1, 0]), (103, [6]), (3, [1, 0]), (0, [0, 0, 15, 0, 16, 0, 17, 0, 18]), (100, [12]), (100, [16]), (100, [8]), (3, [1, 0]), (2, [20, 0, 0, 21]), (103, [6]), (100, [6]), (104, [21, 0]), (2, [24, 0, 0, 25]), (103, [6]), (100, [6]), (2, [2, 0, 0, 2]), (103, [6])]) (a9 := 24) d_Minds_init_7 (by decide) (by decide) ac_long (Nat.le_of_ble_eq_true rfl) ⟨by funext y; simp [si, zM], by funext y; simp [si, zM]⟩ (Nat.le_of_ble_eq_true rfl) (Nat.le_of_ble_eq_true rfl) (Nat.le_of_ble_eq_true rfl) rfl rfl ?_
  refine c_putR (pc := 9) (sh8 := [(8, [4, 6, 14, 19, 22, 2, 2, 2, 2, 0, 0]), (6, [5, 0]), (101, [320]), (7, [7, 12, 0, 0, 4, 13, 0, 0, 0, 0, 0, 0, 0, 0, 0]), (0, [0, 0, 8, 0, 9, 0, 10, 0, 11]), (100, [12]), (100, [16]), (100, [8]), (3, [1, 0]), (103, [6]), (3, [1, 0]), (0, [0, 0, 15, 0, 16, 0, 17, 0, 18]), (100, [12]), (100, [16]), (100, [8]), (3, [1, 0]), (2, [20, 0, 0, 21]), (103, [6]), (100, [6]), (104, [21, 0]), (2, [24, 0, 0, 25]), (103, [6]), (100, [6]), (2, [27, 0, 0, 2]), (103, [6])]) d_Minds_init_9 fl_Minds_9 rfl rfl (by decide) (by decide) (Nat.le_of_ble_eq_true rfl) (fun C T N h => by cases h; rfl) rfl ?_
  refine c_aload_n (pc := 12) (q := 0) d_Minds_init_12 rfl rfl ?_
  refine c_bipush (pc := 13) d_Minds_init_13 k_b_6 ?_
  refine c_newaI (pc := 15) (N := 6) (sh8 := [(8, [4, 6, 14, 19, 22, 2, 2, 2, 2, 0, 0]), (6, [5, 0]), (101, [320]), (7, [7, 12, 0, 0, 4, 13, 0, 0, 0, 0, 0, 0, 0, 0, 0]), (0, [0, 0, 8, 0, 9, 0, 10, 0, 11]), (100, [12]), (100, [16]), (100, [8]), (3, [1, 0]), (103, [6]), (3, [1, 0]), (0, [0, 0, 15, 0, 16, 0, 17, 0, 18]), (100, [12]), (100, [16]), (100, [8]), (3, [1, 0]), (2, [20, 0, 0, 21]), (103, [6]), (100, [6]), (104, [21, 0]), (2, [24, 0, 0, 25]), (103, [6]), (100, [6]), (2, [27, 0, 0, 2]), (103, [6]), (100, [6])]) (a9 := 25) d_Minds_init_15 (by decide) (by decide) ac_int (Nat.le_of_ble_eq_true rfl) ⟨by funext y; simp [si, zM], by funext y; simp [si, zM]⟩ (Nat.le_of_ble_eq_true rfl) (Nat.le_of_ble_eq_true rfl) (Nat.le_of_ble_eq_true rfl) rfl rfl ?_
  refine c_putR (pc := 17) (sh8 := [(8, [4, 6, 14, 19, 22, 2, 2, 2, 2, 0, 0]), (6, [5, 0]), (101, [320]), (7, [7, 12, 0, 0, 4, 13, 0, 0, 0, 0, 0, 0, 0, 0, 0]), (0, [0, 0, 8, 0, 9, 0, 10, 0, 11]), (100, [12]), (100, [16]), (100, [8]), (3, [1, 0]), (103, [6]), (3, [1, 0]), (0, [0, 0, 15, 0, 16, 0, 17, 0, 18]), (100, [12]), (100, [16]), (100, [8]), (3, [1, 0]), (2, [20, 0, 0, 21]), (103, [6]), (100, [6]), (104, [21, 0]), (2, [24, 0, 0, 25]), (103, [6]), (100, [6]), (2, [27, 0, 0, 28]), (103, [6]), (100, [6])]) d_Minds_init_17 fl_Minds_15 rfl rfl (by decide) (by decide) (Nat.le_of_ble_eq_true rfl) (fun C T N h => by cases h; rfl) rfl ?_
  exact c_return (pc := 20) d_Minds_init_20 (Nat.le_of_ble_eq_true rfl) (Nat.le_of_ble_eq_true rfl) rfl rfl
set_option maxRecDepth 20000 in
set_option maxHeartbeats 4000000 in
theorem CC_11 : CtC y_Search_init mtC_Search [Value.ref 26, Value.ref 11, Value.ref 16] [(8, [4, 6, 14, 19, 22, 2, 2, 2, 2, 0, 0]), (6, [5, 0]), (101, [320]), (7, [7, 12, 0, 0, 4, 13, 0, 0, 0, 0, 0, 0, 0, 0, 0]), (0, [0, 0, 8, 0, 9, 0, 10, 0, 11]), (100, [12]), (100, [16]), (100, [8]), (3, [1, 0]), (103, [6]), (3, [1, 0]), (0, [0, 0, 15, 0, 16, 0, 17, 0, 18]), (100, [12]), (100, [16]), (100, [8]), (3, [1, 0]), (2, [20, 0, 0, 21]), (103, [6]), (100, [6]), (104, [21, 24]), (2, [24, 0, 0, 25]), (103, [6]), (100, [6]), (2, [27, 0, 0, 28]), (103, [6]), (100, [6]), (4, [2, 2, 0, 0, 0, 2, 2, 2, 0, 0, 0, 0, 0])] (si (si (si (si zM 4 0 3) 4 1 9) 11 0 3) 11 1 9) (PC [(8, [4, 6, 14, 19, 22, 2, 2, 2, 2, 0, 0]), (6, [5, 0]), (101, [320]), (7, [7, 12, 0, 0, 4, 13, 0, 0, 0, 0, 0, 0, 0, 0, 0]), (0, [0, 0, 8, 0, 9, 0, 10, 0, 11]), (100, [12]), (100, [16]), (100, [8]), (3, [1, 0]), (103, [6]), (3, [1, 0]), (0, [0, 0, 15, 0, 16, 0, 17, 0, 18]), (100, [12]), (100, [16]), (100, [8]), (3, [1, 0]), (2, [20, 0, 0, 21]), (103, [6]), (100, [6]), (104, [21, 24]), (2, [24, 0, 0, 25]), (103, [6]), (100, [6]), (2, [27, 0, 0, 28]), (103, [6]), (100, [6]), (4, [30, 31, 0, 0, 0, 32, 14, 19, 0, 0, 0, 0, 0]), (100, [6]), (100, [6]), (106, [31, 32, 33, 34, 35, 36, 37]), (103, [6]), (103, [6]), (103, [6]), (103, [6]), (103, [6]), (103, [6]), (103, [6])] (si (si (si (si zM 4 0 3) 4 1 9) 11 0 3) 11 1 9)) 10 61 := by
  refine ctc_of (by decide +kernel) rfl rfl (Nat.le_of_ble_eq_true rfl) ?_
  refine c_aload_n (pc := 0) (q := 0) d_Search_init_0 rfl rfl ?_
  refine c_objInit (pc := 1) d_Search_init_1 oi_Search_3 (Nat.le_of_ble_eq_true rfl) (Nat.le_of_ble_eq_true rfl) ?_
  refine c_aload_n (pc := 4) (q := 0) d_Search_init_4 rfl rfl ?_
  refine c_bipush (pc := 5) d_Search_init_5 k_b_6 ?_
  refine c_newaI (pc := 7) (N := 6) (sh8 := [(8, [4, 6, 14, 19, 22, 2, 2, 2, 2, 0, 0]), (6, [5, 0]), (101, [320]), (7, [7, 12, 0, 0, 4, 13, 0, 0, 0, 0, 0, 0, 0, 0, 0]), (0, [0, 0, 8, 0, 9, 0, 10, 0, 11]), (100, [12]), (100, [16]), (100, [8]), (3, [1, 0]), (103, [6]), (3, [1, 0]), (0, [0, 0, 15, 0, 16, 0, 17, 0, 18]), (100, [12]), (100, [16]), (100, [8]), (3, [1, 0]), (2, [20, 0, 0, 21]), (103, [6]), (100, [6]), (104, [21, 24]), (2, [24, 0, 0, 25]), (103, [6]), (100, [6]), (2, [27, 0, 0, 28]), (103, [6]), (100, [6]), (4, [2, 2, 0, 0, 0, 2, 2, 2, 0, 0, 0, 0, 0]), (100, [6])]) (a9 := 27) d_Search_init_7 (by decide) (by decide) ac_int (Nat.le_of_ble_eq_true rfl) ⟨by funext y; simp [si, zM], by funext y; simp [si, zM]⟩ (Nat.le_of_ble_eq_true rfl) (Nat.le_of_ble_eq_true rfl) (Nat.le_of_ble_eq_true rfl) rfl rfl ?_
  refine c_putR (pc := 9) (sh8 := [(8, [4, 6, 14, 19, 22, 2, 2, 2, 2, 0, 0]), (6, [5, 0]), (101, [320]), (7, [7, 12, 0, 0, 4, 13, 0, 0, 0, 0, 0, 0, 0, 0, 0]), (0, [0, 0, 8, 0, 9, 0, 10, 0, 11]), (100, [12]), (100, [16]), (100, [8]), (3, [1, 0]), (103, [6]), (3, [1, 0]), (0, [0, 0, 15, 0, 16, 0, 17, 0, 18]), (100, [12]), (100, [16]), (100, [8]), (3, [1, 0]), (2, [20, 0, 0, 21]), (103, [6]), (100, [6]), (104, [21, 24]), (2, [24, 0, 0, 25]), (103, [6]), (100, [6]), (2, [27, 0, 0, 28]), (103, [6]), (100, [6]), (4, [30, 2, 0, 0, 0, 2, 2, 2, 0, 0, 0, 0, 0]), (100, [6])]) d_Search_init_9 fl_Search_11 rfl rfl (by decide) (by decide) (Nat.le_of_ble_eq_true rfl) (fun C T N h => by cases h; rfl) rfl ?_
  refine c_aload_n (pc := 12) (q := 0) d_Search_init_12 rfl rfl ?_
  refine c_bipush (pc := 13) d_Search_init_13 k_b_6 ?_
  refine c_newaI (pc := 15) (N := 6) (sh8 := [(8, [4, 6, 14, 19, 22, 2, 2, 2, 2, 0, 0]), (6, [5, 0]), (101, [320]), (7, [7, 12, 0, 0, 4, 13, 0, 0, 0, 0, 0, 0, 0, 0, 0]), (0, [0, 0, 8, 0, 9, 0, 10, 0, 11]), (100, [12]), (100, [16]), (100, [8]), (3, [1, 0]), (103, [6]), (3, [1, 0]), (0, [0, 0, 15, 0, 16, 0, 17, 0, 18]), (100, [12]), (100, [16]), (100, [8]), (3, [1, 0]), (2, [20, 0, 0, 21]), (103, [6]), (100, [6]), (104, [21, 24]), (2, [24, 0, 0, 25]), (103, [6]), (100, [6]), (2, [27, 0, 0, 28]), (103, [6]), (100, [6]), (4, [30, 2, 0, 0, 0, 2, 2, 2, 0, 0, 0, 0, 0]), (100, [6]), (100, [6])]) (a9 := 28) d_Search_init_15 (by decide) (by decide) ac_int (Nat.le_of_ble_eq_true rfl) ⟨by funext y; simp [si, zM], by funext y; simp [si, zM]⟩ (Nat.le_of_ble_eq_true rfl) (Nat.le_of_ble_eq_true rfl) (Nat.le_of_ble_eq_true rfl) rfl rfl ?_
  refine c_putR (pc := 17) (sh8 := [(8, [4, 6, 14, 19, 22, 2, 2, 2, 2, 0, 0]), (6, [5, 0]), (101, [320]), (7, [7, 12, 0, 0, 4, 13, 0, 0, 0, 0, 0, 0, 0, 0, 0]), (0, [0, 0, 8, 0, 9, 0, 10, 0, 11]), (100, [12]), (100, [16]), (100, [8]), (3, [1, 0]), (103, [6]), (3, [1, 0]), (0, [0, 0, 15, 0, 16, 0, 17, 0, 18]), (100, [12]), (100, [16]), (100, [8]), (3, [1, 0]), (2, [20, 0, 0, 21]), (103, [6]), (100, [6]), (104, [21, 24]), (2, [24, 0, 0, 25]), (103, [6]), (100, [6]), (2, [27, 0, 0, 28]), (103, [6]), (100, [6]), (4, [30, 31, 0, 0, 0, 2, 2, 2, 0, 0, 0, 0, 0]), (100, [6]), (100, [6])]) d_Search_init_17 fl_Search_15 rfl rfl (by decide) (by decide) (Nat.le_of_ble_eq_true rfl) (fun C T N h => by cases h; rfl) rfl ?_
  refine c_aload_n (pc := 20) (q := 0) d_Search_init_20 rfl rfl ?_
  refine c_bipush (pc := 21) d_Search_init_21 k_b_7 ?_
  refine c_bipush (pc := 23) d_Search_init_23 k_b_6 ?_
  refine c_mna (pc := 25) (sh8 := [(8, [4, 6, 14, 19, 22, 2, 2, 2, 2, 0, 0]), (6, [5, 0]), (101, [320]), (7, [7, 12, 0, 0, 4, 13, 0, 0, 0, 0, 0, 0, 0, 0, 0]), (0, [0, 0, 8, 0, 9, 0, 10, 0, 11]), (100, [12]), (100, [16]), (100, [8]), (3, [1, 0]), (103, [6]), (3, [1, 0]), (0, [0, 0, 15, 0, 16, 0, 17, 0, 18]), (100, [12]), (100, [16]), (100, [8]), (3, [1, 0]), (2, [20, 0, 0, 21]), (103, [6]), (100, [6]), (104, [21, 24]), (2, [24, 0, 0, 25]), (103, [6]), (100, [6]), (2, [27, 0, 0, 28]), (103, [6]), (100, [6]), (4, [30, 31, 0, 0, 0, 2, 2, 2, 0, 0, 0, 0, 0]), (100, [6]), (100, [6]), (106, [31, 32, 33, 34, 35, 36, 37]), (103, [6]), (103, [6]), (103, [6]), (103, [6]), (103, [6]), (103, [6]), (103, [6])]) (a9 := 29) d_Search_init_25 cwl_Search_18 ac_long (by decide) (Nat.le_of_ble_eq_true rfl) (Nat.le_of_ble_eq_true rfl) (Nat.le_of_ble_eq_true rfl) (fun r hr => by funext y; simp [si, zM]) rfl rfl ?_
  refine c_putR (pc := 29) (sh8 := [(8, [4, 6, 14, 19, 22, 2, 2, 2, 2, 0, 0]), (6, [5, 0]), (101, [320]), (7, [7, 12, 0, 0, 4, 13, 0, 0, 0, 0, 0, 0, 0, 0, 0]), (0, [0, 0, 8, 0, 9, 0, 10, 0, 11]), (100, [12]), (100, [16]), (100, [8]), (3, [1, 0]), (103, [6]), (3, [1, 0]), (0, [0, 0, 15, 0, 16, 0, 17, 0, 18]), (100, [12]), (100, [16]), (100, [8]), (3, [1, 0]), (2, [20, 0, 0, 21]), (103, [6]), (100, [6]), (104, [21, 24]), (2, [24, 0, 0, 25]), (103, [6]), (100, [6]), (2, [27, 0, 0, 28]), (103, [6]), (100, [6]), (4, [30, 31, 0, 0, 0, 32, 2, 2, 0, 0, 0, 0, 0]), (100, [6]), (100, [6]), (106, [31, 32, 33, 34, 35, 36, 37]), (103, [6]), (103, [6]), (103, [6]), (103, [6]), (103, [6]), (103, [6]), (103, [6])]) d_Search_init_29 fl_Search_20 rfl rfl (by decide) (by decide) (Nat.le_of_ble_eq_true rfl) (fun C T N h => by cases h; rfl) rfl ?_
  refine c_aload_n (pc := 32) (q := 0) d_Search_init_32 rfl rfl ?_
  refine c_aload_n (pc := 33) (q := 1) d_Search_init_33 rfl rfl ?_
  refine c_putR (pc := 34) (sh8 := [(8, [4, 6, 14, 19, 22, 2, 2, 2, 2, 0, 0]), (6, [5, 0]), (101, [320]), (7, [7, 12, 0, 0, 4, 13, 0, 0, 0, 0, 0, 0, 0, 0, 0]), (0, [0, 0, 8, 0, 9, 0, 10, 0, 11]), (100, [12]), (100, [16]), (100, [8]), (3, [1, 0]), (103, [6]), (3, [1, 0]), (0, [0, 0, 15, 0, 16, 0, 17, 0, 18]), (100, [12]), (100, [16]), (100, [8]), (3, [1, 0]), (2, [20, 0, 0, 21]), (103, [6]), (100, [6]), (104, [21, 24]), (2, [24, 0, 0, 25]), (103, [6]), (100, [6]), (2, [27, 0, 0, 28]), (103, [6]), (100, [6]), (4, [30, 31, 0, 0, 0, 32, 14, 2, 0, 0, 0, 0, 0]), (100, [6]), (100, [6]), (106, [31, 32, 33, 34, 35, 36, 37]), (103, [6]), (103, [6]), (103, [6]), (103, [6]), (103, [6]), (103, [6]), (103, [6])]) d_Search_init_34 fl_Search_23 rfl rfl (by decide) (by decide) (Nat.le_of_ble_eq_true rfl) (fun C T N h => by cases h; rfl) rfl ?_
  refine c_aload_n (pc := 37) (q := 0) d_Search_init_37 rfl rfl ?_
  refine c_aload_n (pc := 38) (q := 2) d_Search_init_38 rfl rfl ?_
  refine c_putR (pc := 39) (sh8 := [(8, [4, 6, 14, 19, 22, 2, 2, 2, 2, 0, 0]), (6, [5, 0]), (101, [320]), (7, [7, 12, 0, 0, 4, 13, 0, 0, 0, 0, 0, 0, 0, 0, 0]), (0, [0, 0, 8, 0, 9, 0, 10, 0, 11]), (100, [12]), (100, [16]), (100, [8]), (3, [1, 0]), (103, [6]), (3, [1, 0]), (0, [0, 0, 15, 0, 16, 0, 17, 0, 18]), (100, [12]), (100, [16]), (100, [8]), (3, [1, 0]), (2, [20, 0, 0, 21]), (103, [6]), (100, [6]), (104, [21, 24]), (2, [24, 0, 0, 25]), (103, [6]), (100, [6]), (2, [27, 0, 0, 28]), (103, [6]), (100, [6]), (4, [30, 31, 0, 0, 0, 32, 14, 19, 0, 0, 0, 0, 0]), (100, [6]), (100, [6]), (106, [31, 32, 33, 34, 35, 36, 37]), (103, [6]), (103, [6]), (103, [6]), (103, [6]), (103, [6]), (103, [6]), (103, [6])]) d_Search_init_39 fl_Search_27 rfl rfl (by decide) (by decide) (Nat.le_of_ble_eq_true rfl) (fun C T N h => by cases h; rfl) rfl ?_
  exact c_return (pc := 42) d_Search_init_42 (Nat.le_of_ble_eq_true rfl) (Nat.le_of_ble_eq_true rfl) rfl rfl
set_option maxRecDepth 20000 in
set_option maxHeartbeats 4000000 in
theorem CC_12 : CtC y_Habit_init mtC_Habit [Value.ref 37, Value.ref 11, Value.ref 16] [(8, [4, 6, 14, 19, 22, 29, 2, 2, 2, 0, 0]), (6, [5, 0]), (101, [320]), (7, [7, 12, 0, 0, 4, 13, 0, 0, 0, 0, 0, 0, 0, 0, 0]), (0, [0, 0, 8, 0, 9, 0, 10, 0, 11]), (100, [12]), (100, [16]), (100, [8]), (3, [1, 0]), (103, [6]), (3, [1, 0]), (0, [0, 0, 15, 0, 16, 0, 17, 0, 18]), (100, [12]), (100, [16]), (100, [8]), (3, [1, 0]), (2, [20, 0, 0, 21]), (103, [6]), (100, [6]), (104, [21, 24]), (2, [24, 0, 0, 25]), (103, [6]), (100, [6]), (2, [27, 0, 0, 28]), (103, [6]), (100, [6]), (4, [30, 31, 0, 0, 0, 32, 14, 19, 0, 0, 0, 0, 0]), (100, [6]), (100, [6]), (106, [31, 32, 33, 34, 35, 36, 37]), (103, [6]), (103, [6]), (103, [6]), (103, [6]), (103, [6]), (103, [6]), (103, [6]), (1, [2, 2, 2, 2])] (si (si (si (si zM 4 0 3) 4 1 9) 11 0 3) 11 1 9) (PC [(8, [4, 6, 14, 19, 22, 29, 2, 2, 2, 0, 0]), (6, [5, 0]), (101, [320]), (7, [7, 12, 0, 0, 4, 13, 0, 0, 0, 0, 0, 0, 0, 0, 0]), (0, [0, 0, 8, 0, 9, 0, 10, 0, 11]), (100, [12]), (100, [16]), (100, [8]), (3, [1, 0]), (103, [6]), (3, [1, 0]), (0, [0, 0, 15, 0, 16, 0, 17, 0, 18]), (100, [12]), (100, [16]), (100, [8]), (3, [1, 0]), (2, [20, 0, 0, 21]), (103, [6]), (100, [6]), (104, [21, 24]), (2, [24, 0, 0, 25]), (103, [6]), (100, [6]), (2, [27, 0, 0, 28]), (103, [6]), (100, [6]), (4, [30, 31, 0, 0, 0, 32, 14, 19, 0, 0, 0, 0, 0]), (100, [6]), (100, [6]), (106, [31, 32, 33, 34, 35, 36, 37]), (103, [6]), (103, [6]), (103, [6]), (103, [6]), (103, [6]), (103, [6]), (103, [6]), (1, [41, 42, 14, 19]), (103, [1206]), (103, [6])] (si (si (si (si zM 4 0 3) 4 1 9) 11 0 3) 11 1 9)) 2 1212 := by
  refine ctc_of (by decide +kernel) rfl rfl (Nat.le_of_ble_eq_true rfl) ?_
  refine c_aload_n (pc := 0) (q := 0) d_Habit_init_0 rfl rfl ?_
  refine c_objInit (pc := 1) d_Habit_init_1 oi_Habit_3 (Nat.le_of_ble_eq_true rfl) (Nat.le_of_ble_eq_true rfl) ?_
  refine c_aload_n (pc := 4) (q := 0) d_Habit_init_4 rfl rfl ?_
  refine c_sipush (pc := 5) d_Habit_init_5 k_s_1206 ?_
  refine c_newaL (pc := 8) (N := 1206) (sh8 := [(8, [4, 6, 14, 19, 22, 29, 2, 2, 2, 0, 0]), (6, [5, 0]), (101, [320]), (7, [7, 12, 0, 0, 4, 13, 0, 0, 0, 0, 0, 0, 0, 0, 0]), (0, [0, 0, 8, 0, 9, 0, 10, 0, 11]), (100, [12]), (100, [16]), (100, [8]), (3, [1, 0]), (103, [6]), (3, [1, 0]), (0, [0, 0, 15, 0, 16, 0, 17, 0, 18]), (100, [12]), (100, [16]), (100, [8]), (3, [1, 0]), (2, [20, 0, 0, 21]), (103, [6]), (100, [6]), (104, [21, 24]), (2, [24, 0, 0, 25]), (103, [6]), (100, [6]), (2, [27, 0, 0, 28]), (103, [6]), (100, [6]), (4, [30, 31, 0, 0, 0, 32, 14, 19, 0, 0, 0, 0, 0]), (100, [6]), (100, [6]), (106, [31, 32, 33, 34, 35, 36, 37]), (103, [6]), (103, [6]), (103, [6]), (103, [6]), (103, [6]), (103, [6]), (103, [6]), (1, [2, 2, 2, 2]), (103, [1206])]) (a9 := 38) d_Habit_init_8 (by decide) (by decide) ac_long (Nat.le_of_ble_eq_true rfl) ⟨by funext y; simp [si, zM], by funext y; simp [si, zM]⟩ (Nat.le_of_ble_eq_true rfl) (Nat.le_of_ble_eq_true rfl) (Nat.le_of_ble_eq_true rfl) rfl rfl ?_
  refine c_putR (pc := 10) (sh8 := [(8, [4, 6, 14, 19, 22, 29, 2, 2, 2, 0, 0]), (6, [5, 0]), (101, [320]), (7, [7, 12, 0, 0, 4, 13, 0, 0, 0, 0, 0, 0, 0, 0, 0]), (0, [0, 0, 8, 0, 9, 0, 10, 0, 11]), (100, [12]), (100, [16]), (100, [8]), (3, [1, 0]), (103, [6]), (3, [1, 0]), (0, [0, 0, 15, 0, 16, 0, 17, 0, 18]), (100, [12]), (100, [16]), (100, [8]), (3, [1, 0]), (2, [20, 0, 0, 21]), (103, [6]), (100, [6]), (104, [21, 24]), (2, [24, 0, 0, 25]), (103, [6]), (100, [6]), (2, [27, 0, 0, 28]), (103, [6]), (100, [6]), (4, [30, 31, 0, 0, 0, 32, 14, 19, 0, 0, 0, 0, 0]), (100, [6]), (100, [6]), (106, [31, 32, 33, 34, 35, 36, 37]), (103, [6]), (103, [6]), (103, [6]), (103, [6]), (103, [6]), (103, [6]), (103, [6]), (1, [41, 2, 2, 2]), (103, [1206])]) d_Habit_init_10 fl_Habit_11 rfl rfl (by decide) (by decide) (Nat.le_of_ble_eq_true rfl) (fun C T N h => by cases h; rfl) rfl ?_
  refine c_aload_n (pc := 13) (q := 0) d_Habit_init_13 rfl rfl ?_
  refine c_bipush (pc := 14) d_Habit_init_14 k_b_6 ?_
  refine c_newaL (pc := 16) (N := 6) (sh8 := [(8, [4, 6, 14, 19, 22, 29, 2, 2, 2, 0, 0]), (6, [5, 0]), (101, [320]), (7, [7, 12, 0, 0, 4, 13, 0, 0, 0, 0, 0, 0, 0, 0, 0]), (0, [0, 0, 8, 0, 9, 0, 10, 0, 11]), (100, [12]), (100, [16]), (100, [8]), (3, [1, 0]), (103, [6]), (3, [1, 0]), (0, [0, 0, 15, 0, 16, 0, 17, 0, 18]), (100, [12]), (100, [16]), (100, [8]), (3, [1, 0]), (2, [20, 0, 0, 21]), (103, [6]), (100, [6]), (104, [21, 24]), (2, [24, 0, 0, 25]), (103, [6]), (100, [6]), (2, [27, 0, 0, 28]), (103, [6]), (100, [6]), (4, [30, 31, 0, 0, 0, 32, 14, 19, 0, 0, 0, 0, 0]), (100, [6]), (100, [6]), (106, [31, 32, 33, 34, 35, 36, 37]), (103, [6]), (103, [6]), (103, [6]), (103, [6]), (103, [6]), (103, [6]), (103, [6]), (1, [41, 2, 2, 2]), (103, [1206]), (103, [6])]) (a9 := 39) d_Habit_init_16 (by decide) (by decide) ac_long (Nat.le_of_ble_eq_true rfl) ⟨by funext y; simp [si, zM], by funext y; simp [si, zM]⟩ (Nat.le_of_ble_eq_true rfl) (Nat.le_of_ble_eq_true rfl) (Nat.le_of_ble_eq_true rfl) rfl rfl ?_
  refine c_putR (pc := 18) (sh8 := [(8, [4, 6, 14, 19, 22, 29, 2, 2, 2, 0, 0]), (6, [5, 0]), (101, [320]), (7, [7, 12, 0, 0, 4, 13, 0, 0, 0, 0, 0, 0, 0, 0, 0]), (0, [0, 0, 8, 0, 9, 0, 10, 0, 11]), (100, [12]), (100, [16]), (100, [8]), (3, [1, 0]), (103, [6]), (3, [1, 0]), (0, [0, 0, 15, 0, 16, 0, 17, 0, 18]), (100, [12]), (100, [16]), (100, [8]), (3, [1, 0]), (2, [20, 0, 0, 21]), (103, [6]), (100, [6]), (104, [21, 24]), (2, [24, 0, 0, 25]), (103, [6]), (100, [6]), (2, [27, 0, 0, 28]), (103, [6]), (100, [6]), (4, [30, 31, 0, 0, 0, 32, 14, 19, 0, 0, 0, 0, 0]), (100, [6]), (100, [6]), (106, [31, 32, 33, 34, 35, 36, 37]), (103, [6]), (103, [6]), (103, [6]), (103, [6]), (103, [6]), (103, [6]), (103, [6]), (1, [41, 42, 2, 2]), (103, [1206]), (103, [6])]) d_Habit_init_18 fl_Habit_15 rfl rfl (by decide) (by decide) (Nat.le_of_ble_eq_true rfl) (fun C T N h => by cases h; rfl) rfl ?_
  refine c_aload_n (pc := 21) (q := 0) d_Habit_init_21 rfl rfl ?_
  refine c_aload_n (pc := 22) (q := 1) d_Habit_init_22 rfl rfl ?_
  refine c_putR (pc := 23) (sh8 := [(8, [4, 6, 14, 19, 22, 29, 2, 2, 2, 0, 0]), (6, [5, 0]), (101, [320]), (7, [7, 12, 0, 0, 4, 13, 0, 0, 0, 0, 0, 0, 0, 0, 0]), (0, [0, 0, 8, 0, 9, 0, 10, 0, 11]), (100, [12]), (100, [16]), (100, [8]), (3, [1, 0]), (103, [6]), (3, [1, 0]), (0, [0, 0, 15, 0, 16, 0, 17, 0, 18]), (100, [12]), (100, [16]), (100, [8]), (3, [1, 0]), (2, [20, 0, 0, 21]), (103, [6]), (100, [6]), (104, [21, 24]), (2, [24, 0, 0, 25]), (103, [6]), (100, [6]), (2, [27, 0, 0, 28]), (103, [6]), (100, [6]), (4, [30, 31, 0, 0, 0, 32, 14, 19, 0, 0, 0, 0, 0]), (100, [6]), (100, [6]), (106, [31, 32, 33, 34, 35, 36, 37]), (103, [6]), (103, [6]), (103, [6]), (103, [6]), (103, [6]), (103, [6]), (103, [6]), (1, [41, 42, 14, 2]), (103, [1206]), (103, [6])]) d_Habit_init_23 fl_Habit_18 rfl rfl (by decide) (by decide) (Nat.le_of_ble_eq_true rfl) (fun C T N h => by cases h; rfl) rfl ?_
  refine c_aload_n (pc := 26) (q := 0) d_Habit_init_26 rfl rfl ?_
  refine c_aload_n (pc := 27) (q := 2) d_Habit_init_27 rfl rfl ?_
  refine c_putR (pc := 28) (sh8 := [(8, [4, 6, 14, 19, 22, 29, 2, 2, 2, 0, 0]), (6, [5, 0]), (101, [320]), (7, [7, 12, 0, 0, 4, 13, 0, 0, 0, 0, 0, 0, 0, 0, 0]), (0, [0, 0, 8, 0, 9, 0, 10, 0, 11]), (100, [12]), (100, [16]), (100, [8]), (3, [1, 0]), (103, [6]), (3, [1, 0]), (0, [0, 0, 15, 0, 16, 0, 17, 0, 18]), (100, [12]), (100, [16]), (100, [8]), (3, [1, 0]), (2, [20, 0, 0, 21]), (103, [6]), (100, [6]), (104, [21, 24]), (2, [24, 0, 0, 25]), (103, [6]), (100, [6]), (2, [27, 0, 0, 28]), (103, [6]), (100, [6]), (4, [30, 31, 0, 0, 0, 32, 14, 19, 0, 0, 0, 0, 0]), (100, [6]), (100, [6]), (106, [31, 32, 33, 34, 35, 36, 37]), (103, [6]), (103, [6]), (103, [6]), (103, [6]), (103, [6]), (103, [6]), (103, [6]), (1, [41, 42, 14, 19]), (103, [1206]), (103, [6])]) d_Habit_init_28 fl_Habit_22 rfl rfl (by decide) (by decide) (Nat.le_of_ble_eq_true rfl) (fun C T N h => by cases h; rfl) rfl ?_
  exact c_return (pc := 31) d_Habit_init_31 (Nat.le_of_ble_eq_true rfl) (Nat.le_of_ble_eq_true rfl) rfl rfl
set_option maxRecDepth 20000 in
set_option maxHeartbeats 4000000 in
theorem CC_13 : CtC y_Sheet_init mtC_Sheet [Value.ref 41] [(8, [4, 6, 14, 19, 22, 29, 40, 43, 2, 0, 0]), (6, [5, 0]), (101, [320]), (7, [7, 12, 0, 0, 4, 13, 0, 0, 0, 0, 0, 0, 0, 0, 0]), (0, [0, 0, 8, 0, 9, 0, 10, 0, 11]), (100, [12]), (100, [16]), (100, [8]), (3, [1, 0]), (103, [6]), (3, [1, 0]), (0, [0, 0, 15, 0, 16, 0, 17, 0, 18]), (100, [12]), (100, [16]), (100, [8]), (3, [1, 0]), (2, [20, 0, 0, 21]), (103, [6]), (100, [6]), (104, [21, 24]), (2, [24, 0, 0, 25]), (103, [6]), (100, [6]), (2, [27, 0, 0, 28]), (103, [6]), (100, [6]), (4, [30, 31, 0, 0, 0, 32, 14, 19, 0, 0, 0, 0, 0]), (100, [6]), (100, [6]), (106, [31, 32, 33, 34, 35, 36, 37]), (103, [6]), (103, [6]), (103, [6]), (103, [6]), (103, [6]), (103, [6]), (103, [6]), (1, [41, 42, 14, 19]), (103, [1206]), (103, [6]), (105, [0, 0, 0, 0]), (5, [0, 0, 0, 2])] (si (si (si (si zM 4 0 3) 4 1 9) 11 0 3) 11 1 9) (PC [(8, [4, 6, 14, 19, 22, 29, 40, 43, 2, 0, 0]), (6, [5, 0]), (101, [320]), (7, [7, 12, 0, 0, 4, 13, 0, 0, 0, 0, 0, 0, 0, 0, 0]), (0, [0, 0, 8, 0, 9, 0, 10, 0, 11]), (100, [12]), (100, [16]), (100, [8]), (3, [1, 0]), (103, [6]), (3, [1, 0]), (0, [0, 0, 15, 0, 16, 0, 17, 0, 18]), (100, [12]), (100, [16]), (100, [8]), (3, [1, 0]), (2, [20, 0, 0, 21]), (103, [6]), (100, [6]), (104, [21, 24]), (2, [24, 0, 0, 25]), (103, [6]), (100, [6]), (2, [27, 0, 0, 28]), (103, [6]), (100, [6]), (4, [30, 31, 0, 0, 0, 32, 14, 19, 0, 0, 0, 0, 0]), (100, [6]), (100, [6]), (106, [31, 32, 33, 34, 35, 36, 37]), (103, [6]), (103, [6]), (103, [6]), (103, [6]), (103, [6]), (103, [6]), (103, [6]), (1, [41, 42, 14, 19]), (103, [1206]), (103, [6]), (105, [0, 0, 0, 0]), (5, [0, 0, 0, 45]), (100, [40])] (si (si (si (si zM 4 0 3) 4 1 9) 11 0 3) 11 1 9)) 1 40 := by
  refine ctc_of (by decide +kernel) rfl rfl (Nat.le_of_ble_eq_true rfl) ?_
  refine c_aload_n (pc := 0) (q := 0) d_Sheet_init_0 rfl rfl ?_
  refine c_objInit (pc := 1) d_Sheet_init_1 oi_Sheet_1 (Nat.le_of_ble_eq_true rfl) (Nat.le_of_ble_eq_true rfl) ?_
  refine c_aload_n (pc := 4) (q := 0) d_Sheet_init_4 rfl rfl ?_
  refine c_bipush (pc := 5) d_Sheet_init_5 k_b_40 ?_
  refine c_newaI (pc := 7) (N := 40) (sh8 := [(8, [4, 6, 14, 19, 22, 29, 40, 43, 2, 0, 0]), (6, [5, 0]), (101, [320]), (7, [7, 12, 0, 0, 4, 13, 0, 0, 0, 0, 0, 0, 0, 0, 0]), (0, [0, 0, 8, 0, 9, 0, 10, 0, 11]), (100, [12]), (100, [16]), (100, [8]), (3, [1, 0]), (103, [6]), (3, [1, 0]), (0, [0, 0, 15, 0, 16, 0, 17, 0, 18]), (100, [12]), (100, [16]), (100, [8]), (3, [1, 0]), (2, [20, 0, 0, 21]), (103, [6]), (100, [6]), (104, [21, 24]), (2, [24, 0, 0, 25]), (103, [6]), (100, [6]), (2, [27, 0, 0, 28]), (103, [6]), (100, [6]), (4, [30, 31, 0, 0, 0, 32, 14, 19, 0, 0, 0, 0, 0]), (100, [6]), (100, [6]), (106, [31, 32, 33, 34, 35, 36, 37]), (103, [6]), (103, [6]), (103, [6]), (103, [6]), (103, [6]), (103, [6]), (103, [6]), (1, [41, 42, 14, 19]), (103, [1206]), (103, [6]), (105, [0, 0, 0, 0]), (5, [0, 0, 0, 2]), (100, [40])]) (a9 := 42) d_Sheet_init_7 (by decide) (by decide) ac_int (Nat.le_of_ble_eq_true rfl) ⟨by funext y; simp [si, zM], by funext y; simp [si, zM]⟩ (Nat.le_of_ble_eq_true rfl) (Nat.le_of_ble_eq_true rfl) (Nat.le_of_ble_eq_true rfl) rfl rfl ?_
  refine c_putR (pc := 9) (sh8 := [(8, [4, 6, 14, 19, 22, 29, 40, 43, 2, 0, 0]), (6, [5, 0]), (101, [320]), (7, [7, 12, 0, 0, 4, 13, 0, 0, 0, 0, 0, 0, 0, 0, 0]), (0, [0, 0, 8, 0, 9, 0, 10, 0, 11]), (100, [12]), (100, [16]), (100, [8]), (3, [1, 0]), (103, [6]), (3, [1, 0]), (0, [0, 0, 15, 0, 16, 0, 17, 0, 18]), (100, [12]), (100, [16]), (100, [8]), (3, [1, 0]), (2, [20, 0, 0, 21]), (103, [6]), (100, [6]), (104, [21, 24]), (2, [24, 0, 0, 25]), (103, [6]), (100, [6]), (2, [27, 0, 0, 28]), (103, [6]), (100, [6]), (4, [30, 31, 0, 0, 0, 32, 14, 19, 0, 0, 0, 0, 0]), (100, [6]), (100, [6]), (106, [31, 32, 33, 34, 35, 36, 37]), (103, [6]), (103, [6]), (103, [6]), (103, [6]), (103, [6]), (103, [6]), (103, [6]), (1, [41, 42, 14, 19]), (103, [1206]), (103, [6]), (105, [0, 0, 0, 0]), (5, [0, 0, 0, 45]), (100, [40])]) d_Sheet_init_9 fl_Sheet_9 rfl rfl (by decide) (by decide) (Nat.le_of_ble_eq_true rfl) (fun C T N h => by cases h; rfl) rfl ?_
  exact c_return (pc := 12) d_Sheet_init_12 (Nat.le_of_ble_eq_true rfl) (Nat.le_of_ble_eq_true rfl) rfl rfl
set_option maxRecDepth 20000 in
set_option maxHeartbeats 4000000 in
theorem CC_14 : CtC y_Sheet_init mtC_Sheet [Value.ref 43] [(8, [4, 6, 14, 19, 22, 29, 40, 43, 2, 0, 0]), (6, [5, 0]), (101, [320]), (7, [7, 12, 0, 0, 4, 13, 0, 0, 0, 0, 0, 0, 0, 0, 0]), (0, [0, 0, 8, 0, 9, 0, 10, 0, 11]), (100, [12]), (100, [16]), (100, [8]), (3, [1, 0]), (103, [6]), (3, [1, 0]), (0, [0, 0, 15, 0, 16, 0, 17, 0, 18]), (100, [12]), (100, [16]), (100, [8]), (3, [1, 0]), (2, [20, 0, 0, 21]), (103, [6]), (100, [6]), (104, [21, 24]), (2, [24, 0, 0, 25]), (103, [6]), (100, [6]), (2, [27, 0, 0, 28]), (103, [6]), (100, [6]), (4, [30, 31, 0, 0, 0, 32, 14, 19, 0, 0, 0, 0, 0]), (100, [6]), (100, [6]), (106, [31, 32, 33, 34, 35, 36, 37]), (103, [6]), (103, [6]), (103, [6]), (103, [6]), (103, [6]), (103, [6]), (103, [6]), (1, [41, 42, 14, 19]), (103, [1206]), (103, [6]), (105, [42, 0, 0, 0]), (5, [0, 0, 0, 45]), (100, [40]), (5, [0, 0, 0, 2])] (si (si (si (si zM 4 0 3) 4 1 9) 11 0 3) 11 1 9) (PC [(8, [4, 6, 14, 19, 22, 29, 40, 43, 2, 0, 0]), (6, [5, 0]), (101, [320]), (7, [7, 12, 0, 0, 4, 13, 0, 0, 0, 0, 0, 0, 0, 0, 0]), (0, [0, 0, 8, 0, 9, 0, 10, 0, 11]), (100, [12]), (100, [16]), (100, [8]), (3, [1, 0]), (103, [6]), (3, [1, 0]), (0, [0, 0, 15, 0, 16, 0, 17, 0, 18]), (100, [12]), (100, [16]), (100, [8]), (3, [1, 0]), (2, [20, 0, 0, 21]), (103, [6]), (100, [6]), (104, [21, 24]), (2, [24, 0, 0, 25]), (103, [6]), (100, [6]), (2, [27, 0, 0, 28]), (103, [6]), (100, [6]), (4, [30, 31, 0, 0, 0, 32, 14, 19, 0, 0, 0, 0, 0]), (100, [6]), (100, [6]), (106, [31, 32, 33, 34, 35, 36, 37]), (103, [6]), (103, [6]), (103, [6]), (103, [6]), (103, [6]), (103, [6]), (103, [6]), (1, [41, 42, 14, 19]), (103, [1206]), (103, [6]), (105, [42, 0, 0, 0]), (5, [0, 0, 0, 45]), (100, [40]), (5, [0, 0, 0, 47]), (100, [40])] (si (si (si (si zM 4 0 3) 4 1 9) 11 0 3) 11 1 9)) 1 40 := by
  refine ctc_of (by decide +kernel) rfl rfl (Nat.le_of_ble_eq_true rfl) ?_
  refine c_aload_n (pc := 0) (q := 0) d_Sheet_init_0 rfl rfl ?_
  refine c_objInit (pc := 1) d_Sheet_init_1 oi_Sheet_1 (Nat.le_of_ble_eq_true rfl) (Nat.le_of_ble_eq_true rfl) ?_
  refine c_aload_n (pc := 4) (q := 0) d_Sheet_init_4 rfl rfl ?_
  refine c_bipush (pc := 5) d_Sheet_init_5 k_b_40 ?_
  refine c_newaI (pc := 7) (N := 40) (sh8 := [(8, [4, 6, 14, 19, 22, 29, 40, 43, 2, 0, 0]), (6, [5, 0]), (101, [320]), (7, [7, 12, 0, 0, 4, 13, 0, 0, 0, 0, 0, 0, 0, 0, 0]), (0, [0, 0, 8, 0, 9, 0, 10, 0, 11]), (100, [12]), (100, [16]), (100, [8]), (3, [1, 0]), (103, [6]), (3, [1, 0]), (0, [0, 0, 15, 0, 16, 0, 17, 0, 18]), (100, [12]), (100, [16]), (100, [8]), (3, [1, 0]), (2, [20, 0, 0, 21]), (103, [6]), (100, [6]), (104, [21, 24]), (2, [24, 0, 0, 25]), (103, [6]), (100, [6]), (2, [27, 0, 0, 28]), (103, [6]), (100, [6]), (4, [30, 31, 0, 0, 0, 32, 14, 19, 0, 0, 0, 0, 0]), (100, [6]), (100, [6]), (106, [31, 32, 33, 34, 35, 36, 37]), (103, [6]), (103, [6]), (103, [6]), (103, [6]), (103, [6]), (103, [6]), (103, [6]), (1, [41, 42, 14, 19]), (103, [1206]), (103, [6]), (105, [42, 0, 0, 0]), (5, [0, 0, 0, 45]), (100, [40]), (5, [0, 0, 0, 2]), (100, [40])]) (a9 := 44) d_Sheet_init_7 (by decide) (by decide) ac_int (Nat.le_of_ble_eq_true rfl) ⟨by funext y; simp [si, zM], by funext y; simp [si, zM]⟩ (Nat.le_of_ble_eq_true rfl) (Nat.le_of_ble_eq_true rfl) (Nat.le_of_ble_eq_true rfl) rfl rfl ?_
  refine c_putR (pc := 9) (sh8 := [(8, [4, 6, 14, 19, 22, 29, 40, 43, 2, 0, 0]), (6, [5, 0]), (101, [320]), (7, [7, 12, 0, 0, 4, 13, 0, 0, 0, 0, 0, 0, 0, 0, 0]), (0, [0, 0, 8, 0, 9, 0, 10, 0, 11]), (100, [12]), (100, [16]), (100, [8]), (3, [1, 0]), (103, [6]), (3, [1, 0]), (0, [0, 0, 15, 0, 16, 0, 17, 0, 18]), (100, [12]), (100, [16]), (100, [8]), (3, [1, 0]), (2, [20, 0, 0, 21]), (103, [6]), (100, [6]), (104, [21, 24]), (2, [24, 0, 0, 25]), (103, [6]), (100, [6]), (2, [27, 0, 0, 28]), (103, [6]), (100, [6]), (4, [30, 31, 0, 0, 0, 32, 14, 19, 0, 0, 0, 0, 0]), (100, [6]), (100, [6]), (106, [31, 32, 33, 34, 35, 36, 37]), (103, [6]), (103, [6]), (103, [6]), (103, [6]), (103, [6]), (103, [6]), (103, [6]), (1, [41, 42, 14, 19]), (103, [1206]), (103, [6]), (105, [42, 0, 0, 0]), (5, [0, 0, 0, 45]), (100, [40]), (5, [0, 0, 0, 47]), (100, [40])]) d_Sheet_init_9 fl_Sheet_9 rfl rfl (by decide) (by decide) (Nat.le_of_ble_eq_true rfl) (fun C T N h => by cases h; rfl) rfl ?_
  exact c_return (pc := 12) d_Sheet_init_12 (Nat.le_of_ble_eq_true rfl) (Nat.le_of_ble_eq_true rfl) rfl rfl
set_option maxRecDepth 20000 in
set_option maxHeartbeats 4000000 in
theorem CC_15 : CtC y_Sheet_init mtC_Sheet [Value.ref 45] [(8, [4, 6, 14, 19, 22, 29, 40, 43, 2, 0, 0]), (6, [5, 0]), (101, [320]), (7, [7, 12, 0, 0, 4, 13, 0, 0, 0, 0, 0, 0, 0, 0, 0]), (0, [0, 0, 8, 0, 9, 0, 10, 0, 11]), (100, [12]), (100, [16]), (100, [8]), (3, [1, 0]), (103, [6]), (3, [1, 0]), (0, [0, 0, 15, 0, 16, 0, 17, 0, 18]), (100, [12]), (100, [16]), (100, [8]), (3, [1, 0]), (2, [20, 0, 0, 21]), (103, [6]), (100, [6]), (104, [21, 24]), (2, [24, 0, 0, 25]), (103, [6]), (100, [6]), (2, [27, 0, 0, 28]), (103, [6]), (100, [6]), (4, [30, 31, 0, 0, 0, 32, 14, 19, 0, 0, 0, 0, 0]), (100, [6]), (100, [6]), (106, [31, 32, 33, 34, 35, 36, 37]), (103, [6]), (103, [6]), (103, [6]), (103, [6]), (103, [6]), (103, [6]), (103, [6]), (1, [41, 42, 14, 19]), (103, [1206]), (103, [6]), (105, [42, 44, 0, 0]), (5, [0, 0, 0, 45]), (100, [40]), (5, [0, 0, 0, 47]), (100, [40]), (5, [0, 0, 0, 2])] (si (si (si (si zM 4 0 3) 4 1 9) 11 0 3) 11 1 9) (PC [(8, [4, 6, 14, 19, 22, 29, 40, 43, 2, 0, 0]), (6, [5, 0]), (101, [320]), (7, [7, 12, 0, 0, 4, 13, 0, 0, 0, 0, 0, 0, 0, 0, 0]), (0, [0, 0, 8, 0, 9, 0, 10, 0, 11]), (100, [12]), (100, [16]), (100, [8]), (3, [1, 0]), (103, [6]), (3, [1, 0]), (0, [0, 0, 15, 0, 16, 0, 17, 0, 18]), (100, [12]), (100, [16]), (100, [8]), (3, [1, 0]), (2, [20, 0, 0, 21]), (103, [6]), (100, [6]), (104, [21, 24]), (2, [24, 0, 0, 25]), (103, [6]), (100, [6]), (2, [27, 0, 0, 28]), (103, [6]), (100, [6]), (4, [30, 31, 0, 0, 0, 32, 14, 19, 0, 0, 0, 0, 0]), (100, [6]), (100, [6]), (106, [31, 32, 33, 34, 35, 36, 37]), (103, [6]), (103, [6]), (103, [6]), (103, [6]), (103, [6]), (103, [6]), (103, [6]), (1, [41, 42, 14, 19]), (103, [1206]), (103, [6]), (105, [42, 44, 0, 0]), (5, [0, 0, 0, 45]), (100, [40]), (5, [0, 0, 0, 47]), (100, [40]), (5, [0, 0, 0, 49]), (100, [40])] (si (si (si (si zM 4 0 3) 4 1 9) 11 0 3) 11 1 9)) 1 40 := by
  refine ctc_of (by decide +kernel) rfl rfl (Nat.le_of_ble_eq_true rfl) ?_
  refine c_aload_n (pc := 0) (q := 0) d_Sheet_init_0 rfl rfl ?_
  refine c_objInit (pc := 1) d_Sheet_init_1 oi_Sheet_1 (Nat.le_of_ble_eq_true rfl) (Nat.le_of_ble_eq_true rfl) ?_
  refine c_aload_n (pc := 4) (q := 0) d_Sheet_init_4 rfl rfl ?_
  refine c_bipush (pc := 5) d_Sheet_init_5 k_b_40 ?_
  refine c_newaI (pc := 7) (N := 40) (sh8 := [(8, [4, 6, 14, 19, 22, 29, 40, 43, 2, 0, 0]), (6, [5, 0]), (101, [320]), (7, [7, 12, 0, 0, 4, 13, 0, 0, 0, 0, 0, 0, 0, 0, 0]), (0, [0, 0, 8, 0, 9, 0, 10, 0, 11]), (100, [12]), (100, [16]), (100, [8]), (3, [1, 0]), (103, [6]), (3, [1, 0]), (0, [0, 0, 15, 0, 16, 0, 17, 0, 18]), (100, [12]), (100, [16]), (100, [8]), (3, [1, 0]), (2, [20, 0, 0, 21]), (103, [6]), (100, [6]), (104, [21, 24]), (2, [24, 0, 0, 25]), (103, [6]), (100, [6]), (2, [27, 0, 0, 28]), (103, [6]), (100, [6]), (4, [30, 31, 0, 0, 0, 32, 14, 19, 0, 0, 0, 0, 0]), (100, [6]), (100, [6]), (106, [31, 32, 33, 34, 35, 36, 37]), (103, [6]), (103, [6]), (103, [6]), (103, [6]), (103, [6]), (103, [6]), (103, [6]), (1, [41, 42, 14, 19]), (103, [1206]), (103, [6]), (105, [42, 44, 0, 0]), (5, [0, 0, 0, 45]), (100, [40]), (5, [0, 0, 0, 47]), (100, [40]), (5, [0, 0, 0, 2]), (100, [40])]) (a9 := 46) d_Sheet_init_7 (by decide) (by decide) ac_int (Nat.le_of_ble_eq_true rfl) ⟨by funext y; simp [si, zM], by funext y; simp [si, zM]⟩ (Nat.le_of_ble_eq_true rfl) (Nat.le_of_ble_eq_true rfl) (Nat.le_of_ble_eq_true rfl) rfl rfl ?_
  refine c_putR (pc := 9) (sh8 := [(8, [4, 6, 14, 19, 22, 29, 40, 43, 2, 0, 0]), (6, [5, 0]), (101, [320]), (7, [7, 12, 0, 0, 4, 13, 0, 0, 0, 0, 0, 0, 0, 0, 0]), (0, [0, 0, 8, 0, 9, 0, 10, 0, 11]), (100, [12]), (100, [16]), (100, [8]), (3, [1, 0]), (103, [6]), (3, [1, 0]), (0, [0, 0, 15, 0, 16, 0, 17, 0, 18]), (100, [12]), (100, [16]), (100, [8]), (3, [1, 0]), (2, [20, 0, 0, 21]), (103, [6]), (100, [6]), (104, [21, 24]), (2, [24, 0, 0, 25]), (103, [6]), (100, [6]), (2, [27, 0, 0, 28]), (103, [6]), (100, [6]), (4, [30, 31, 0, 0, 0, 32, 14, 19, 0, 0, 0, 0, 0]), (100, [6]), (100, [6]), (106, [31, 32, 33, 34, 35, 36, 37]), (103, [6]), (103, [6]), (103, [6]), (103, [6]), (103, [6]), (103, [6]), (103, [6]), (1, [41, 42, 14, 19]), (103, [1206]), (103, [6]), (105, [42, 44, 0, 0]), (5, [0, 0, 0, 45]), (100, [40]), (5, [0, 0, 0, 47]), (100, [40]), (5, [0, 0, 0, 49]), (100, [40])]) d_Sheet_init_9 fl_Sheet_9 rfl rfl (by decide) (by decide) (Nat.le_of_ble_eq_true rfl) (fun C T N h => by cases h; rfl) rfl ?_
  exact c_return (pc := 12) d_Sheet_init_12 (Nat.le_of_ble_eq_true rfl) (Nat.le_of_ble_eq_true rfl) rfl rfl
set_option maxRecDepth 20000 in
set_option maxHeartbeats 4000000 in
theorem CC_16 : CtC y_Sheet_init mtC_Sheet [Value.ref 47] [(8, [4, 6, 14, 19, 22, 29, 40, 43, 2, 0, 0]), (6, [5, 0]), (101, [320]), (7, [7, 12, 0, 0, 4, 13, 0, 0, 0, 0, 0, 0, 0, 0, 0]), (0, [0, 0, 8, 0, 9, 0, 10, 0, 11]), (100, [12]), (100, [16]), (100, [8]), (3, [1, 0]), (103, [6]), (3, [1, 0]), (0, [0, 0, 15, 0, 16, 0, 17, 0, 18]), (100, [12]), (100, [16]), (100, [8]), (3, [1, 0]), (2, [20, 0, 0, 21]), (103, [6]), (100, [6]), (104, [21, 24]), (2, [24, 0, 0, 25]), (103, [6]), (100, [6]), (2, [27, 0, 0, 28]), (103, [6]), (100, [6]), (4, [30, 31, 0, 0, 0, 32, 14, 19, 0, 0, 0, 0, 0]), (100, [6]), (100, [6]), (106, [31, 32, 33, 34, 35, 36, 37]), (103, [6]), (103, [6]), (103, [6]), (103, [6]), (103, [6]), (103, [6]), (103, [6]), (1, [41, 42, 14, 19]), (103, [1206]), (103, [6]), (105, [42, 44, 46, 0]), (5, [0, 0, 0, 45]), (100, [40]), (5, [0, 0, 0, 47]), (100, [40]), (5, [0, 0, 0, 49]), (100, [40]), (5, [0, 0, 0, 2])] (si (si (si (si zM 4 0 3) 4 1 9) 11 0 3) 11 1 9) (PC [(8, [4, 6, 14, 19, 22, 29, 40, 43, 2, 0, 0]), (6, [5, 0]), (101, [320]), (7, [7, 12, 0, 0, 4, 13, 0, 0, 0, 0, 0, 0, 0, 0, 0]), (0, [0, 0, 8, 0, 9, 0, 10, 0, 11]), (100, [12]), (100, [16]), (100, [8]), (3, [1, 0]), (103, [6]), (3, [1, 0]), (0, [0, 0, 15, 0, 16, 0, 17, 0, 18]), (100, [12]), (100, [16]), (100, [8]), (3, [1, 0]), (2, [20, 0, 0, 21]), (103, [6]), (100, [6]), (104, [21, 24]), (2, [24, 0, 0, 25]), (103, [6]), (100, [6]), (2, [27, 0, 0, 28]), (103, [6]), (100, [6]), (4, [30, 31, 0, 0, 0, 32, 14, 19, 0, 0, 0, 0, 0]), (100, [6]), (100, [6]), (106, [31, 32, 33, 34, 35, 36, 37]), (103, [6]), (103, [6]), (103, [6]), (103, [6]), (103, [6]), (103, [6]), (103, [6]), (1, [41, 42, 14, 19]), (103, [1206]), (103, [6]), (105, [42, 44, 46, 0]), (5, [0, 0, 0, 45]), (100, [40]), (5, [0, 0, 0, 47]), (100, [40]), (5, [0, 0, 0, 49]), (100, [40]), (5, [0, 0, 0, 51]), (100, [40])] (si (si (si (si zM 4 0 3) 4 1 9) 11 0 3) 11 1 9)) 1 40 := by
  refine ctc_of (by decide +kernel) rfl rfl (Nat.le_of_ble_eq_true rfl) ?_
  refine c_aload_n (pc := 0) (q := 0) d_Sheet_init_0 rfl rfl ?_
  refine c_objInit (pc := 1) d_Sheet_init_1 oi_Sheet_1 (Nat.le_of_ble_eq_true rfl) (Nat.le_of_ble_eq_true rfl) ?_
  refine c_aload_n (pc := 4) (q := 0) d_Sheet_init_4 rfl rfl ?_
  refine c_bipush (pc := 5) d_Sheet_init_5 k_b_40 ?_
  refine c_newaI (pc := 7) (N := 40) (sh8 := [(8, [4, 6, 14, 19, 22, 29, 40, 43, 2, 0, 0]), (6, [5, 0]), (101, [320]), (7, [7, 12, 0, 0, 4, 13, 0, 0, 0, 0, 0, 0, 0, 0, 0]), (0, [0, 0, 8, 0, 9, 0, 10, 0, 11]), (100, [12]), (100, [16]), (100, [8]), (3, [1, 0]), (103, [6]), (3, [1, 0]), (0, [0, 0, 15, 0, 16, 0, 17, 0, 18]), (100, [12]), (100, [16]), (100, [8]), (3, [1, 0]), (2, [20, 0, 0, 21]), (103, [6]), (100, [6]), (104, [21, 24]), (2, [24, 0, 0, 25]), (103, [6]), (100, [6]), (2, [27, 0, 0, 28]), (103, [6]), (100, [6]), (4, [30, 31, 0, 0, 0, 32, 14, 19, 0, 0, 0, 0, 0]), (100, [6]), (100, [6]), (106, [31, 32, 33, 34, 35, 36, 37]), (103, [6]), (103, [6]), (103, [6]), (103, [6]), (103, [6]), (103, [6]), (103, [6]), (1, [41, 42, 14, 19]), (103, [1206]), (103, [6]), (105, [42, 44, 46, 0]), (5, [0, 0, 0, 45]), (100, [40]), (5, [0, 0, 0, 47]), (100, [40]), (5, [0, 0, 0, 49]), (100, [40]), (5, [0, 0, 0, 2]), (100, [40])]) (a9 := 48) d_Sheet_init_7 (by decide) (by decide) ac_int (Nat.le_of_ble_eq_true rfl) ⟨by funext y; simp [si, zM], by funext y; simp [si, zM]⟩ (Nat.le_of_ble_eq_true rfl) (Nat.le_of_ble_eq_true rfl) (Nat.le_of_ble_eq_true rfl) rfl rfl ?_
  refine c_putR (pc := 9) (sh8 := [(8, [4, 6, 14, 19, 22, 29, 40, 43, 2, 0, 0]), (6, [5, 0]), (101, [320]), (7, [7, 12, 0, 0, 4, 13, 0, 0, 0, 0, 0, 0, 0, 0, 0]), (0, [0, 0, 8, 0, 9, 0, 10, 0, 11]), (100, [12]), (100, [16]), (100, [8]), (3, [1, 0]), (103, [6]), (3, [1, 0]), (0, [0, 0, 15, 0, 16, 0, 17, 0, 18]), (100, [12]), (100, [16]), (100, [8]), (3, [1, 0]), (2, [20, 0, 0, 21]), (103, [6]), (100, [6]), (104, [21, 24]), (2, [24, 0, 0, 25]), (103, [6]), (100, [6]), (2, [27, 0, 0, 28]), (103, [6]), (100, [6]), (4, [30, 31, 0, 0, 0, 32, 14, 19, 0, 0, 0, 0, 0]), (100, [6]), (100, [6]), (106, [31, 32, 33, 34, 35, 36, 37]), (103, [6]), (103, [6]), (103, [6]), (103, [6]), (103, [6]), (103, [6]), (103, [6]), (1, [41, 42, 14, 19]), (103, [1206]), (103, [6]), (105, [42, 44, 46, 0]), (5, [0, 0, 0, 45]), (100, [40]), (5, [0, 0, 0, 47]), (100, [40]), (5, [0, 0, 0, 49]), (100, [40]), (5, [0, 0, 0, 51]), (100, [40])]) d_Sheet_init_9 fl_Sheet_9 rfl rfl (by decide) (by decide) (Nat.le_of_ble_eq_true rfl) (fun C T N h => by cases h; rfl) rfl ?_
  exact c_return (pc := 12) d_Sheet_init_12 (Nat.le_of_ble_eq_true rfl) (Nat.le_of_ble_eq_true rfl) rfl rfl
set_option maxRecDepth 20000 in
set_option maxHeartbeats 4000000 in
theorem CC_17 : CtC y_ShakeHands_init mtC_ShakeHands [Value.ref 0] [(8, [2, 2, 2, 2, 2, 2, 2, 2, 2, 0, 0])] (zM) (PC [(8, [4, 6, 14, 19, 22, 29, 40, 43, 52, 0, 0]), (6, [5, 0]), (101, [320]), (7, [7, 12, 0, 0, 4, 13, 0, 0, 0, 0, 0, 0, 0, 0, 0]), (0, [0, 0, 8, 0, 9, 0, 10, 0, 11]), (100, [12]), (100, [16]), (100, [8]), (3, [1, 0]), (103, [6]), (3, [1, 0]), (0, [0, 0, 15, 0, 16, 0, 17, 0, 18]), (100, [12]), (100, [16]), (100, [8]), (3, [1, 0]), (2, [20, 0, 0, 21]), (103, [6]), (100, [6]), (104, [21, 24]), (2, [24, 0, 0, 25]), (103, [6]), (100, [6]), (2, [27, 0, 0, 28]), (103, [6]), (100, [6]), (4, [30, 31, 0, 0, 0, 32, 14, 19, 0, 0, 0, 0, 0]), (100, [6]), (100, [6]), (106, [31, 32, 33, 34, 35, 36, 37]), (103, [6]), (103, [6]), (103, [6]), (103, [6]), (103, [6]), (103, [6]), (103, [6]), (1, [41, 42, 14, 19]), (103, [1206]), (103, [6]), (105, [42, 44, 46, 48]), (5, [0, 0, 0, 45]), (100, [40]), (5, [0, 0, 0, 47]), (100, [40]), (5, [0, 0, 0, 49]), (100, [40]), (5, [0, 0, 0, 51]), (100, [40]), (103, [6])] (si (si (si (si zM 4 0 3) 4 1 9) 11 0 3) 11 1 9)) 49 1965 := by
  refine ctc_of (by decide +kernel) rfl rfl (Nat.le_of_ble_eq_true rfl) ?_
  refine c_aload_n (pc := 0) (q := 0) d_ShakeHands_init_0 rfl rfl ?_
  refine c_objInit (pc := 1) d_ShakeHands_init_1 oi_ShakeHands_1 (Nat.le_of_ble_eq_true rfl) (Nat.le_of_ble_eq_true rfl) ?_
  refine c_aload_n (pc := 4) (q := 0) d_ShakeHands_init_4 rfl rfl ?_
  refine c_new (pc := 5) (ci := 6) (T := F_Tape) (N := 2) (ds := [2, 0]) (sh8 := [(8, [2, 2, 2, 2, 2, 2, 2, 2, 2, 0, 0]), (6, [2, 0])]) (a9 := 1) d_ShakeHands_init_5 rfl (by decide) i_Tape t_Tape_ok cwl_ShakeHands_7 in_Tape ini_Tape (fun ad j hj => nu_Tape ad j hj) ⟨by funext y; simp [si, zM], by funext y; simp [si, zM]⟩ (Nat.le_of_ble_eq_true rfl) (Nat.le_of_ble_eq_true rfl) (Nat.le_of_ble_eq_true rfl) rfl rfl ?_
  refine c_dup (pc := 8) d_ShakeHands_init_8 rfl ?_
  refine c_initN (pc := 9) (as := []) (a := 1) d_ShakeHands_init_9 CC_1 cN_ShakeHands_9 cd_Tape_init rfl im_Tape_init ini_Tape dn_Tape_init rfl (by decide) (by decide) (Nat.le_of_ble_eq_true rfl) (Nat.le_of_ble_eq_true rfl) (Nat.le_of_ble_eq_true rfl) ?_
  refine c_putR (pc := 12) (sh8 := [(8, [4, 2, 2, 2, 2, 2, 2, 2, 2, 0, 0]), (6, [5, 0]), (101, [320])]) d_ShakeHands_init_12 fl_ShakeHands_10 rfl rfl (by decide) (by decide) (Nat.le_of_ble_eq_true rfl) (fun C T N h => by cases h; rfl) rfl ?_
  refine c_aload_n (pc := 15) (q := 0) d_ShakeHands_init_15 rfl rfl ?_
  refine c_new (pc := 16) (ci := 7) (T := F_Teller) (N := 15) (ds := [2, 2, 0, 0, 2, 2, 0, 0, 0, 0, 0, 0, 0, 0, 0]) (sh8 := [(8, [4, 2, 2, 2, 2, 2, 2, 2, 2, 0, 0]), (6, [5, 0]), (101, [320]), (7, [2, 2, 0, 0, 2, 2, 0, 0, 0, 0, 0, 0, 0, 0, 0])]) (a9 := 3) d_ShakeHands_init_16 rfl (by decide) i_Teller t_Teller_ok cwl_ShakeHands_16 in_Teller ini_Teller (fun ad j hj => nu_Teller ad j hj) ⟨by funext y; simp [si, zM], by funext y; simp [si, zM]⟩ (Nat.le_of_ble_eq_true rfl) (Nat.le_of_ble_eq_true rfl) (Nat.le_of_ble_eq_true rfl) rfl rfl ?_
  refine c_dup (pc := 19) d_ShakeHands_init_19 rfl ?_
  refine c_aload_n (pc := 20) (q := 0) d_ShakeHands_init_20 rfl rfl ?_
  refine c_getA (pc := 21) (b := 1) d_ShakeHands_init_21 fl_ShakeHands_10 rfl (by decide) rfl ?_
  refine c_init (pc := 24) (as := [Value.ref 1]) (a := 3) d_ShakeHands_init_24 CC_5 cI_ShakeHands_18 cd_Teller_init rfl im_Teller_init ini_Teller dn_Teller_init rfl (by decide) (by decide) (Nat.le_of_ble_eq_true rfl) (Nat.le_of_ble_eq_true rfl) (Nat.le_of_ble_eq_true rfl) ?_
  refine c_putR (pc := 27) (sh8 := [(8, [4, 6, 2, 2, 2, 2, 2, 2, 2, 0, 0]), (6, [5, 0]), (101, [320]), (7, [7, 12, 0, 0, 4, 13, 0, 0, 0, 0, 0, 0, 0, 0, 0]), (0, [0, 0, 8, 0, 9, 0, 10, 0, 11]), (100, [12]), (100, [16]), (100, [8]), (3, [1, 0]), (103, [6]), (3, [1, 0])]) d_ShakeHands_init_27 fl_ShakeHands_21 rfl rfl (by decide) (by decide) (Nat.le_of_ble_eq_true rfl) (fun C T N h => by cases h; rfl) rfl ?_
  refine c_aload_n (pc := 30) (q := 0) d_ShakeHands_init_30 rfl rfl ?_
  refine c_new (pc := 31) (ci := 0) (T := F_Circle) (N := 9) (ds := [0, 0, 2, 0, 2, 0, 2, 0, 2]) (sh8 := [(8, [4, 6, 2, 2, 2, 2, 2, 2, 2, 0, 0]), (6, [5, 0]), (101, [320]), (7, [7, 12, 0, 0, 4, 13, 0, 0, 0, 0, 0, 0, 0, 0, 0]), (0, [0, 0, 8, 0, 9, 0, 10, 0, 11]), (100, [12]), (100, [16]), (100, [8]), (3, [1, 0]), (103, [6]), (3, [1, 0]), (0, [0, 0, 2, 0, 2, 0, 2, 0, 2])]) (a9 := 11) d_ShakeHands_init_31 rfl (by decide) i_Circle t_Circle_ok cwl_ShakeHands_25 in_Circle ini_Circle (fun ad j hj => nu_Circle ad j hj) ⟨by funext y; simp [si, zM], by funext y; simp [si, zM]⟩ (Nat.le_of_ble_eq_true rfl) (Nat.le_of_ble_eq_true rfl) (Nat.le_of_ble_eq_true rfl) rfl rfl ?_
  refine c_dup (pc := 34) d_ShakeHands_init_34 rfl ?_
  refine c_initN (pc := 35) (as := []) (a := 11) d_ShakeHands_init_35 CC_7 cN_ShakeHands_27 cd_Circle_init rfl im_Circle_init ini_Circle dn_Circle_init rfl (by decide) (by decide) (Nat.le_of_ble_eq_true rfl) (Nat.le_of_ble_eq_true rfl) (Nat.le_of_ble_eq_true rfl) ?_
  refine c_putR (pc := 38) (sh8 := [(8, [4, 6, 14, 2, 2, 2, 2, 2, 2, 0, 0]), (6, [5, 0]), (101, [320]), (7, [7, 12, 0, 0, 4, 13, 0, 0, 0, 0, 0, 0, 0, 0, 0]), (0, [0, 0, 8, 0, 9, 0, 10, 0, 11]), (100, [12]), (100, [16]), (100, [8]), (3, [1, 0]), (103, [6]), (3, [1, 0]), (0, [0, 0, 15, 0, 16, 0, 17, 0, 18]), (100, [12]), (100, [16]), (100, [8]), (3, [1, 0])]) d_ShakeHands_init_38 fl_ShakeHands_28 rfl rfl (by decide) (by decide) (Nat.le_of_ble_eq_true rfl) (fun C T N h => by cases h; rfl) rfl ?_
  refine c_aload_n (pc := 41) (q := 0) d_ShakeHands_init_41 rfl rfl ?_
  refine c_new (pc := 42) (ci := 2) (T := F_Minds) (N := 4) (ds := [2, 0, 0, 2]) (sh8 := [(8, [4, 6, 14, 2, 2, 2, 2, 2, 2, 0, 0]), (6, [5, 0]), (101, [320]), (7, [7, 12, 0, 0, 4, 13, 0, 0, 0, 0, 0, 0, 0, 0, 0]), (0, [0, 0, 8, 0, 9, 0, 10, 0, 11]), (100, [12]), (100, [16]), (100, [8]), (3, [1, 0]), (103, [6]), (3, [1, 0]), (0, [0, 0, 15, 0, 16, 0, 17, 0, 18]), (100, [12]), (100, [16]), (100, [8]), (3, [1, 0]), (2, [2, 0, 0, 2])]) (a9 := 16) d_ShakeHands_init_42 rfl (by decide) i_Minds t_Minds_ok cwl_ShakeHands_32 in_Minds ini_Minds (fun ad j hj => nu_Minds ad j hj) ⟨by funext y; simp [si, zM], by funext y; simp [si, zM]⟩ (Nat.le_of_ble_eq_true rfl) (Nat.le_of_ble_eq_true rfl) (Nat.le_of_ble_eq_true rfl) rfl rfl ?_
  refine c_dup (pc := 45) d_ShakeHands_init_45 rfl ?_
  refine c_initN (pc := 46) (as := []) (a := 16) d_ShakeHands_init_46 CC_8 cN_ShakeHands_34 cd_Minds_init rfl im_Minds_init ini_Minds dn_Minds_init rfl (by decide) (by decide) (Nat.le_of_ble_eq_true rfl) (Nat.le_of_ble_eq_true rfl) (Nat.le_of_ble_eq_true rfl) ?_
  refine c_putR (pc := 49) (sh8 := [(8, [4, 6, 14, 19, 2, 2, 2, 2, 2, 0, 0]), (6, [5, 0]), (101, [320]), (7, [7, 12, 0, 0, 4, 13, 0, 0, 0, 0, 0, 0, 0, 0, 0]), (0, [0, 0, 8, 0, 9, 0, 10, 0, 11]), (100, [12]), (100, [16]), (100, [8]), (3, [1, 0]), (103, [6]), (3, [1, 0]), (0, [0, 0, 15, 0, 16, 0, 17, 0, 18]), (100, [12]), (100, [16]), (100, [8]), (3, [1, 0]), (2, [20, 0, 0, 21]), (103, [6]), (100, [6])]) d_ShakeHands_init_49 fl_ShakeHands_35 rfl rfl (by decide) (by decide) (Nat.le_of_ble_eq_true rfl) (fun C T N h => by cases h; rfl) rfl ?_
  refine c_aload_n (pc := 52) (q := 0) d_ShakeHands_init_52 rfl rfl ?_
  refine c_iconst (pc := 53) d_ShakeHands_init_53 k_i_2 ?_
  refine c_anewM (pc := 54) (N := 2) (sh8 := [(8, [4, 6, 14, 19, 2, 2, 2, 2, 2, 0, 0]), (6, [5, 0]), (101, [320]), (7, [7, 12, 0, 0, 4, 13, 0, 0, 0, 0, 0, 0, 0, 0, 0]), (0, [0, 0, 8, 0, 9, 0, 10, 0, 11]), (100, [12]), (100, [16]), (100, [8]), (3, [1, 0]), (103, [6]), (3, [1, 0]), (0, [0, 0, 15, 0, 16, 0, 17, 0, 18]), (100, [12]), (100, [16]), (100, [8]), (3, [1, 0]), (2, [20, 0, 0, 21]), (103, [6]), (100, [6]), (104, [0, 0])]) (a9 := 19) d_ShakeHands_init_54 (by decide) (by decide) cwl_ShakeHands_32 (Nat.le_of_ble_eq_true rfl) (Nat.le_of_ble_eq_true rfl) (Nat.le_of_ble_eq_true rfl) (Nat.le_of_ble_eq_true rfl) rfl rfl ?_
  refine c_putR (pc := 57) (sh8 := [(8, [4, 6, 14, 19, 22, 2, 2, 2, 2, 0, 0]), (6, [5, 0]), (101, [320]), (7, [7, 12, 0, 0, 4, 13, 0, 0, 0, 0, 0, 0, 0, 0, 0]), (0, [0, 0, 8, 0, 9, 0, 10, 0, 11]), (100, [12]), (100, [16]), (100, [8]), (3, [1, 0]), (103, [6]), (3, [1, 0]), (0, [0, 0, 15, 0, 16, 0, 17, 0, 18]), (100, [12]), (100, [16]), (100, [8]), (3, [1, 0]), (2, [20, 0, 0, 21]), (103, [6]), (100, [6]), (104, [0, 0])]) d_ShakeHands_init_57 fl_ShakeHands_39 rfl rfl (by decide) (by decide) (Nat.le_of_ble_eq_true rfl) (fun C T N h => by cases h; rfl) rfl ?_
  refine c_iconst (pc := 60) d_ShakeHands_init_60 k_i_0 ?_
  refine c_istore_n (pc := 61) d_ShakeHands_init_61 rfl (by decide) rfl ?_
  refine c_iload_n (pc := 62) (q := 0) d_ShakeHands_init_62 rfl rfl ?_
  refine c_iconst (pc := 63) d_ShakeHands_init_63 k_i_2 ?_
  refine c_ge_f (pc := 64) (tgt := 86) d_ShakeHands_init_64 (by decide) (by decide) ?_
  refine c_aload_n (pc := 67) (q := 1) d_ShakeHands_init_67 rfl rfl ?_
  refine c_getA (pc := 68) (b := 19) d_ShakeHands_init_68 fl_ShakeHands_39 rfl (by decide) rfl ?_
  refine c_iload_n (pc := 71) (q := 0) d_ShakeHands_init_71 rfl rfl ?_
  refine c_new (pc := 72) (ci := 2) (T := F_Minds) (N := 4) (ds := [2, 0, 0, 2]) (sh8 := [(8, [4, 6, 14, 19, 22, 2, 2, 2, 2, 0, 0]), (6, [5, 0]), (101, [320]), (7, [7, 12, 0, 0, 4, 13, 0, 0, 0, 0, 0, 0, 0, 0, 0]), (0, [0, 0, 8, 0, 9, 0, 10, 0, 11]), (100, [12]), (100, [16]), (100, [8]), (3, [1, 0]), (103, [6]), (3, [1, 0]), (0, [0, 0, 15, 0, 16, 0, 17, 0, 18]), (100, [12]), (100, [16]), (100, [8]), (3, [1, 0]), (2, [20, 0, 0, 21]), (103, [6]), (100, [6]), (104, [0, 0]), (2, [2, 0, 0, 2])]) (a9 := 20) d_ShakeHands_init_72 rfl (by decide) i_Minds t_Minds_ok cwl_ShakeHands_32 in_Minds ini_Minds (fun ad j hj => nu_Minds ad j hj) ⟨by funext y; simp [si, zM], by funext y; simp [si, zM]⟩ (Nat.le_of_ble_eq_true rfl) (Nat.le_of_ble_eq_true rfl) (Nat.le_of_ble_eq_true rfl) rfl rfl ?_
  refine c_dup (pc := 75) d_ShakeHands_init_75 rfl ?_
  refine c_initN (pc := 76) (as := []) (a := 20) d_ShakeHands_init_76 CC_9 cN_ShakeHands_34 cd_Minds_init rfl im_Minds_init ini_Minds dn_Minds_init rfl (by decide) (by decide) (Nat.le_of_ble_eq_true rfl) (Nat.le_of_ble_eq_true rfl) (Nat.le_of_ble_eq_true rfl) ?_
  refine c_aastM (pc := 79) (sh8 := [(8, [4, 6, 14, 19, 22, 2, 2, 2, 2, 0, 0]), (6, [5, 0]), (101, [320]), (7, [7, 12, 0, 0, 4, 13, 0, 0, 0, 0, 0, 0, 0, 0, 0]), (0, [0, 0, 8, 0, 9, 0, 10, 0, 11]), (100, [12]), (100, [16]), (100, [8]), (3, [1, 0]), (103, [6]), (3, [1, 0]), (0, [0, 0, 15, 0, 16, 0, 17, 0, 18]), (100, [12]), (100, [16]), (100, [8]), (3, [1, 0]), (2, [20, 0, 0, 21]), (103, [6]), (100, [6]), (104, [21, 0]), (2, [24, 0, 0, 25]), (103, [6]), (100, [6])]) d_ShakeHands_init_79 rfl rfl (by decide) rfl (vp_in_nI (n := 0) (by decide) (by decide)) (Nat.le_of_ble_eq_true rfl) rfl ?_
  refine c_iinc (pc := 80) (q := 0) (v := 1) d_ShakeHands_init_80 rfl (by decide) (by decide) rfl ?_
  refine c_goto (pc := 83) (tgt := 62) d_ShakeHands_init_83 (by decide) ?_
  refine c_iload_n (pc := 62) (q := 0) d_ShakeHands_init_62 rfl rfl ?_
  refine c_iconst (pc := 63) d_ShakeHands_init_63 k_i_2 ?_
  refine c_ge_f (pc := 64) (tgt := 86) d_ShakeHands_init_64 (by decide) (by decide) ?_
  refine c_aload_n (pc := 67) (q := 1) d_ShakeHands_init_67 rfl rfl ?_
  refine c_getA (pc := 68) (b := 19) d_ShakeHands_init_68 fl_ShakeHands_39 rfl (by decide) rfl ?_
  refine c_iload_n (pc := 71) (q := 0) d_ShakeHands_init_71 rfl rfl ?_
  refine c_new (pc := 72) (ci := 2) (T := F_Minds) (N := 4) (ds := [2, 0, 0, 2]) (sh8 := [(8, [4, 6, 14, 19, 22, 2, 2, 2, 2, 0, 0]), (6, [5, 0]), (101, [320]), (7, [7, 12, 0, 0, 4, 13, 0, 0, 0, 0, 0, 0, 0, 0, 0]), (0, [0, 0, 8, 0, 9, 0, 10, 0, 11]), (100, [12]), (100, [16]), (100, [8]), (3, [1, 0]), (103, [6]), (3, [1, 0]), (0, [0, 0, 15, 0, 16, 0, 17, 0, 18]), (100, [12]), (100, [16]), (100, [8]), (3, [1, 0]), (2, [20, 0, 0, 21]), (103, [6]), (100, [6]), (104, [21, 0]), (2, [24, 0, 0, 25]), (103, [6]), (100, [6]), (2, [2, 0, 0, 2])]) (a9 := 23) d_ShakeHands_init_72 rfl (by decide) i_Minds t_Minds_ok cwl_ShakeHands_32 in_Minds ini_Minds (fun ad j hj => nu_Minds ad j hj) ⟨by funext y; simp [si, zM], by funext y; simp [si, zM]⟩ (Nat.le_of_ble_eq_true rfl) (Nat.le_of_ble_eq_true rfl) (Nat.le_of_ble_eq_true rfl) rfl rfl ?_
  refine c_dup (pc := 75) d_ShakeHands_init_75 rfl ?_
  refine c_initN (pc := 76) (as := []) (a := 23) d_ShakeHands_init_76 CC_10 cN_ShakeHands_34 cd_Minds_init rfl im_Minds_init ini_Minds dn_Minds_init rfl (by decide) (by decide) (Nat.le_of_ble_eq_true rfl) (Nat.le_of_ble_eq_true rfl) (Nat.le_of_ble_eq_true rfl) ?_
  refine c_aastM (pc := 79) (sh8 := [(8, [4, 6, 14, 19, 22, 2, 2, 2, 2, 0, 0]), (6, [5, 0]), (101, [320]), (7, [7, 12, 0, 0, 4, 13, 0, 0, 0, 0, 0, 0, 0, 0, 0]), (0, [0, 0, 8, 0, 9, 0, 10, 0, 11]), (100, [12]), (100, [16]), (100, [8]), (3, [1, 0]), (103, [6]), (3, [1, 0]), (0, [0, 0, 15, 0, 16, 0, 17, 0, 18]), (100, [12]), (100, [16]), (100, [8]), (3, [1, 0]), (2, [20, 0, 0, 21]), (103, [6]), (100, [6]), (104, [21, 24]), (2, [24, 0, 0, 25]), (103, [6]), (100, [6]), (2, [27, 0, 0, 28]), (103, [6]), (100, [6])]) d_ShakeHands_init_79 rfl rfl (by decide) rfl (vp_in_nI (n := 1) (by decide) (by decide)) (Nat.le_of_ble_eq_true rfl) rfl ?_
  refine c_iinc (pc := 80) (q := 0) (v := 2) d_ShakeHands_init_80 rfl (by decide) (by decide) rfl ?_
  refine c_goto (pc := 83) (tgt := 62) d_ShakeHands_init_83 (by decide) ?_
  refine c_iload_n (pc := 62) (q := 0) d_ShakeHands_init_62 rfl rfl ?_
  refine c_iconst (pc := 63) d_ShakeHands_init_63 k_i_2 ?_
  refine c_ge_t (pc := 64) (tgt := 86) d_ShakeHands_init_64 (by decide) (by decide) ?_
  refine c_aload_n (pc := 86) (q := 1) d_ShakeHands_init_86 rfl rfl ?_
  refine c_new (pc := 87) (ci := 4) (T := F_Search) (N := 13) (ds := [2, 2, 0, 0, 0, 2, 2, 2, 0, 0, 0, 0, 0]) (sh8 := [(8, [4, 6, 14, 19, 22, 2, 2, 2, 2, 0, 0]), (6, [5, 0]), (101, [320]), (7, [7, 12, 0, 0, 4, 13, 0, 0, 0, 0, 0, 0, 0, 0, 0]), (0, [0, 0, 8, 0, 9, 0, 10, 0, 11]), (100, [12]), (100, [16]), (100, [8]), (3, [1, 0]), (103, [6]), (3, [1, 0]), (0, [0, 0, 15, 0, 16, 0, 17, 0, 18]), (100, [12]), (100, [16]), (100, [8]), (3, [1, 0]), (2, [20, 0, 0, 21]), (103, [6]), (100, [6]), (104, [21, 24]), (2, [24, 0, 0, 25]), (103, [6]), (100, [6]), (2, [27, 0, 0, 28]), (103, [6]), (100, [6]), (4, [2, 2, 0, 0, 0, 2, 2, 2, 0, 0, 0, 0, 0])]) (a9 := 26) d_ShakeHands_init_87 rfl (by decide) i_Search t_Search_ok cwl_ShakeHands_43 in_Search ini_Search (fun ad j hj => nu_Search ad j hj) ⟨by funext y; simp [si, zM], by funext y; simp [si, zM]⟩ (Nat.le_of_ble_eq_true rfl) (Nat.le_of_ble_eq_true rfl) (Nat.le_of_ble_eq_true rfl) rfl rfl ?_
  refine c_dup (pc := 90) d_ShakeHands_init_90 rfl ?_
  refine c_aload_n (pc := 91) (q := 1) d_ShakeHands_init_91 rfl rfl ?_
  refine c_getA (pc := 92) (b := 11) d_ShakeHands_init_92 fl_ShakeHands_28 rfl (by decide) rfl ?_
  refine c_aload_n (pc := 95) (q := 1) d_ShakeHands_init_95 rfl rfl ?_
  refine c_getA (pc := 96) (b := 16) d_ShakeHands_init_96 fl_ShakeHands_35 rfl (by decide) rfl ?_
  refine c_init (pc := 99) (as := [Value.ref 11, Value.ref 16]) (a := 26) d_ShakeHands_init_99 CC_11 cI_ShakeHands_45 cd_Search_init rfl im_Search_init ini_Search dn_Search_init rfl (by decide) (by decide) (Nat.le_of_ble_eq_true rfl) (Nat.le_of_ble_eq_true rfl) (Nat.le_of_ble_eq_true rfl) ?_
  refine c_putR (pc := 102) (sh8 := [(8, [4, 6, 14, 19, 22, 29, 2, 2, 2, 0, 0]), (6, [5, 0]), (101, [320]), (7, [7, 12, 0, 0, 4, 13, 0, 0, 0, 0, 0, 0, 0, 0, 0]), (0, [0, 0, 8, 0, 9, 0, 10, 0, 11]), (100, [12]), (100, [16]), (100, [8]), (3, [1, 0]), (103, [6]), (3, [1, 0]), (0, [0, 0, 15, 0, 16, 0, 17, 0, 18]), (100, [12]), (100, [16]), (100, [8]), (3, [1, 0]), (2, [20, 0, 0, 21]), (103, [6]), (100, [6]), (104, [21, 24]), (2, [24, 0, 0, 25]), (103, [6]), (100, [6]), (2, [27, 0, 0, 28]), (103, [6]), (100, [6]), (4, [30, 31, 0, 0, 0, 32, 14, 19, 0, 0, 0, 0, 0]), (100, [6]), (100, [6]), (106, [31, 32, 33, 34, 35, 36, 37]), (103, [6]), (103, [6]), (103, [6]), (103, [6]), (103, [6]), (103, [6]), (103, [6])]) d_ShakeHands_init_102 fl_ShakeHands_48 rfl rfl (by decide) (by decide) (Nat.le_of_ble_eq_true rfl) (fun C T N h => by cases h; rfl) rfl ?_
  refine c_aload_n (pc := 105) (q := 1) d_ShakeHands_init_105 rfl rfl ?_
  refine c_new (pc := 106) (ci := 1) (T := F_Habit) (N := 4) (ds := [2, 2, 2, 2]) (sh8 := [(8, [4, 6, 14, 19, 22, 29, 2, 2, 2, 0, 0]), (6, [5, 0]), (101, [320]), (7, [7, 12, 0, 0, 4, 13, 0, 0, 0, 0, 0, 0, 0, 0, 0]), (0, [0, 0, 8, 0, 9, 0, 10, 0, 11]), (100, [12]), (100, [16]), (100, [8]), (3, [1, 0]), (103, [6]), (3, [1, 0]), (0, [0, 0, 15, 0, 16, 0, 17, 0, 18]), (100, [12]), (100, [16]), (100, [8]), (3, [1, 0]), (2, [20, 0, 0, 21]), (103, [6]), (100, [6]), (104, [21, 24]), (2, [24, 0, 0, 25]), (103, [6]), (100, [6]), (2, [27, 0, 0, 28]), (103, [6]), (100, [6]), (4, [30, 31, 0, 0, 0, 32, 14, 19, 0, 0, 0, 0, 0]), (100, [6]), (100, [6]), (106, [31, 32, 33, 34, 35, 36, 37]), (103, [6]), (103, [6]), (103, [6]), (103, [6]), (103, [6]), (103, [6]), (103, [6]), (1, [2, 2, 2, 2])]) (a9 := 37) d_ShakeHands_init_106 rfl (by decide) i_Habit t_Habit_ok cwl_ShakeHands_52 in_Habit ini_Habit (fun ad j hj => nu_Habit ad j hj) ⟨by funext y; simp [si, zM], by funext y; simp [si, zM]⟩ (Nat.le_of_ble_eq_true rfl) (Nat.le_of_ble_eq_true rfl) (Nat.le_of_ble_eq_true rfl) rfl rfl ?_
  refine c_dup (pc := 109) d_ShakeHands_init_109 rfl ?_
  refine c_aload_n (pc := 110) (q := 1) d_ShakeHands_init_110 rfl rfl ?_
  refine c_getA (pc := 111) (b := 11) d_ShakeHands_init_111 fl_ShakeHands_28 rfl (by decide) rfl ?_
  refine c_aload_n (pc := 114) (q := 1) d_ShakeHands_init_114 rfl rfl ?_
  refine c_getA (pc := 115) (b := 16) d_ShakeHands_init_115 fl_ShakeHands_35 rfl (by decide) rfl ?_
  refine c_init (pc := 118) (as := [Value.ref 11, Value.ref 16]) (a := 37) d_ShakeHands_init_118 CC_12 cI_ShakeHands_54 cd_Habit_init rfl im_Habit_init ini_Habit dn_Habit_init rfl (by decide) (by decide) (Nat.le_of_ble_eq_true rfl) (Nat.le_of_ble_eq_true rfl) (Nat.le_of_ble_eq_true rfl) ?_
  refine c_putR (pc := 121) (sh8 := [(8, [4, 6, 14, 19, 22, 29, 40, 2, 2, 0, 0]), (6, [5, 0]), (101, [320]), (7, [7, 12, 0, 0, 4, 13, 0, 0, 0, 0, 0, 0, 0, 0, 0]), (0, [0, 0, 8, 0, 9, 0, 10, 0, 11]), (100, [12]), (100, [16]), (100, [8]), (3, [1, 0]), (103, [6]), (3, [1, 0]), (0, [0, 0, 15, 0, 16, 0, 17, 0, 18]), (100, [12]), (100, [16]), (100, [8]), (3, [1, 0]), (2, [20, 0, 0, 21]), (103, [6]), (100, [6]), (104, [21, 24]), (2, [24, 0, 0, 25]), (103, [6]), (100, [6]), (2, [27, 0, 0, 28]), (103, [6]), (100, [6]), (4, [30, 31, 0, 0, 0, 32, 14, 19, 0, 0, 0, 0, 0]), (100, [6]), (100, [6]), (106, [31, 32, 33, 34, 35, 36, 37]), (103, [6]), (103, [6]), (103, [6]), (103, [6]), (103, [6]), (103, [6]), (103, [6]), (1, [41, 42, 14, 19]), (103, [1206]), (103, [6])]) d_ShakeHands_init_121 fl_ShakeHands_55 rfl rfl (by decide) (by decide) (Nat.le_of_ble_eq_true rfl) (fun C T N h => by cases h; rfl) rfl ?_
  refine c_aload_n (pc := 124) (q := 1) d_ShakeHands_init_124 rfl rfl ?_
  refine c_iconst (pc := 125) d_ShakeHands_init_125 k_i_4 ?_
  refine c_anewS (pc := 126) (N := 4) (sh8 := [(8, [4, 6, 14, 19, 22, 29, 40, 2, 2, 0, 0]), (6, [5, 0]), (101, [320]), (7, [7, 12, 0, 0, 4, 13, 0, 0, 0, 0, 0, 0, 0, 0, 0]), (0, [0, 0, 8, 0, 9, 0, 10, 0, 11]), (100, [12]), (100, [16]), (100, [8]), (3, [1, 0]), (103, [6]), (3, [1, 0]), (0, [0, 0, 15, 0, 16, 0, 17, 0, 18]), (100, [12]), (100, [16]), (100, [8]), (3, [1, 0]), (2, [20, 0, 0, 21]), (103, [6]), (100, [6]), (104, [21, 24]), (2, [24, 0, 0, 25]), (103, [6]), (100, [6]), (2, [27, 0, 0, 28]), (103, [6]), (100, [6]), (4, [30, 31, 0, 0, 0, 32, 14, 19, 0, 0, 0, 0, 0]), (100, [6]), (100, [6]), (106, [31, 32, 33, 34, 35, 36, 37]), (103, [6]), (103, [6]), (103, [6]), (103, [6]), (103, [6]), (103, [6]), (103, [6]), (1, [41, 42, 14, 19]), (103, [1206]), (103, [6]), (105, [0, 0, 0, 0])]) (a9 := 40) d_ShakeHands_init_126 (by decide) (by decide) cwl_ShakeHands_59 (Nat.le_of_ble_eq_true rfl) (Nat.le_of_ble_eq_true rfl) (Nat.le_of_ble_eq_true rfl) (Nat.le_of_ble_eq_true rfl) rfl rfl ?_
  refine c_putR (pc := 129) (sh8 := [(8, [4, 6, 14, 19, 22, 29, 40, 43, 2, 0, 0]), (6, [5, 0]), (101, [320]), (7, [7, 12, 0, 0, 4, 13, 0, 0, 0, 0, 0, 0, 0, 0, 0]), (0, [0, 0, 8, 0, 9, 0, 10, 0, 11]), (100, [12]), (100, [16]), (100, [8]), (3, [1, 0]), (103, [6]), (3, [1, 0]), (0, [0, 0, 15, 0, 16, 0, 17, 0, 18]), (100, [12]), (100, [16]), (100, [8]), (3, [1, 0]), (2, [20, 0, 0, 21]), (103, [6]), (100, [6]), (104, [21, 24]), (2, [24, 0, 0, 25]), (103, [6]), (100, [6]), (2, [27, 0, 0, 28]), (103, [6]), (100, [6]), (4, [30, 31, 0, 0, 0, 32, 14, 19, 0, 0, 0, 0, 0]), (100, [6]), (100, [6]), (106, [31, 32, 33, 34, 35, 36, 37]), (103, [6]), (103, [6]), (103, [6]), (103, [6]), (103, [6]), (103, [6]), (103, [6]), (1, [41, 42, 14, 19]), (103, [1206]), (103, [6]), (105, [0, 0, 0, 0])]) d_ShakeHands_init_129 fl_ShakeHands_61 rfl rfl (by decide) (by decide) (Nat.le_of_ble_eq_true rfl) (fun C T N h => by cases h; rfl) rfl ?_
  refine c_iconst (pc := 132) d_ShakeHands_init_132 k_i_0 ?_
  refine c_istore_n (pc := 133) d_ShakeHands_init_133 rfl (by decide) rfl ?_
  refine c_iload_n (pc := 134) (q := 0) d_ShakeHands_init_134 rfl rfl ?_
  refine c_iconst (pc := 135) d_ShakeHands_init_135 k_i_4 ?_
  refine c_ge_f (pc := 136) (tgt := 158) d_ShakeHands_init_136 (by decide) (by decide) ?_
  refine c_aload_n (pc := 139) (q := 1) d_ShakeHands_init_139 rfl rfl ?_
  refine c_getA (pc := 140) (b := 40) d_ShakeHands_init_140 fl_ShakeHands_61 rfl (by decide) rfl ?_
  refine c_iload_n (pc := 143) (q := 0) d_ShakeHands_init_143 rfl rfl ?_
  refine c_new (pc := 144) (ci := 5) (T := F_Sheet) (N := 4) (ds := [0, 0, 0, 2]) (sh8 := [(8, [4, 6, 14, 19, 22, 29, 40, 43, 2, 0, 0]), (6, [5, 0]), (101, [320]), (7, [7, 12, 0, 0, 4, 13, 0, 0, 0, 0, 0, 0, 0, 0, 0]), (0, [0, 0, 8, 0, 9, 0, 10, 0, 11]), (100, [12]), (100, [16]), (100, [8]), (3, [1, 0]), (103, [6]), (3, [1, 0]), (0, [0, 0, 15, 0, 16, 0, 17, 0, 18]), (100, [12]), (100, [16]), (100, [8]), (3, [1, 0]), (2, [20, 0, 0, 21]), (103, [6]), (100, [6]), (104, [21, 24]), (2, [24, 0, 0, 25]), (103, [6]), (100, [6]), (2, [27, 0, 0, 28]), (103, [6]), (100, [6]), (4, [30, 31, 0, 0, 0, 32, 14, 19, 0, 0, 0, 0, 0]), (100, [6]), (100, [6]), (106, [31, 32, 33, 34, 35, 36, 37]), (103, [6]), (103, [6]), (103, [6]), (103, [6]), (103, [6]), (103, [6]), (103, [6]), (1, [41, 42, 14, 19]), (103, [1206]), (103, [6]), (105, [0, 0, 0, 0]), (5, [0, 0, 0, 2])]) (a9 := 41) d_ShakeHands_init_144 rfl (by decide) i_Sheet t_Sheet_ok cwl_ShakeHands_59 in_Sheet ini_Sheet (fun ad j hj => nu_Sheet ad j hj) ⟨by funext y; simp [si, zM], by funext y; simp [si, zM]⟩ (Nat.le_of_ble_eq_true rfl) (Nat.le_of_ble_eq_true rfl) (Nat.le_of_ble_eq_true rfl) rfl rfl ?_
  refine c_dup (pc := 147) d_ShakeHands_init_147 rfl ?_
  refine c_initN (pc := 148) (as := []) (a := 41) d_ShakeHands_init_148 CC_13 cN_ShakeHands_65 cd_Sheet_init rfl im_Sheet_init ini_Sheet dn_Sheet_init rfl (by decide) (by decide) (Nat.le_of_ble_eq_true rfl) (Nat.le_of_ble_eq_true rfl) (Nat.le_of_ble_eq_true rfl) ?_
  refine c_aastS (pc := 151) (sh8 := [(8, [4, 6, 14, 19, 22, 29, 40, 43, 2, 0, 0]), (6, [5, 0]), (101, [320]), (7, [7, 12, 0, 0, 4, 13, 0, 0, 0, 0, 0, 0, 0, 0, 0]), (0, [0, 0, 8, 0, 9, 0, 10, 0, 11]), (100, [12]), (100, [16]), (100, [8]), (3, [1, 0]), (103, [6]), (3, [1, 0]), (0, [0, 0, 15, 0, 16, 0, 17, 0, 18]), (100, [12]), (100, [16]), (100, [8]), (3, [1, 0]), (2, [20, 0, 0, 21]), (103, [6]), (100, [6]), (104, [21, 24]), (2, [24, 0, 0, 25]), (103, [6]), (100, [6]), (2, [27, 0, 0, 28]), (103, [6]), (100, [6]), (4, [30, 31, 0, 0, 0, 32, 14, 19, 0, 0, 0, 0, 0]), (100, [6]), (100, [6]), (106, [31, 32, 33, 34, 35, 36, 37]), (103, [6]), (103, [6]), (103, [6]), (103, [6]), (103, [6]), (103, [6]), (103, [6]), (1, [41, 42, 14, 19]), (103, [1206]), (103, [6]), (105, [42, 0, 0, 0]), (5, [0, 0, 0, 45]), (100, [40])]) d_ShakeHands_init_151 rfl rfl (by decide) rfl (vp_in_nI (n := 0) (by decide) (by decide)) (Nat.le_of_ble_eq_true rfl) rfl ?_
  refine c_iinc (pc := 152) (q := 0) (v := 1) d_ShakeHands_init_152 rfl (by decide) (by decide) rfl ?_
  refine c_goto (pc := 155) (tgt := 134) d_ShakeHands_init_155 (by decide) ?_
  refine c_iload_n (pc := 134) (q := 0) d_ShakeHands_init_134 rfl rfl ?_
  refine c_iconst (pc := 135) d_ShakeHands_init_135 k_i_4 ?_
  refine c_ge_f (pc := 136) (tgt := 158) d_ShakeHands_init_136 (by decide) (by decide) ?_
  refine c_aload_n (pc := 139) (q := 1) d_ShakeHands_init_139 rfl rfl ?_
  refine c_getA (pc := 140) (b := 40) d_ShakeHands_init_140 fl_ShakeHands_61 rfl (by decide) rfl ?_
  refine c_iload_n (pc := 143) (q := 0) d_ShakeHands_init_143 rfl rfl ?_
  refine c_new (pc := 144) (ci := 5) (T := F_Sheet) (N := 4) (ds := [0, 0, 0, 2]) (sh8 := [(8, [4, 6, 14, 19, 22, 29, 40, 43, 2, 0, 0]), (6, [5, 0]), (101, [320]), (7, [7, 12, 0, 0, 4, 13, 0, 0, 0, 0, 0, 0, 0, 0, 0]), (0, [0, 0, 8, 0, 9, 0, 10, 0, 11]), (100, [12]), (100, [16]), (100, [8]), (3, [1, 0]), (103, [6]), (3, [1, 0]), (0, [0, 0, 15, 0, 16, 0, 17, 0, 18]), (100, [12]), (100, [16]), (100, [8]), (3, [1, 0]), (2, [20, 0, 0, 21]), (103, [6]), (100, [6]), (104, [21, 24]), (2, [24, 0, 0, 25]), (103, [6]), (100, [6]), (2, [27, 0, 0, 28]), (103, [6]), (100, [6]), (4, [30, 31, 0, 0, 0, 32, 14, 19, 0, 0, 0, 0, 0]), (100, [6]), (100, [6]), (106, [31, 32, 33, 34, 35, 36, 37]), (103, [6]), (103, [6]), (103, [6]), (103, [6]), (103, [6]), (103, [6]), (103, [6]), (1, [41, 42, 14, 19]), (103, [1206]), (103, [6]), (105, [42, 0, 0, 0]), (5, [0, 0, 0, 45]), (100, [40]), (5, [0, 0, 0, 2])]) (a9 := 43) d_ShakeHands_init_144 rfl (by decide) i_Sheet t_Sheet_ok cwl_ShakeHands_59 in_Sheet ini_Sheet (fun ad j hj => nu_Sheet ad j hj) ⟨by funext y; simp [si, zM], by funext y; simp [si, zM]⟩ (Nat.le_of_ble_eq_true rfl) (Nat.le_of_ble_eq_true rfl) (Nat.le_of_ble_eq_true rfl) rfl rfl ?_
  refine c_dup (pc := 147) d_ShakeHands_init_147 rfl ?_
  refine c_initN (pc := 148) (as := []) (a := 43) d_ShakeHands_init_148 CC_14 cN_ShakeHands_65 cd_Sheet_init rfl im_Sheet_init ini_Sheet dn_Sheet_init rfl (by decide) (by decide) (Nat.le_of_ble_eq_true rfl) (Nat.le_of_ble_eq_true rfl) (Nat.le_of_ble_eq_true rfl) ?_
  refine c_aastS (pc := 151) (sh8 := [(8, [4, 6, 14, 19, 22, 29, 40, 43, 2, 0, 0]), (6, [5, 0]), (101, [320]), (7, [7, 12, 0, 0, 4, 13, 0, 0, 0, 0, 0, 0, 0, 0, 0]), (0, [0, 0, 8, 0, 9, 0, 10, 0, 11]), (100, [12]), (100, [16]), (100, [8]), (3, [1, 0]), (103, [6]), (3, [1, 0]), (0, [0, 0, 15, 0, 16, 0, 17, 0, 18]), (100, [12]), (100, [16]), (100, [8]), (3, [1, 0]), (2, [20, 0, 0, 21]), (103, [6]), (100, [6]), (104, [21, 24]), (2, [24, 0, 0, 25]), (103, [6]), (100, [6]), (2, [27, 0, 0, 28]), (103, [6]), (100, [6]), (4, [30, 31, 0, 0, 0, 32, 14, 19, 0, 0, 0, 0, 0]), (100, [6]), (100, [6]), (106, [31, 32, 33, 34, 35, 36, 37]), (103, [6]), (103, [6]), (103, [6]), (103, [6]), (103, [6]), (103, [6]), (103, [6]), (1, [41, 42, 14, 19]), (103, [1206]), (103, [6]), (105, [42, 44, 0, 0]), (5, [0, 0, 0, 45]), (100, [40]), (5, [0, 0, 0, 47]), (100, [40])]) d_ShakeHands_init_151 rfl rfl (by decide) rfl (vp_in_nI (n := 1) (by decide) (by decide)) (Nat.le_of_ble_eq_true rfl) rfl ?_
  refine c_iinc (pc := 152) (q := 0) (v := 2) d_ShakeHands_init_152 rfl (by decide) (by decide) rfl ?_
  refine c_goto (pc := 155) (tgt := 134) d_ShakeHands_init_155 (by decide) ?_
  refine c_iload_n (pc := 134) (q := 0) d_ShakeHands_init_134 rfl rfl ?_
  refine c_iconst (pc := 135) d_ShakeHands_init_135 k_i_4 ?_
  refine c_ge_f (pc := 136) (tgt := 158) d_ShakeHands_init_136 (by decide) (by decide) ?_
  refine c_aload_n (pc := 139) (q := 1) d_ShakeHands_init_139 rfl rfl ?_
  refine c_getA (pc := 140) (b := 40) d_ShakeHands_init_140 fl_ShakeHands_61 rfl (by decide) rfl ?_
  refine c_iload_n (pc := 143) (q := 0) d_ShakeHands_init_143 rfl rfl ?_
  refine c_new (pc := 144) (ci := 5) (T := F_Sheet) (N := 4) (ds := [0, 0, 0, 2]) (sh8 := [(8, [4, 6, 14, 19, 22, 29, 40, 43, 2, 0, 0]), (6, [5, 0]), (101, [320]), (7, [7, 12, 0, 0, 4, 13, 0, 0, 0, 0, 0, 0, 0, 0, 0]), (0, [0, 0, 8, 0, 9, 0, 10, 0, 11]), (100, [12]), (100, [16]), (100, [8]), (3, [1, 0]), (103, [6]), (3, [1, 0]), (0, [0, 0, 15, 0, 16, 0, 17, 0, 18]), (100, [12]), (100, [16]), (100, [8]), (3, [1, 0]), (2, [20, 0, 0, 21]), (103, [6]), (100, [6]), (104, [21, 24]), (2, [24, 0, 0, 25]), (103, [6]), (100, [6]), (2, [27, 0, 0, 28]), (103, [6]), (100, [6]), (4, [30, 31, 0, 0, 0, 32, 14, 19, 0, 0, 0, 0, 0]), (100, [6]), (100, [6]), (106, [31, 32, 33, 34, 35, 36, 37]), (103, [6]), (103, [6]), (103, [6]), (103, [6]), (103, [6]), (103, [6]), (103, [6]), (1, [41, 42, 14, 19]), (103, [1206]), (103, [6]), (105, [42, 44, 0, 0]), (5, [0, 0, 0, 45]), (100, [40]), (5, [0, 0, 0, 47]), (100, [40]), (5, [0, 0, 0, 2])]) (a9 := 45) d_ShakeHands_init_144 rfl (by decide) i_Sheet t_Sheet_ok cwl_ShakeHands_59 in_Sheet ini_Sheet (fun ad j hj => nu_Sheet ad j hj) ⟨by funext y; simp [si, zM], by funext y; simp [si, zM]⟩ (Nat.le_of_ble_eq_true rfl) (Nat.le_of_ble_eq_true rfl) (Nat.le_of_ble_eq_true rfl) rfl rfl ?_
  refine c_dup (pc := 147) d_ShakeHands_init_147 rfl ?_
  refine c_initN (pc := 148) (as := []) (a := 45) d_ShakeHands_init_148 CC_15 cN_ShakeHands_65 cd_Sheet_init rfl im_Sheet_init ini_Sheet dn_Sheet_init rfl (by decide) (by decide) (Nat.le_of_ble_eq_true rfl) (Nat.le_of_ble_eq_true rfl) (Nat.le_of_ble_eq_true rfl) ?_
  refine c_aastS (pc := 151) (sh8 := [(8, [4, 6, 14, 19, 22, 29, 40, 43, 2, 0, 0]), (6, [5, 0]), (101, [320]), (7, [7, 12, 0, 0, 4, 13, 0, 0, 0, 0, 0, 0, 0, 0, 0]), (0, [0, 0, 8, 0, 9, 0, 10, 0, 11]), (100, [12]), (100, [16]), (100, [8]), (3, [1, 0]), (103, [6]), (3, [1, 0]), (0, [0, 0, 15, 0, 16, 0, 17, 0, 18]), (100, [12]), (100, [16]), (100, [8]), (3, [1, 0]), (2, [20, 0, 0, 21]), (103, [6]), (100, [6]), (104, [21, 24]), (2, [24, 0, 0, 25]), (103, [6]), (100, [6]), (2, [27, 0, 0, 28]), (103, [6]), (100, [6]), (4, [30, 31, 0, 0, 0, 32, 14, 19, 0, 0, 0, 0, 0]), (100, [6]), (100, [6]), (106, [31, 32, 33, 34, 35, 36, 37]), (103, [6]), (103, [6]), (103, [6]), (103, [6]), (103, [6]), (103, [6]), (103, [6]), (1, [41, 42, 14, 19]), (103, [1206]), (103, [6]), (105, [42, 44, 46, 0]), (5, [0, 0, 0, 45]), (100, [40]), (5, [0, 0, 0, 47]), (100, [40]), (5, [0, 0, 0, 49]), (100, [40])]) d_ShakeHands_init_151 rfl rfl (by decide) rfl (vp_in_nI (n := 2) (by decide) (by decide)) (Nat.le_of_ble_eq_true rfl) rfl ?_
  refine c_iinc (pc := 152) (q := 0) (v := 3) d_ShakeHands_init_152 rfl (by decide) (by decide) rfl ?_
  refine c_goto (pc := 155) (tgt := 134) d_ShakeHands_init_155 (by decide) ?_
  refine c_iload_n (pc := 134) (q := 0) d_ShakeHands_init_134 rfl rfl ?_
  refine c_iconst (pc := 135) d_ShakeHands_init_135 k_i_4 ?_
  refine c_ge_f (pc := 136) (tgt := 158) d_ShakeHands_init_136 (by decide) (by decide) ?_
  refine c_aload_n (pc := 139) (q := 1) d_ShakeHands_init_139 rfl rfl ?_
  refine c_getA (pc := 140) (b := 40) d_ShakeHands_init_140 fl_ShakeHands_61 rfl (by decide) rfl ?_
  refine c_iload_n (pc := 143) (q := 0) d_ShakeHands_init_143 rfl rfl ?_
  refine c_new (pc := 144) (ci := 5) (T := F_Sheet) (N := 4) (ds := [0, 0, 0, 2]) (sh8 := [(8, [4, 6, 14, 19, 22, 29, 40, 43, 2, 0, 0]), (6, [5, 0]), (101, [320]), (7, [7, 12, 0, 0, 4, 13, 0, 0, 0, 0, 0, 0, 0, 0, 0]), (0, [0, 0, 8, 0, 9, 0, 10, 0, 11]), (100, [12]), (100, [16]), (100, [8]), (3, [1, 0]), (103, [6]), (3, [1, 0]), (0, [0, 0, 15, 0, 16, 0, 17, 0, 18]), (100, [12]), (100, [16]), (100, [8]), (3, [1, 0]), (2, [20, 0, 0, 21]), (103, [6]), (100, [6]), (104, [21, 24]), (2, [24, 0, 0, 25]), (103, [6]), (100, [6]), (2, [27, 0, 0, 28]), (103, [6]), (100, [6]), (4, [30, 31, 0, 0, 0, 32, 14, 19, 0, 0, 0, 0, 0]), (100, [6]), (100, [6]), (106, [31, 32, 33, 34, 35, 36, 37]), (103, [6]), (103, [6]), (103, [6]), (103, [6]), (103, [6]), (103, [6]), (103, [6]), (1, [41, 42, 14, 19]), (103, [1206]), (103, [6]), (105, [42, 44, 46, 0]), (5, [0, 0, 0, 45]), (100, [40]), (5, [0, 0, 0, 47]), (100, [40]), (5, [0, 0, 0, 49]), (100, [40]), (5, [0, 0, 0, 2])]) (a9 := 47) d_ShakeHands_init_144 rfl (by decide) i_Sheet t_Sheet_ok cwl_ShakeHands_59 in_Sheet ini_Sheet (fun ad j hj => nu_Sheet ad j hj) ⟨by funext y; simp [si, zM], by funext y; simp [si, zM]⟩ (Nat.le_of_ble_eq_true rfl) (Nat.le_of_ble_eq_true rfl) (Nat.le_of_ble_eq_true rfl) rfl rfl ?_
  refine c_dup (pc := 147) d_ShakeHands_init_147 rfl ?_
  refine c_initN (pc := 148) (as := []) (a := 47) d_ShakeHands_init_148 CC_16 cN_ShakeHands_65 cd_Sheet_init rfl im_Sheet_init ini_Sheet dn_Sheet_init rfl (by decide) (by decide) (Nat.le_of_ble_eq_true rfl) (Nat.le_of_ble_eq_true rfl) (Nat.le_of_ble_eq_true rfl) ?_
  refine c_aastS (pc := 151) (sh8 := [(8, [4, 6, 14, 19, 22, 29, 40, 43, 2, 0, 0]), (6, [5, 0]), (101, [320]), (7, [7, 12, 0, 0, 4, 13, 0, 0, 0, 0, 0, 0, 0, 0, 0]), (0, [0, 0, 8, 0, 9, 0, 10, 0, 11]), (100, [12]), (100, [16]), (100, [8]), (3, [1, 0]), (103, [6]), (3, [1, 0]), (0, [0, 0, 15, 0, 16, 0, 17, 0, 18]), (100, [12]), (100, [16]), (100, [8]), (3, [1, 0]), (2, [20, 0, 0, 21]), (103, [6]), (100, [6]), (104, [21, 24]), (2, [24, 0, 0, 25]), (103, [6]), (100, [6]), (2, [27, 0, 0, 28]), (103, [6]), (100, [6]), (4, [30, 31, 0, 0, 0, 32, 14, 19, 0, 0, 0, 0, 0]), (100, [6]), (100, [6]), (106, [31, 32, 33, 34, 35, 36, 37]), (103, [6]), (103, [6]), (103, [6]), (103, [6]), (103, [6]), (103, [6]), (103, [6]), (1, [41, 42, 14, 19]), (103, [1206]), (103, [6]), (105, [42, 44, 46, 48]), (5, [0, 0, 0, 45]), (100, [40]), (5, [0, 0, 0, 47]), (100, [40]), (5, [0, 0, 0, 49]), (100, [40]), (5, [0, 0, 0, 51]), (100, [40])]) d_ShakeHands_init_151 rfl rfl (by decide) rfl (vp_in_nI (n := 3) (by decide) (by decide)) (Nat.le_of_ble_eq_true rfl) rfl ?_
  refine c_iinc (pc := 152) (q := 0) (v := 4) d_ShakeHands_init_152 rfl (by decide) (by decide) rfl ?_
  refine c_goto (pc := 155) (tgt := 134) d_ShakeHands_init_155 (by decide) ?_
  refine c_iload_n (pc := 134) (q := 0) d_ShakeHands_init_134 rfl rfl ?_
  refine c_iconst (pc := 135) d_ShakeHands_init_135 k_i_4 ?_
  refine c_ge_t (pc := 136) (tgt := 158) d_ShakeHands_init_136 (by decide) (by decide) ?_
  refine c_aload_n (pc := 158) (q := 1) d_ShakeHands_init_158 rfl rfl ?_
  refine c_bipush (pc := 159) d_ShakeHands_init_159 k_b_6 ?_
  refine c_newaL (pc := 161) (N := 6) (sh8 := [(8, [4, 6, 14, 19, 22, 29, 40, 43, 2, 0, 0]), (6, [5, 0]), (101, [320]), (7, [7, 12, 0, 0, 4, 13, 0, 0, 0, 0, 0, 0, 0, 0, 0]), (0, [0, 0, 8, 0, 9, 0, 10, 0, 11]), (100, [12]), (100, [16]), (100, [8]), (3, [1, 0]), (103, [6]), (3, [1, 0]), (0, [0, 0, 15, 0, 16, 0, 17, 0, 18]), (100, [12]), (100, [16]), (100, [8]), (3, [1, 0]), (2, [20, 0, 0, 21]), (103, [6]), (100, [6]), (104, [21, 24]), (2, [24, 0, 0, 25]), (103, [6]), (100, [6]), (2, [27, 0, 0, 28]), (103, [6]), (100, [6]), (4, [30, 31, 0, 0, 0, 32, 14, 19, 0, 0, 0, 0, 0]), (100, [6]), (100, [6]), (106, [31, 32, 33, 34, 35, 36, 37]), (103, [6]), (103, [6]), (103, [6]), (103, [6]), (103, [6]), (103, [6]), (103, [6]), (1, [41, 42, 14, 19]), (103, [1206]), (103, [6]), (105, [42, 44, 46, 48]), (5, [0, 0, 0, 45]), (100, [40]), (5, [0, 0, 0, 47]), (100, [40]), (5, [0, 0, 0, 49]), (100, [40]), (5, [0, 0, 0, 51]), (100, [40]), (103, [6])]) (a9 := 49) d_ShakeHands_init_161 (by decide) (by decide) ac_long (Nat.le_of_ble_eq_true rfl) ⟨by funext y; simp [si, zM], by funext y; simp [si, zM]⟩ (Nat.le_of_ble_eq_true rfl) (Nat.le_of_ble_eq_true rfl) (Nat.le_of_ble_eq_true rfl) rfl rfl ?_
  refine c_putR (pc := 163) (sh8 := [(8, [4, 6, 14, 19, 22, 29, 40, 43, 52, 0, 0]), (6, [5, 0]), (101, [320]), (7, [7, 12, 0, 0, 4, 13, 0, 0, 0, 0, 0, 0, 0, 0, 0]), (0, [0, 0, 8, 0, 9, 0, 10, 0, 11]), (100, [12]), (100, [16]), (100, [8]), (3, [1, 0]), (103, [6]), (3, [1, 0]), (0, [0, 0, 15, 0, 16, 0, 17, 0, 18]), (100, [12]), (100, [16]), (100, [8]), (3, [1, 0]), (2, [20, 0, 0, 21]), (103, [6]), (100, [6]), (104, [21, 24]), (2, [24, 0, 0, 25]), (103, [6]), (100, [6]), (2, [27, 0, 0, 28]), (103, [6]), (100, [6]), (4, [30, 31, 0, 0, 0, 32, 14, 19, 0, 0, 0, 0, 0]), (100, [6]), (100, [6]), (106, [31, 32, 33, 34, 35, 36, 37]), (103, [6]), (103, [6]), (103, [6]), (103, [6]), (103, [6]), (103, [6]), (103, [6]), (1, [41, 42, 14, 19]), (103, [1206]), (103, [6]), (105, [42, 44, 46, 48]), (5, [0, 0, 0, 45]), (100, [40]), (5, [0, 0, 0, 47]), (100, [40]), (5, [0, 0, 0, 49]), (100, [40]), (5, [0, 0, 0, 51]), (100, [40]), (103, [6])]) d_ShakeHands_init_163 fl_ShakeHands_66 rfl rfl (by decide) (by decide) (Nat.le_of_ble_eq_true rfl) (fun C T N h => by cases h; rfl) rfl ?_
  exact c_return (pc := 166) d_ShakeHands_init_166 (Nat.le_of_ble_eq_true rfl) (Nat.le_of_ble_eq_true rfl) rfl rfl
end
section
/-! THE REFERENCE IS MADE (written by wip/gen/ctorgen.py) -/
theorem k_b_18 : (Int8.ofInt 18).toInt32 = 18 := by decide
theorem k_b_80 : (Int8.ofInt 80).toInt32 = 80 := by decide
theorem k_s_160 : (Int16.ofInt 160).toInt32 = 160 := by decide
theorem k_s_234 : (Int16.ofInt 234).toInt32 = 234 := by decide
theorem k_s_600 : (Int16.ofInt 600).toInt32 = 600 := by decide
def mtC_Model : Mc := ("ShakeHandsModel", b_Model_init, 3, 60)
theorem d_Model_init_0 : decode b_Model_init 0 = .ok (.aload_n 0, 1) := by decide +kernel
theorem d_Model_init_1 : decode b_Model_init 1 = .ok (.invokespecial 1, 3) := by decide +kernel
theorem d_Model_init_4 : decode b_Model_init 4 = .ok (.aload_n 0, 1) := by decide +kernel
theorem d_Model_init_5 : decode b_Model_init 5 = .ok (.sipush 234, 3) := by decide +kernel
theorem d_Model_init_8 : decode b_Model_init 8 = .ok (.newarray .int, 2) := by decide +kernel
theorem d_Model_init_10 : decode b_Model_init 10 = .ok (.putfield 7, 3) := by decide +kernel
theorem d_Model_init_13 : decode b_Model_init 13 = .ok (.aload_n 0, 1) := by decide +kernel
theorem d_Model_init_14 : decode b_Model_init 14 = .ok (.iconst 2, 1) := by decide +kernel
theorem d_Model_init_15 : decode b_Model_init 15 = .ok (.newarray .boolean, 2) := by decide +kernel
theorem d_Model_init_17 : decode b_Model_init 17 = .ok (.putfield 13, 3) := by decide +kernel
theorem d_Model_init_20 : decode b_Model_init 20 = .ok (.aload_n 0, 1) := by decide +kernel
theorem d_Model_init_21 : decode b_Model_init 21 = .ok (.bipush 12, 2) := by decide +kernel
theorem d_Model_init_23 : decode b_Model_init 23 = .ok (.newarray .int, 2) := by decide +kernel
theorem d_Model_init_25 : decode b_Model_init 25 = .ok (.putfield 17, 3) := by decide +kernel
theorem d_Model_init_28 : decode b_Model_init 28 = .ok (.aload_n 0, 1) := by decide +kernel
theorem d_Model_init_29 : decode b_Model_init 29 = .ok (.bipush 16, 2) := by decide +kernel
theorem d_Model_init_31 : decode b_Model_init 31 = .ok (.newarray .int, 2) := by decide +kernel
theorem d_Model_init_33 : decode b_Model_init 33 = .ok (.putfield 20, 3) := by decide +kernel
theorem d_Model_init_36 : decode b_Model_init 36 = .ok (.aload_n 0, 1) := by decide +kernel
theorem d_Model_init_37 : decode b_Model_init 37 = .ok (.bipush 8, 2) := by decide +kernel
theorem d_Model_init_39 : decode b_Model_init 39 = .ok (.newarray .int, 2) := by decide +kernel
theorem d_Model_init_41 : decode b_Model_init 41 = .ok (.putfield 23, 3) := by decide +kernel
theorem d_Model_init_44 : decode b_Model_init 44 = .ok (.aload_n 0, 1) := by decide +kernel
theorem d_Model_init_45 : decode b_Model_init 45 = .ok (.bipush 15, 2) := by decide +kernel
theorem d_Model_init_47 : decode b_Model_init 47 = .ok (.newarray .int, 2) := by decide +kernel
theorem d_Model_init_49 : decode b_Model_init 49 = .ok (.putfield 26, 3) := by decide +kernel
theorem d_Model_init_52 : decode b_Model_init 52 = .ok (.aload_n 0, 1) := by decide +kernel
theorem d_Model_init_53 : decode b_Model_init 53 = .ok (.bipush 15, 2) := by decide +kernel
theorem d_Model_init_55 : decode b_Model_init 55 = .ok (.newarray .int, 2) := by decide +kernel
theorem d_Model_init_57 : decode b_Model_init 57 = .ok (.putfield 29, 3) := by decide +kernel
theorem d_Model_init_60 : decode b_Model_init 60 = .ok (.aload_n 0, 1) := by decide +kernel
theorem d_Model_init_61 : decode b_Model_init 61 = .ok (.bipush 12, 2) := by decide +kernel
theorem d_Model_init_63 : decode b_Model_init 63 = .ok (.newarray .int, 2) := by decide +kernel
theorem d_Model_init_65 : decode b_Model_init 65 = .ok (.putfield 32, 3) := by decide +kernel
theorem d_Model_init_68 : decode b_Model_init 68 = .ok (.aload_n 0, 1) := by decide +kernel
theorem d_Model_init_69 : decode b_Model_init 69 = .ok (.bipush 16, 2) := by decide +kernel
theorem d_Model_init_71 : decode b_Model_init 71 = .ok (.newarray .int, 2) := by decide +kernel
theorem d_Model_init_73 : decode b_Model_init 73 = .ok (.putfield 35, 3) := by decide +kernel
theorem d_Model_init_76 : decode b_Model_init 76 = .ok (.aload_n 0, 1) := by decide +kernel
theorem d_Model_init_77 : decode b_Model_init 77 = .ok (.bipush 8, 2) := by decide +kernel
theorem d_Model_init_79 : decode b_Model_init 79 = .ok (.newarray .int, 2) := by decide +kernel
theorem d_Model_init_81 : decode b_Model_init 81 = .ok (.putfield 38, 3) := by decide +kernel
theorem d_Model_init_84 : decode b_Model_init 84 = .ok (.aload_n 0, 1) := by decide +kernel
theorem d_Model_init_85 : decode b_Model_init 85 = .ok (.bipush 60, 2) := by decide +kernel
theorem d_Model_init_87 : decode b_Model_init 87 = .ok (.newarray .int, 2) := by decide +kernel
theorem d_Model_init_89 : decode b_Model_init 89 = .ok (.putfield 41, 3) := by decide +kernel
theorem d_Model_init_92 : decode b_Model_init 92 = .ok (.aload_n 0, 1) := by decide +kernel
theorem d_Model_init_93 : decode b_Model_init 93 = .ok (.bipush 6, 2) := by decide +kernel
theorem d_Model_init_95 : decode b_Model_init 95 = .ok (.newarray .boolean, 2) := by decide +kernel
theorem d_Model_init_97 : decode b_Model_init 97 = .ok (.putfield 44, 3) := by decide +kernel
theorem d_Model_init_100 : decode b_Model_init 100 = .ok (.aload_n 0, 1) := by decide +kernel
theorem d_Model_init_101 : decode b_Model_init 101 = .ok (.bipush 6, 2) := by decide +kernel
theorem d_Model_init_103 : decode b_Model_init 103 = .ok (.newarray .boolean, 2) := by decide +kernel
theorem d_Model_init_105 : decode b_Model_init 105 = .ok (.putfield 47, 3) := by decide +kernel
theorem d_Model_init_108 : decode b_Model_init 108 = .ok (.aload_n 0, 1) := by decide +kernel
theorem d_Model_init_109 : decode b_Model_init 109 = .ok (.sipush 320, 3) := by decide +kernel
theorem d_Model_init_112 : decode b_Model_init 112 = .ok (.newarray .int, 2) := by decide +kernel
theorem d_Model_init_114 : decode b_Model_init 114 = .ok (.putfield 50, 3) := by decide +kernel
theorem d_Model_init_117 : decode b_Model_init 117 = .ok (.aload_n 0, 1) := by decide +kernel
theorem d_Model_init_118 : decode b_Model_init 118 = .ok (.sipush 600, 3) := by decide +kernel
theorem d_Model_init_121 : decode b_Model_init 121 = .ok (.newarray .int, 2) := by decide +kernel
theorem d_Model_init_123 : decode b_Model_init 123 = .ok (.putfield 53, 3) := by decide +kernel
theorem d_Model_init_126 : decode b_Model_init 126 = .ok (.aload_n 0, 1) := by decide +kernel
theorem d_Model_init_127 : decode b_Model_init 127 = .ok (.bipush 18, 2) := by decide +kernel
theorem d_Model_init_129 : decode b_Model_init 129 = .ok (.newarray .int, 2) := by decide +kernel
theorem d_Model_init_131 : decode b_Model_init 131 = .ok (.putfield 56, 3) := by decide +kernel
theorem d_Model_init_134 : decode b_Model_init 134 = .ok (.aload_n 0, 1) := by decide +kernel
theorem d_Model_init_135 : decode b_Model_init 135 = .ok (.iconst 4, 1) := by decide +kernel
theorem d_Model_init_136 : decode b_Model_init 136 = .ok (.newarray .int, 2) := by decide +kernel
theorem d_Model_init_138 : decode b_Model_init 138 = .ok (.putfield 59, 3) := by decide +kernel
theorem d_Model_init_141 : decode b_Model_init 141 = .ok (.aload_n 0, 1) := by decide +kernel
theorem d_Model_init_142 : decode b_Model_init 142 = .ok (.iconst 4, 1) := by decide +kernel
theorem d_Model_init_143 : decode b_Model_init 143 = .ok (.newarray .int, 2) := by decide +kernel
theorem d_Model_init_145 : decode b_Model_init 145 = .ok (.putfield 62, 3) := by decide +kernel
theorem d_Model_init_148 : decode b_Model_init 148 = .ok (.aload_n 0, 1) := by decide +kernel
theorem d_Model_init_149 : decode b_Model_init 149 = .ok (.bipush 80, 2) := by decide +kernel
theorem d_Model_init_151 : decode b_Model_init 151 = .ok (.newarray .int, 2) := by decide +kernel
theorem d_Model_init_153 : decode b_Model_init 153 = .ok (.putfield 65, 3) := by decide +kernel
theorem d_Model_init_156 : decode b_Model_init 156 = .ok (.aload_n 0, 1) := by decide +kernel
theorem d_Model_init_157 : decode b_Model_init 157 = .ok (.sipush 1206, 3) := by decide +kernel
theorem d_Model_init_160 : decode b_Model_init 160 = .ok (.newarray .long, 2) := by decide +kernel
theorem d_Model_init_162 : decode b_Model_init 162 = .ok (.putfield 68, 3) := by decide +kernel
theorem d_Model_init_165 : decode b_Model_init 165 = .ok (.aload_n 0, 1) := by decide +kernel
theorem d_Model_init_166 : decode b_Model_init 166 = .ok (.bipush 6, 2) := by decide +kernel
theorem d_Model_init_168 : decode b_Model_init 168 = .ok (.newarray .int, 2) := by decide +kernel
theorem d_Model_init_170 : decode b_Model_init 170 = .ok (.putfield 72, 3) := by decide +kernel
theorem d_Model_init_173 : decode b_Model_init 173 = .ok (.aload_n 0, 1) := by decide +kernel
theorem d_Model_init_174 : decode b_Model_init 174 = .ok (.bipush 6, 2) := by decide +kernel
theorem d_Model_init_176 : decode b_Model_init 176 = .ok (.newarray .int, 2) := by decide +kernel
theorem d_Model_init_178 : decode b_Model_init 178 = .ok (.putfield 75, 3) := by decide +kernel
theorem d_Model_init_181 : decode b_Model_init 181 = .ok (.aload_n 0, 1) := by decide +kernel
theorem d_Model_init_182 : decode b_Model_init 182 = .ok (.iconst 4, 1) := by decide +kernel
theorem d_Model_init_183 : decode b_Model_init 183 = .ok (.newarray .int, 2) := by decide +kernel
theorem d_Model_init_185 : decode b_Model_init 185 = .ok (.putfield 78, 3) := by decide +kernel
theorem d_Model_init_188 : decode b_Model_init 188 = .ok (.aload_n 0, 1) := by decide +kernel
theorem d_Model_init_189 : decode b_Model_init 189 = .ok (.iconst 4, 1) := by decide +kernel
theorem d_Model_init_190 : decode b_Model_init 190 = .ok (.newarray .int, 2) := by decide +kernel
theorem d_Model_init_192 : decode b_Model_init 192 = .ok (.putfield 81, 3) := by decide +kernel
theorem d_Model_init_195 : decode b_Model_init 195 = .ok (.aload_n 0, 1) := by decide +kernel
theorem d_Model_init_196 : decode b_Model_init 196 = .ok (.sipush 160, 3) := by decide +kernel
theorem d_Model_init_199 : decode b_Model_init 199 = .ok (.newarray .int, 2) := by decide +kernel
theorem d_Model_init_201 : decode b_Model_init 201 = .ok (.putfield 84, 3) := by decide +kernel
theorem d_Model_init_204 : decode b_Model_init 204 = .ok (.iconst 0, 1) := by decide +kernel
theorem d_Model_init_205 : decode b_Model_init 205 = .ok (.istore_n 1, 1) := by decide +kernel
theorem d_Model_init_206 : decode b_Model_init 206 = .ok (.iload_n 1, 1) := by decide +kernel
theorem d_Model_init_207 : decode b_Model_init 207 = .ok (.iconst 4, 1) := by decide +kernel
theorem d_Model_init_208 : decode b_Model_init 208 = .ok (.if_icmp .ge 17, 3) := by decide +kernel
theorem d_Model_init_211 : decode b_Model_init 211 = .ok (.aload_n 0, 1) := by decide +kernel
theorem d_Model_init_212 : decode b_Model_init 212 = .ok (.getfield 78, 3) := by decide +kernel
theorem d_Model_init_215 : decode b_Model_init 215 = .ok (.iload_n 1, 1) := by decide +kernel
theorem d_Model_init_216 : decode b_Model_init 216 = .ok (.bipush (-4), 2) := by decide +kernel
theorem d_Model_init_218 : decode b_Model_init 218 = .ok (.iastore, 1) := by decide +kernel
theorem d_Model_init_219 : decode b_Model_init 219 = .ok (.iinc 1 1, 3) := by decide +kernel
theorem d_Model_init_222 : decode b_Model_init 222 = .ok (.goto (-16), 3) := by decide +kernel
theorem d_Model_init_225 : decode b_Model_init 225 = .ok (.iconst 1, 1) := by decide +kernel
theorem d_Model_init_226 : decode b_Model_init 226 = .ok (.istore_n 1, 1) := by decide +kernel
theorem d_Model_init_227 : decode b_Model_init 227 = .ok (.iload_n 1, 1) := by decide +kernel
theorem d_Model_init_228 : decode b_Model_init 228 = .ok (.bipush 6, 2) := by decide +kernel
theorem d_Model_init_230 : decode b_Model_init 230 = .ok (.if_icmp .ge 44, 3) := by decide +kernel
theorem d_Model_init_233 : decode b_Model_init 233 = .ok (.iconst 0, 1) := by decide +kernel
theorem d_Model_init_234 : decode b_Model_init 234 = .ok (.istore_n 2, 1) := by decide +kernel
theorem d_Model_init_235 : decode b_Model_init 235 = .ok (.iload_n 2, 1) := by decide +kernel
theorem d_Model_init_236 : decode b_Model_init 236 = .ok (.iload_n 1, 1) := by decide +kernel
theorem d_Model_init_237 : decode b_Model_init 237 = .ok (.if_icmp .ge 31, 3) := by decide +kernel
theorem d_Model_init_240 : decode b_Model_init 240 = .ok (.aload_n 0, 1) := by decide +kernel
theorem d_Model_init_241 : decode b_Model_init 241 = .ok (.getfield 26, 3) := by decide +kernel
theorem d_Model_init_244 : decode b_Model_init 244 = .ok (.iload_n 2, 1) := by decide +kernel
theorem d_Model_init_245 : decode b_Model_init 245 = .ok (.iload_n 1, 1) := by decide +kernel
theorem d_Model_init_246 : decode b_Model_init 246 = .ok (.invokestatic 87, 3) := by decide +kernel
theorem d_Model_init_249 : decode b_Model_init 249 = .ok (.iload_n 2, 1) := by decide +kernel
theorem d_Model_init_250 : decode b_Model_init 250 = .ok (.iastore, 1) := by decide +kernel
theorem d_Model_init_251 : decode b_Model_init 251 = .ok (.aload_n 0, 1) := by decide +kernel
theorem d_Model_init_252 : decode b_Model_init 252 = .ok (.getfield 29, 3) := by decide +kernel
theorem d_Model_init_255 : decode b_Model_init 255 = .ok (.iload_n 2, 1) := by decide +kernel
theorem d_Model_init_256 : decode b_Model_init 256 = .ok (.iload_n 1, 1) := by decide +kernel
theorem d_Model_init_257 : decode b_Model_init 257 = .ok (.invokestatic 87, 3) := by decide +kernel
theorem d_Model_init_260 : decode b_Model_init 260 = .ok (.iload_n 1, 1) := by decide +kernel
theorem d_Model_init_261 : decode b_Model_init 261 = .ok (.iastore, 1) := by decide +kernel
theorem d_Model_init_262 : decode b_Model_init 262 = .ok (.iinc 2 1, 3) := by decide +kernel
theorem d_Model_init_265 : decode b_Model_init 265 = .ok (.goto (-30), 3) := by decide +kernel
theorem d_Model_init_268 : decode b_Model_init 268 = .ok (.iinc 1 1, 3) := by decide +kernel
theorem d_Model_init_271 : decode b_Model_init 271 = .ok (.goto (-44), 3) := by decide +kernel
theorem d_Model_init_274 : decode b_Model_init 274 = .ok (.aload_n 0, 1) := by decide +kernel
theorem d_Model_init_275 : decode b_Model_init 275 = .ok (.invokevirtual 91, 3) := by decide +kernel
theorem d_Model_init_278 : decode b_Model_init 278 = .ok (.aload_n 0, 1) := by decide +kernel
theorem d_Model_init_279 : decode b_Model_init 279 = .ok (.invokevirtual 94, 3) := by decide +kernel
theorem d_Model_init_282 : decode b_Model_init 282 = .ok (.return_, 1) := by decide +kernel
theorem nu_Model (ad : Nat → Nat) : ∀ j, j < 55 → defaultValue (t_Model j) = vp_V (([2, 2, 0, 0, 0, 0, 0, 2, 2, 2, 2, 2, 0, 0, 0, 0, 0, 0, 2, 2, 2, 2, 2, 2, 0, 2, 0, 0, 0, 0, 0, 0, 0, 2, 2, 0, 2, 2, 0, 0, 0, 0, 0, 0, 0, 0, 2, 0, 2, 2, 2, 2, 2, 2, 0] : List Nat).mapIdx (fun i kd => fldC ad zM 0 i kd)) j := by
  intro j hj
  match j, hj with
  | 0, _ => exact (vpV_fld (ad := ad) (M := zM) (a := 0) (ds := [2, 2, 0, 0, 0, 0, 0, 2, 2, 2, 2, 2, 0, 0, 0, 0, 0, 0, 2, 2, 2, 2, 2, 2, 0, 2, 0, 0, 0, 0, 0, 0, 0, 2, 2, 0, 2, 2, 0, 0, 0, 0, 0, 0, 0, 0, 2, 0, 2, 2, 2, 2, 2, 2, 0]) (j := 0) (kd := 2) rfl).symm
  | 1, _ => exact (vpV_fld (ad := ad) (M := zM) (a := 0) (ds := [2, 2, 0, 0, 0, 0, 0, 2, 2, 2, 2, 2, 0, 0, 0, 0, 0, 0, 2, 2, 2, 2, 2, 2, 0, 2, 0, 0, 0, 0, 0, 0, 0, 2, 2, 0, 2, 2, 0, 0, 0, 0, 0, 0, 0, 0, 2, 0, 2, 2, 2, 2, 2, 2, 0]) (j := 1) (kd := 2) rfl).symm
  | 2, _ => exact (vpV_fld (ad := ad) (M := zM) (a := 0) (ds := [2, 2, 0, 0, 0, 0, 0, 2, 2, 2, 2, 2, 0, 0, 0, 0, 0, 0, 2, 2, 2, 2, 2, 2, 0, 2, 0, 0, 0, 0, 0, 0, 0, 2, 2, 0, 2, 2, 0, 0, 0, 0, 0, 0, 0, 0, 2, 0, 2, 2, 2, 2, 2, 2, 0]) (j := 2) (kd := 0) rfl).symm
  | 3, _ => exact (vpV_fld (ad := ad) (M := zM) (a := 0) (ds := [2, 2, 0, 0, 0, 0, 0, 2, 2, 2, 2, 2, 0, 0, 0, 0, 0, 0, 2, 2, 2, 2, 2, 2, 0, 2, 0, 0, 0, 0, 0, 0, 0, 2, 2, 0, 2, 2, 0, 0, 0, 0, 0, 0, 0, 0, 2, 0, 2, 2, 2, 2, 2, 2, 0]) (j := 3) (kd := 0) rfl).symm
  | 4, _ => exact (vpV_fld (ad := ad) (M := zM) (a := 0) (ds := [2, 2, 0, 0, 0, 0, 0, 2, 2, 2, 2, 2, 0, 0, 0, 0, 0, 0, 2, 2, 2, 2, 2, 2, 0, 2, 0, 0, 0, 0, 0, 0, 0, 2, 2, 0, 2, 2, 0, 0, 0, 0, 0, 0, 0, 0, 2, 0, 2, 2, 2, 2, 2, 2, 0]) (j := 4) (kd := 0) rfl).symm
  | 5, _ => exact (vpV_fld (ad := ad) (M := zM) (a := 0) (ds := [2, 2, 0, 0, 0, 0, 0, 2, 2, 2, 2, 2, 0, 0, 0, 0, 0, 0, 2, 2, 2, 2, 2, 2, 0, 2, 0, 0, 0, 0, 0, 0, 0, 2, 2, 0, 2, 2, 0, 0, 0, 0, 0, 0, 0, 0, 2, 0, 2, 2, 2, 2, 2, 2, 0]) (j := 5) (kd := 0) rfl).symm
  | 6, _ => exact (vpV_fld (ad := ad) (M := zM) (a := 0) (ds := [2, 2, 0, 0, 0, 0, 0, 2, 2, 2, 2, 2, 0, 0, 0, 0, 0, 0, 2, 2, 2, 2, 2, 2, 0, 2, 0, 0, 0, 0, 0, 0, 0, 2, 2, 0, 2, 2, 0, 0, 0, 0, 0, 0, 0, 0, 2, 0, 2, 2, 2, 2, 2, 2, 0]) (j := 6) (kd := 0) rfl).symm
  | 7, _ => exact (vpV_fld (ad := ad) (M := zM) (a := 0) (ds := [2, 2, 0, 0, 0, 0, 0, 2, 2, 2, 2, 2, 0, 0, 0, 0, 0, 0, 2, 2, 2, 2, 2, 2, 0, 2, 0, 0, 0, 0, 0, 0, 0, 2, 2, 0, 2, 2, 0, 0, 0, 0, 0, 0, 0, 0, 2, 0, 2, 2, 2, 2, 2, 2, 0]) (j := 7) (kd := 2) rfl).symm
  | 8, _ => exact (vpV_fld (ad := ad) (M := zM) (a := 0) (ds := [2, 2, 0, 0, 0, 0, 0, 2, 2, 2, 2, 2, 0, 0, 0, 0, 0, 0, 2, 2, 2, 2, 2, 2, 0, 2, 0, 0, 0, 0, 0, 0, 0, 2, 2, 0, 2, 2, 0, 0, 0, 0, 0, 0, 0, 0, 2, 0, 2, 2, 2, 2, 2, 2, 0]) (j := 8) (kd := 2) rfl).symm
  | 9, _ => exact (vpV_fld (ad := ad) (M := zM) (a := 0) (ds := [2, 2, 0, 0, 0, 0, 0, 2, 2, 2, 2, 2, 0, 0, 0, 0, 0, 0, 2, 2, 2, 2, 2, 2, 0, 2, 0, 0, 0, 0, 0, 0, 0, 2, 2, 0, 2, 2, 0, 0, 0, 0, 0, 0, 0, 0, 2, 0, 2, 2, 2, 2, 2, 2, 0]) (j := 9) (kd := 2) rfl).symm
  | 10, _ => exact (vpV_fld (ad := ad) (M := zM) (a := 0) (ds := [2, 2, 0, 0, 0, 0, 0, 2, 2, 2, 2, 2, 0, 0, 0, 0, 0, 0, 2, 2, 2, 2, 2, 2, 0, 2, 0, 0, 0, 0, 0, 0, 0, 2, 2, 0, 2, 2, 0, 0, 0, 0, 0, 0, 0, 0, 2, 0, 2, 2, 2, 2, 2, 2, 0]) (j := 10) (kd := 2) rfl).symm
  | 11, _ => exact (vpV_fld (ad := ad) (M := zM) (a := 0) (ds := [2, 2, 0, 0, 0, 0, 0, 2, 2, 2, 2, 2, 0, 0, 0, 0, 0, 0, 2, 2, 2, 2, 2, 2, 0, 2, 0, 0, 0, 0, 0, 0, 0, 2, 2, 0, 2, 2, 0, 0, 0, 0, 0, 0, 0, 0, 2, 0, 2, 2, 2, 2, 2, 2, 0]) (j := 11) (kd := 2) rfl).symm
  | 12, _ => exact (vpV_fld (ad := ad) (M := zM) (a := 0) (ds := [2, 2, 0, 0, 0, 0, 0, 2, 2, 2, 2, 2, 0, 0, 0, 0, 0, 0, 2, 2, 2, 2, 2, 2, 0, 2, 0, 0, 0, 0, 0, 0, 0, 2, 2, 0, 2, 2, 0, 0, 0, 0, 0, 0, 0, 0, 2, 0, 2, 2, 2, 2, 2, 2, 0]) (j := 12) (kd := 0) rfl).symm
  | 13, _ => exact (vpV_fld (ad := ad) (M := zM) (a := 0) (ds := [2, 2, 0, 0, 0, 0, 0, 2, 2, 2, 2, 2, 0, 0, 0, 0, 0, 0, 2, 2, 2, 2, 2, 2, 0, 2, 0, 0, 0, 0, 0, 0, 0, 2, 2, 0, 2, 2, 0, 0, 0, 0, 0, 0, 0, 0, 2, 0, 2, 2, 2, 2, 2, 2, 0]) (j := 13) (kd := 0) rfl).symm
  | 14, _ => exact (vpV_fld (ad := ad) (M := zM) (a := 0) (ds := [2, 2, 0, 0, 0, 0, 0, 2, 2, 2, 2, 2, 0, 0, 0, 0, 0, 0, 2, 2, 2, 2, 2, 2, 0, 2, 0, 0, 0, 0, 0, 0, 0, 2, 2, 0, 2, 2, 0, 0, 0, 0, 0, 0, 0, 0, 2, 0, 2, 2, 2, 2, 2, 2, 0]) (j := 14) (kd := 0) rfl).symm
  | 15, _ => exact (vpV_fld (ad := ad) (M := zM) (a := 0) (ds := [2, 2, 0, 0, 0, 0, 0, 2, 2, 2, 2, 2, 0, 0, 0, 0, 0, 0, 2, 2, 2, 2, 2, 2, 0, 2, 0, 0, 0, 0, 0, 0, 0, 2, 2, 0, 2, 2, 0, 0, 0, 0, 0, 0, 0, 0, 2, 0, 2, 2, 2, 2, 2, 2, 0]) (j := 15) (kd := 0) rfl).symm
  | 16, _ => exact (vpV_fld (ad := ad) (M := zM) (a := 0) (ds := [2, 2, 0, 0, 0, 0, 0, 2, 2, 2, 2, 2, 0, 0, 0, 0, 0, 0, 2, 2, 2, 2, 2, 2, 0, 2, 0, 0, 0, 0, 0, 0, 0, 2, 2, 0, 2, 2, 0, 0, 0, 0, 0, 0, 0, 0, 2, 0, 2, 2, 2, 2, 2, 2, 0]) (j := 16) (kd := 0) rfl).symm
  | 17, _ => exact (vpV_fld (ad := ad) (M := zM) (a := 0) (ds := [2, 2, 0, 0, 0, 0, 0, 2, 2, 2, 2, 2, 0, 0, 0, 0, 0, 0, 2, 2, 2, 2, 2, 2, 0, 2, 0, 0, 0, 0, 0, 0, 0, 2, 2, 0, 2, 2, 0, 0, 0, 0, 0, 0, 0, 0, 2, 0, 2, 2, 2, 2, 2, 2, 0]) (j := 17) (kd := 0) rfl).symm
  | 18, _ => exact (vpV_fld (ad := ad) (M := zM) (a := 0) (ds := [2, 2, 0, 0, 0, 0, 0, 2, 2, 2, 2, 2, 0, 0, 0, 0, 0, 0, 2, 2, 2, 2, 2, 2, 0, 2, 0, 0, 0, 0, 0, 0, 0, 2, 2, 0, 2, 2, 0, 0, 0, 0, 0, 0, 0, 0, 2, 0, 2, 2, 2, 2, 2, 2, 0]) (j := 18) (kd := 2) rfl).symm
  | 19, _ => exact (vpV_fld (ad := ad) (M := zM) (a := 0) (ds := [2, 2, 0, 0, 0, 0, 0, 2, 2, 2, 2, 2, 0, 0, 0, 0, 0, 0, 2, 2, 2, 2, 2, 2, 0, 2, 0, 0, 0, 0, 0, 0, 0, 2, 2, 0, 2, 2, 0, 0, 0, 0, 0, 0, 0, 0, 2, 0, 2, 2, 2, 2, 2, 2, 0]) (j := 19) (kd := 2) rfl).symm
  | 20, _ => exact (vpV_fld (ad := ad) (M := zM) (a := 0) (ds := [2, 2, 0, 0, 0, 0, 0, 2, 2, 2, 2, 2, 0, 0, 0, 0, 0, 0, 2, 2, 2, 2, 2, 2, 0, 2, 0, 0, 0, 0, 0, 0, 0, 2, 2, 0, 2, 2, 0, 0, 0, 0, 0, 0, 0, 0, 2, 0, 2, 2, 2, 2, 2, 2, 0]) (j := 20) (kd := 2) rfl).symm
  | 21, _ => exact (vpV_fld (ad := ad) (M := zM) (a := 0) (ds := [2, 2, 0, 0, 0, 0, 0, 2, 2, 2, 2, 2, 0, 0, 0, 0, 0, 0, 2, 2, 2, 2, 2, 2, 0, 2, 0, 0, 0, 0, 0, 0, 0, 2, 2, 0, 2, 2, 0, 0, 0, 0, 0, 0, 0, 0, 2, 0, 2, 2, 2, 2, 2, 2, 0]) (j := 21) (kd := 2) rfl).symm
  | 22, _ => exact (vpV_fld (ad := ad) (M := zM) (a := 0) (ds := [2, 2, 0, 0, 0, 0, 0, 2, 2, 2, 2, 2, 0, 0, 0, 0, 0, 0, 2, 2, 2, 2, 2, 2, 0, 2, 0, 0, 0, 0, 0, 0, 0, 2, 2, 0, 2, 2, 0, 0, 0, 0, 0, 0, 0, 0, 2, 0, 2, 2, 2, 2, 2, 2, 0]) (j := 22) (kd := 2) rfl).symm
  | 23, _ => exact (vpV_fld (ad := ad) (M := zM) (a := 0) (ds := [2, 2, 0, 0, 0, 0, 0, 2, 2, 2, 2, 2, 0, 0, 0, 0, 0, 0, 2, 2, 2, 2, 2, 2, 0, 2, 0, 0, 0, 0, 0, 0, 0, 2, 2, 0, 2, 2, 0, 0, 0, 0, 0, 0, 0, 0, 2, 0, 2, 2, 2, 2, 2, 2, 0]) (j := 23) (kd := 2) rfl).symm
  | 24, _ => exact (vpV_fld (ad := ad) (M := zM) (a := 0) (ds := [2, 2, 0, 0, 0, 0, 0, 2, 2, 2, 2, 2, 0, 0, 0, 0, 0, 0, 2, 2, 2, 2, 2, 2, 0, 2, 0, 0, 0, 0, 0, 0, 0, 2, 2, 0, 2, 2, 0, 0, 0, 0, 0, 0, 0, 0, 2, 0, 2, 2, 2, 2, 2, 2, 0]) (j := 24) (kd := 0) rfl).symm
  | 25, _ => exact (vpV_fld (ad := ad) (M := zM) (a := 0) (ds := [2, 2, 0, 0, 0, 0, 0, 2, 2, 2, 2, 2, 0, 0, 0, 0, 0, 0, 2, 2, 2, 2, 2, 2, 0, 2, 0, 0, 0, 0, 0, 0, 0, 2, 2, 0, 2, 2, 0, 0, 0, 0, 0, 0, 0, 0, 2, 0, 2, 2, 2, 2, 2, 2, 0]) (j := 25) (kd := 2) rfl).symm
  | 26, _ => exact (vpV_fld (ad := ad) (M := zM) (a := 0) (ds := [2, 2, 0, 0, 0, 0, 0, 2, 2, 2, 2, 2, 0, 0, 0, 0, 0, 0, 2, 2, 2, 2, 2, 2, 0, 2, 0, 0, 0, 0, 0, 0, 0, 2, 2, 0, 2, 2, 0, 0, 0, 0, 0, 0, 0, 0, 2, 0, 2, 2, 2, 2, 2, 2, 0]) (j := 26) (kd := 0) rfl).symm
  | 27, _ => exact (vpV_fld (ad := ad) (M := zM) (a := 0) (ds := [2, 2, 0, 0, 0, 0, 0, 2, 2, 2, 2, 2, 0, 0, 0, 0, 0, 0, 2, 2, 2, 2, 2, 2, 0, 2, 0, 0, 0, 0, 0, 0, 0, 2, 2, 0, 2, 2, 0, 0, 0, 0, 0, 0, 0, 0, 2, 0, 2, 2, 2, 2, 2, 2, 0]) (j := 27) (kd := 0) rfl).symm
  | 28, _ => exact (vpV_fld (ad := ad) (M := zM) (a := 0) (ds := [2, 2, 0, 0, 0, 0, 0, 2, 2, 2, 2, 2, 0, 0, 0, 0, 0, 0, 2, 2, 2, 2, 2, 2, 0, 2, 0, 0, 0, 0, 0, 0, 0, 2, 2, 0, 2, 2, 0, 0, 0, 0, 0, 0, 0, 0, 2, 0, 2, 2, 2, 2, 2, 2, 0]) (j := 28) (kd := 0) rfl).symm
  | 29, _ => exact (vpV_fld (ad := ad) (M := zM) (a := 0) (ds := [2, 2, 0, 0, 0, 0, 0, 2, 2, 2, 2, 2, 0, 0, 0, 0, 0, 0, 2, 2, 2, 2, 2, 2, 0, 2, 0, 0, 0, 0, 0, 0, 0, 2, 2, 0, 2, 2, 0, 0, 0, 0, 0, 0, 0, 0, 2, 0, 2, 2, 2, 2, 2, 2, 0]) (j := 29) (kd := 0) rfl).symm
  | 30, _ => exact (vpV_fld (ad := ad) (M := zM) (a := 0) (ds := [2, 2, 0, 0, 0, 0, 0, 2, 2, 2, 2, 2, 0, 0, 0, 0, 0, 0, 2, 2, 2, 2, 2, 2, 0, 2, 0, 0, 0, 0, 0, 0, 0, 2, 2, 0, 2, 2, 0, 0, 0, 0, 0, 0, 0, 0, 2, 0, 2, 2, 2, 2, 2, 2, 0]) (j := 30) (kd := 0) rfl).symm
  | 31, _ => exact (vpV_fld (ad := ad) (M := zM) (a := 0) (ds := [2, 2, 0, 0, 0, 0, 0, 2, 2, 2, 2, 2, 0, 0, 0, 0, 0, 0, 2, 2, 2, 2, 2, 2, 0, 2, 0, 0, 0, 0, 0, 0, 0, 2, 2, 0, 2, 2, 0, 0, 0, 0, 0, 0, 0, 0, 2, 0, 2, 2, 2, 2, 2, 2, 0]) (j := 31) (kd := 0) rfl).symm
  | 32, _ => exact (vpV_fld (ad := ad) (M := zM) (a := 0) (ds := [2, 2, 0, 0, 0, 0, 0, 2, 2, 2, 2, 2, 0, 0, 0, 0, 0, 0, 2, 2, 2, 2, 2, 2, 0, 2, 0, 0, 0, 0, 0, 0, 0, 2, 2, 0, 2, 2, 0, 0, 0, 0, 0, 0, 0, 0, 2, 0, 2, 2, 2, 2, 2, 2, 0]) (j := 32) (kd := 0) rfl).symm
  | 33, _ => exact (vpV_fld (ad := ad) (M := zM) (a := 0) (ds := [2, 2, 0, 0, 0, 0, 0, 2, 2, 2, 2, 2, 0, 0, 0, 0, 0, 0, 2, 2, 2, 2, 2, 2, 0, 2, 0, 0, 0, 0, 0, 0, 0, 2, 2, 0, 2, 2, 0, 0, 0, 0, 0, 0, 0, 0, 2, 0, 2, 2, 2, 2, 2, 2, 0]) (j := 33) (kd := 2) rfl).symm
  | 34, _ => exact (vpV_fld (ad := ad) (M := zM) (a := 0) (ds := [2, 2, 0, 0, 0, 0, 0, 2, 2, 2, 2, 2, 0, 0, 0, 0, 0, 0, 2, 2, 2, 2, 2, 2, 0, 2, 0, 0, 0, 0, 0, 0, 0, 2, 2, 0, 2, 2, 0, 0, 0, 0, 0, 0, 0, 0, 2, 0, 2, 2, 2, 2, 2, 2, 0]) (j := 34) (kd := 2) rfl).symm
  | 35, _ => exact (vpV_fld (ad := ad) (M := zM) (a := 0) (ds := [2, 2, 0, 0, 0, 0, 0, 2, 2, 2, 2, 2, 0, 0, 0, 0, 0, 0, 2, 2, 2, 2, 2, 2, 0, 2, 0, 0, 0, 0, 0, 0, 0, 2, 2, 0, 2, 2, 0, 0, 0, 0, 0, 0, 0, 0, 2, 0, 2, 2, 2, 2, 2, 2, 0]) (j := 35) (kd := 0) rfl).symm
  | 36, _ => exact (vpV_fld (ad := ad) (M := zM) (a := 0) (ds := [2, 2, 0, 0, 0, 0, 0, 2, 2, 2, 2, 2, 0, 0, 0, 0, 0, 0, 2, 2, 2, 2, 2, 2, 0, 2, 0, 0, 0, 0, 0, 0, 0, 2, 2, 0, 2, 2, 0, 0, 0, 0, 0, 0, 0, 0, 2, 0, 2, 2, 2, 2, 2, 2, 0]) (j := 36) (kd := 2) rfl).symm
  | 37, _ => exact (vpV_fld (ad := ad) (M := zM) (a := 0) (ds := [2, 2, 0, 0, 0, 0, 0, 2, 2, 2, 2, 2, 0, 0, 0, 0, 0, 0, 2, 2, 2, 2, 2, 2, 0, 2, 0, 0, 0, 0, 0, 0, 0, 2, 2, 0, 2, 2, 0, 0, 0, 0, 0, 0, 0, 0, 2, 0, 2, 2, 2, 2, 2, 2, 0]) (j := 37) (kd := 2) rfl).symm
  | 38, _ => exact (vpV_fld (ad := ad) (M := zM) (a := 0) (ds := [2, 2, 0, 0, 0, 0, 0, 2, 2, 2, 2, 2, 0, 0, 0, 0, 0, 0, 2, 2, 2, 2, 2, 2, 0, 2, 0, 0, 0, 0, 0, 0, 0, 2, 2, 0, 2, 2, 0, 0, 0, 0, 0, 0, 0, 0, 2, 0, 2, 2, 2, 2, 2, 2, 0]) (j := 38) (kd := 0) rfl).symm
  | 39, _ => exact (vpV_fld (ad := ad) (M := zM) (a := 0) (ds := [2, 2, 0, 0, 0, 0, 0, 2, 2, 2, 2, 2, 0, 0, 0, 0, 0, 0, 2, 2, 2, 2, 2, 2, 0, 2, 0, 0, 0, 0, 0, 0, 0, 2, 2, 0, 2, 2, 0, 0, 0, 0, 0, 0, 0, 0, 2, 0, 2, 2, 2, 2, 2, 2, 0]) (j := 39) (kd := 0) rfl).symm
  | 40, _ => exact (vpV_fld (ad := ad) (M := zM) (a := 0) (ds := [2, 2, 0, 0, 0, 0, 0, 2, 2, 2, 2, 2, 0, 0, 0, 0, 0, 0, 2, 2, 2, 2, 2, 2, 0, 2, 0, 0, 0, 0, 0, 0, 0, 2, 2, 0, 2, 2, 0, 0, 0, 0, 0, 0, 0, 0, 2, 0, 2, 2, 2, 2, 2, 2, 0]) (j := 40) (kd := 0) rfl).symm
  | 41, _ => exact (vpV_fld (ad := ad) (M := zM) (a := 0) (ds := [2, 2, 0, 0, 0, 0, 0, 2, 2, 2, 2, 2, 0, 0, 0, 0, 0, 0, 2, 2, 2, 2, 2, 2, 0, 2, 0, 0, 0, 0, 0, 0, 0, 2, 2, 0, 2, 2, 0, 0, 0, 0, 0, 0, 0, 0, 2, 0, 2, 2, 2, 2, 2, 2, 0]) (j := 41) (kd := 0) rfl).symm
  | 42, _ => exact (vpV_fld (ad := ad) (M := zM) (a := 0) (ds := [2, 2, 0, 0, 0, 0, 0, 2, 2, 2, 2, 2, 0, 0, 0, 0, 0, 0, 2, 2, 2, 2, 2, 2, 0, 2, 0, 0, 0, 0, 0, 0, 0, 2, 2, 0, 2, 2, 0, 0, 0, 0, 0, 0, 0, 0, 2, 0, 2, 2, 2, 2, 2, 2, 0]) (j := 42) (kd := 0) rfl).symm
  | 43, _ => exact (vpV_fld (ad := ad) (M := zM) (a := 0) (ds := [2, 2, 0, 0, 0, 0, 0, 2, 2, 2, 2, 2, 0, 0, 0, 0, 0, 0, 2, 2, 2, 2, 2, 2, 0, 2, 0, 0, 0, 0, 0, 0, 0, 2, 2, 0, 2, 2, 0, 0, 0, 0, 0, 0, 0, 0, 2, 0, 2, 2, 2, 2, 2, 2, 0]) (j := 43) (kd := 0) rfl).symm
  | 44, _ => exact (vpV_fld (ad := ad) (M := zM) (a := 0) (ds := [2, 2, 0, 0, 0, 0, 0, 2, 2, 2, 2, 2, 0, 0, 0, 0, 0, 0, 2, 2, 2, 2, 2, 2, 0, 2, 0, 0, 0, 0, 0, 0, 0, 2, 2, 0, 2, 2, 0, 0, 0, 0, 0, 0, 0, 0, 2, 0, 2, 2, 2, 2, 2, 2, 0]) (j := 44) (kd := 0) rfl).symm
  | 45, _ => exact (vpV_fld (ad := ad) (M := zM) (a := 0) (ds := [2, 2, 0, 0, 0, 0, 0, 2, 2, 2, 2, 2, 0, 0, 0, 0, 0, 0, 2, 2, 2, 2, 2, 2, 0, 2, 0, 0, 0, 0, 0, 0, 0, 2, 2, 0, 2, 2, 0, 0, 0, 0, 0, 0, 0, 0, 2, 0, 2, 2, 2, 2, 2, 2, 0]) (j := 45) (kd := 0) rfl).symm
  | 46, _ => exact (vpV_fld (ad := ad) (M := zM) (a := 0) (ds := [2, 2, 0, 0, 0, 0, 0, 2, 2, 2, 2, 2, 0, 0, 0, 0, 0, 0, 2, 2, 2, 2, 2, 2, 0, 2, 0, 0, 0, 0, 0, 0, 0, 2, 2, 0, 2, 2, 0, 0, 0, 0, 0, 0, 0, 0, 2, 0, 2, 2, 2, 2, 2, 2, 0]) (j := 46) (kd := 2) rfl).symm
  | 47, _ => exact (vpV_fld (ad := ad) (M := zM) (a := 0) (ds := [2, 2, 0, 0, 0, 0, 0, 2, 2, 2, 2, 2, 0, 0, 0, 0, 0, 0, 2, 2, 2, 2, 2, 2, 0, 2, 0, 0, 0, 0, 0, 0, 0, 2, 2, 0, 2, 2, 0, 0, 0, 0, 0, 0, 0, 0, 2, 0, 2, 2, 2, 2, 2, 2, 0]) (j := 47) (kd := 0) rfl).symm
  | 48, _ => exact (vpV_fld (ad := ad) (M := zM) (a := 0) (ds := [2, 2, 0, 0, 0, 0, 0, 2, 2, 2, 2, 2, 0, 0, 0, 0, 0, 0, 2, 2, 2, 2, 2, 2, 0, 2, 0, 0, 0, 0, 0, 0, 0, 2, 2, 0, 2, 2, 0, 0, 0, 0, 0, 0, 0, 0, 2, 0, 2, 2, 2, 2, 2, 2, 0]) (j := 48) (kd := 2) rfl).symm
  | 49, _ => exact (vpV_fld (ad := ad) (M := zM) (a := 0) (ds := [2, 2, 0, 0, 0, 0, 0, 2, 2, 2, 2, 2, 0, 0, 0, 0, 0, 0, 2, 2, 2, 2, 2, 2, 0, 2, 0, 0, 0, 0, 0, 0, 0, 2, 2, 0, 2, 2, 0, 0, 0, 0, 0, 0, 0, 0, 2, 0, 2, 2, 2, 2, 2, 2, 0]) (j := 49) (kd := 2) rfl).symm
  | 50, _ => exact (vpV_fld (ad := ad) (M := zM) (a := 0) (ds := [2, 2, 0, 0, 0, 0, 0, 2, 2, 2, 2, 2, 0, 0, 0, 0, 0, 0, 2, 2, 2, 2, 2, 2, 0, 2, 0, 0, 0, 0, 0, 0, 0, 2, 2, 0, 2, 2, 0, 0, 0, 0, 0, 0, 0, 0, 2, 0, 2, 2, 2, 2, 2, 2, 0]) (j := 50) (kd := 2) rfl).symm
  | 51, _ => exact (vpV_fld (ad := ad) (M := zM) (a := 0) (ds := [2, 2, 0, 0, 0, 0, 0, 2, 2, 2, 2, 2, 0, 0, 0, 0, 0, 0, 2, 2, 2, 2, 2, 2, 0, 2, 0, 0, 0, 0, 0, 0, 0, 2, 2, 0, 2, 2, 0, 0, 0, 0, 0, 0, 0, 0, 2, 0, 2, 2, 2, 2, 2, 2, 0]) (j := 51) (kd := 2) rfl).symm
  | 52, _ => exact (vpV_fld (ad := ad) (M := zM) (a := 0) (ds := [2, 2, 0, 0, 0, 0, 0, 2, 2, 2, 2, 2, 0, 0, 0, 0, 0, 0, 2, 2, 2, 2, 2, 2, 0, 2, 0, 0, 0, 0, 0, 0, 0, 2, 2, 0, 2, 2, 0, 0, 0, 0, 0, 0, 0, 0, 2, 0, 2, 2, 2, 2, 2, 2, 0]) (j := 52) (kd := 2) rfl).symm
  | 53, _ => exact (vpV_fld (ad := ad) (M := zM) (a := 0) (ds := [2, 2, 0, 0, 0, 0, 0, 2, 2, 2, 2, 2, 0, 0, 0, 0, 0, 0, 2, 2, 2, 2, 2, 2, 0, 2, 0, 0, 0, 0, 0, 0, 0, 2, 2, 0, 2, 2, 0, 0, 0, 0, 0, 0, 0, 0, 2, 0, 2, 2, 2, 2, 2, 2, 0]) (j := 53) (kd := 2) rfl).symm
  | 54, _ => exact (vpV_fld (ad := ad) (M := zM) (a := 0) (ds := [2, 2, 0, 0, 0, 0, 0, 2, 2, 2, 2, 2, 0, 0, 0, 0, 0, 0, 2, 2, 2, 2, 2, 2, 0, 2, 0, 0, 0, 0, 0, 0, 0, 2, 2, 0, 2, 2, 0, 0, 0, 0, 0, 0, 0, 0, 2, 0, 2, 2, 2, 2, 2, 2, 0]) (j := 54) (kd := 0) rfl).symm
  | j + 55, h => exact absurd h (by omega)
theorem oi_Model_1 : Cond.methodLink "ShakeHandsModel" 1 objectInit ∈ tbl := tb_4 162 (by decide +kernel) rfl
theorem ac_boolean : Cond.arrayClass .boolean ∈ tbl := tb_5 103 (by decide +kernel) rfl
def mt_Model_init : Mt := ("ShakeHandsModel", b_Model_init, 3, none, 60, SHm)
def X_Model_init_L206 (n : Nat) (kx225 : Mem → Option (Unit × Mem)) : Nat → Int32 → Mem → Option (Unit × Mem)
    | 0, _, _ => none
    | m + 1, v1, M => (if 4 ≤ v1 then
    kx225 M
    else
    gd v1 4 (
      X_Model_init_L206 n kx225 m (v1 + 1) (si M 23 (v1.toNatClampNeg) (-4))))
def X_Model_init_L235 (n : Nat) (a1 : Int32) (kx268 : Mem → Option (Unit × Mem)) : Nat → Int32 → Mem → Option (Unit × Mem)
    | 0, _, _ => none
    | m + 1, v2, M => (if a1 ≤ v2 then
    kx268 M
    else
    bd (X_Model_pairOf n v2 a1 M) fun r2 M3 =>
    gd r2 15 (
      nm (si M3 6 (r2.toNatClampNeg) v2) fun N4 =>
      bd (X_Model_pairOf n v2 a1 N4) fun r5 M6 =>
      gd r5 15 (
        X_Model_init_L235 n a1 kx268 m (v2 + 1) (si M6 7 (r5.toNatClampNeg) a1))))
def X_Model_init_L227 (n : Nat) (kx274 : Mem → Option (Unit × Mem)) : Nat → Int32 → Mem → Option (Unit × Mem)
    | 0, _, _ => none
    | m + 1, v1, M => (if 6 ≤ v1 then
    kx274 M
    else
    X_Model_init_L235 n v1 (fun M7 => X_Model_init_L227 n kx274 m (v1 + 1) M7) n 0 M)
def X_Model_init (n : Nat) (M : Mem) : Option (Unit × Mem) :=
  X_Model_init_L206 n (fun M1 => X_Model_init_L227 n (fun M8 => bd (X_Model_firstDraft n M8) fun _ M10 =>
      bd (X_Model_keepDraft n M10) fun _ M12 =>
      some ((), M12)) n 1 M1) n 0 M
set_option maxRecDepth 20000 in
set_option maxHeartbeats 4000000 in
theorem X_Model_init_L206_ok {n : Nat} {kx225 : Mem → Option (Unit × Mem)} (hkx225 : ∀ (M : Mem), J (mt_Model_init) wU 225 [(0, Value.ref 0)] [] M (kx225 M)) : ∀ (m : Nat) (v1 : Int32) (M : Mem), J (mt_Model_init) wU 206 [(0, Value.ref 0), (1, Value.int v1)] [] M (X_Model_init_L206 n kx225 m v1 M) := by
  intro m
  induction m with
  | zero => intro _ _; exact j_none
  | succ m ih =>
    intro v1 M
    show J _ _ _ _ _ _ ((if 4 ≤ v1 then
kx225 M
else
gd v1 4 (
X_Model_init_L206 n kx225 m (v1 + 1) (si M 23 (v1.toNatClampNeg) (-4)))))
    refine j_iload_n (pc := 206) (q := 1) d_Model_init_206 rfl rfl ?_
    refine j_iconst (pc := 207) d_Model_init_207 k_i_4 ?_
    refine j_icmp_ge (pc := 208) (tgt := 225) d_Model_init_208 (by decide) (fun _ => ?_) (fun _ => ?_)
    · refine j_lv [0] rfl ?_
      exact hkx225 M
    · refine j_aload_n (pc := 211) (q := 0) d_Model_init_211 rfl rfl ?_
      refine j_getA (pc := 212) d_Model_init_212 fl_Model_78 sm_0 (by decide) rfl ?_
      refine j_iload_n (pc := 215) (q := 1) d_Model_init_215 rfl rfl ?_
      refine j_bipush (pc := 216) d_Model_init_216 k_b_m4 ?_
      refine j_iast (pc := 218) d_Model_init_218 sm_23 (fun _ => ?_)
      refine j_iinc (pc := 219) (q := 1) d_Model_init_219 rfl (congrArg (v1 + ·) k_i_1) (by decide) rfl ?_
      refine j_goto (pc := 222) (tgt := 206) d_Model_init_222 (by decide) ?_
      refine j_lv [1, 0] rfl ?_
      exact ih (v1 + 1) (si M 23 (v1.toNatClampNeg) (-4))
set_option maxRecDepth 20000 in
set_option maxHeartbeats 4000000 in
theorem X_Model_init_L235_ok {n : Nat} {a1 : Int32} {kx268 : Mem → Option (Unit × Mem)} (hkx268 : ∀ (M : Mem), J (mt_Model_init) wU 268 [(0, Value.ref 0), (1, Value.int a1)] [] M (kx268 M)) : ∀ (m : Nat) (v2 : Int32) (M : Mem), J (mt_Model_init) wU 235 [(0, Value.ref 0), (1, Value.int a1), (2, Value.int v2)] [] M (X_Model_init_L235 n a1 kx268 m v2 M) := by
  intro m
  induction m with
  | zero => intro _ _; exact j_none
  | succ m ih =>
    intro v2 M
    show J _ _ _ _ _ _ ((if a1 ≤ v2 then
kx268 M
else
bd (X_Model_pairOf n v2 a1 M) fun r2 M3 =>
gd r2 15 (
nm (si M3 6 (r2.toNatClampNeg) v2) fun N4 =>
bd (X_Model_pairOf n v2 a1 N4) fun r5 M6 =>
gd r5 15 (
X_Model_init_L235 n a1 kx268 m (v2 + 1) (si M6 7 (r5.toNatClampNeg) a1)))))
    refine j_iload_n (pc := 235) (q := 2) d_Model_init_235 rfl rfl ?_
    refine j_iload_n (pc := 236) (q := 1) d_Model_init_236 rfl rfl ?_
    refine j_icmp_ge (pc := 237) (tgt := 268) d_Model_init_237 (by decide) (fun _ => ?_) (fun _ => ?_)
    · refine j_lv [0, 1] rfl ?_
      exact hkx268 M
    · refine j_aload_n (pc := 240) (q := 0) d_Model_init_240 rfl rfl ?_
      refine j_getA (pc := 241) d_Model_init_241 fl_Model_26 sm_0 (by decide) rfl ?_
      refine j_iload_n (pc := 244) (q := 2) d_Model_init_244 rfl rfl ?_
      refine j_iload_n (pc := 245) (q := 1) d_Model_init_245 rfl rfl ?_
      refine j_callS2 (pc := 246) d_Model_init_246 (C_Model_pairOf n v2 a1 M) cS_Model_87 cd_Model_pairOf dn_Model_pairOf rfl (by decide) (Nat.le_of_ble_eq_true rfl) (Nat.le_of_ble_eq_true rfl) nr_I (fun r2 M3 => ?_)
      refine j_iload_n (pc := 249) (q := 2) d_Model_init_249 rfl rfl ?_
      refine j_iast (pc := 250) d_Model_init_250 sm_6 (fun _ => ?_)
      refine j_aload_n (pc := 251) (q := 0) d_Model_init_251 rfl rfl ?_
      refine j_getA (pc := 252) d_Model_init_252 fl_Model_29 sm_0 (by decide) rfl ?_
      refine j_iload_n (pc := 255) (q := 2) d_Model_init_255 rfl rfl ?_
      refine j_iload_n (pc := 256) (q := 1) d_Model_init_256 rfl rfl ?_
      refine j_nmM (fun N4 => ?_)
      refine j_callS2 (pc := 257) d_Model_init_257 (C_Model_pairOf n v2 a1 N4) cS_Model_87 cd_Model_pairOf dn_Model_pairOf rfl (by decide) (Nat.le_of_ble_eq_true rfl) (Nat.le_of_ble_eq_true rfl) nr_I (fun r5 M6 => ?_)
      refine j_iload_n (pc := 260) (q := 1) d_Model_init_260 rfl rfl ?_
      refine j_iast (pc := 261) d_Model_init_261 sm_7 (fun _ => ?_)
      refine j_iinc (pc := 262) (q := 2) d_Model_init_262 rfl (congrArg (v2 + ·) k_i_1) (by decide) rfl ?_
      refine j_goto (pc := 265) (tgt := 235) d_Model_init_265 (by decide) ?_
      refine j_lv [1, 2, 0] rfl ?_
      exact ih (v2 + 1) (si M6 7 (r5.toNatClampNeg) a1)
set_option maxRecDepth 20000 in
set_option maxHeartbeats 4000000 in
theorem X_Model_init_L227_ok {n : Nat} {kx274 : Mem → Option (Unit × Mem)} (hkx274 : ∀ (M : Mem), J (mt_Model_init) wU 274 [(0, Value.ref 0)] [] M (kx274 M)) : ∀ (m : Nat) (v1 : Int32) (M : Mem), J (mt_Model_init) wU 227 [(0, Value.ref 0), (1, Value.int v1)] [] M (X_Model_init_L227 n kx274 m v1 M) := by
  intro m
  induction m with
  | zero => intro _ _; exact j_none
  | succ m ih =>
    intro v1 M
    show J _ _ _ _ _ _ ((if 6 ≤ v1 then
kx274 M
else
X_Model_init_L235 n v1 (fun M7 => X_Model_init_L227 n kx274 m (v1 + 1) M7) n 0 M))
    refine j_iload_n (pc := 227) (q := 1) d_Model_init_227 rfl rfl ?_
    refine j_bipush (pc := 228) d_Model_init_228 k_b_6 ?_
    refine j_icmp_ge (pc := 230) (tgt := 274) d_Model_init_230 (by decide) (fun _ => ?_) (fun _ => ?_)
    · refine j_lv [0] rfl ?_
      exact hkx274 M
    · refine j_iconst (pc := 233) d_Model_init_233 k_i_0 ?_
      refine j_istore_n (pc := 234) d_Model_init_234 rfl (by decide) rfl ?_
      refine j_lv [1, 2, 0] rfl ?_
      refine X_Model_init_L235_ok  (fun M7 => ?_) n 0 M
      refine j_iinc (pc := 268) (q := 1) d_Model_init_268 rfl (congrArg (v1 + ·) k_i_1) (by decide) rfl ?_
      refine j_goto (pc := 271) (tgt := 227) d_Model_init_271 (by decide) ?_
      refine j_lv [1, 0] rfl ?_
      exact ih (v1 + 1) M7
theorem conv_m (M : Mem) (ad : Nat → Nat) (dA : Nat → ClassId) : layC ad dA [(9, [4, 5, 0, 0, 0, 0, 0, 6, 7, 8, 9, 10, 0, 0, 0, 0, 0, 0, 11, 12, 13, 14, 15, 16, 0, 17, 0, 0, 0, 0, 0, 0, 0, 18, 19, 0, 20, 21, 0, 0, 0, 0, 0, 0, 0, 0, 22, 0, 23, 24, 25, 26, 27, 28, 0]), (100, [234]), (102, [2]), (100, [12]), (100, [16]), (100, [8]), (100, [15]), (100, [15]), (100, [12]), (100, [16]), (100, [8]), (100, [60]), (102, [6]), (102, [6]), (100, [320]), (100, [600]), (100, [18]), (100, [4]), (100, [4]), (100, [80]), (103, [1206]), (100, [6]), (100, [6]), (100, [4]), (100, [4]), (100, [160])] M = lay ad dA SHm M := rfl
set_option maxRecDepth 20000 in
set_option maxHeartbeats 4000000 in
theorem CC_Model (n : Nat) (M9 : Mem) (hF : X_Model_init n zM = some ((), M9)) : CtC y_Model_init mtC_Model [Value.ref 0] [(9, [2, 2, 0, 0, 0, 0, 0, 2, 2, 2, 2, 2, 0, 0, 0, 0, 0, 0, 2, 2, 2, 2, 2, 2, 0, 2, 0, 0, 0, 0, 0, 0, 0, 2, 2, 0, 2, 2, 0, 0, 0, 0, 0, 0, 0, 0, 2, 0, 2, 2, 2, 2, 2, 2, 0])] zM (PJ SHm M9) 25 2822 := by
  refine ctc_of (by decide +kernel) rfl rfl (Nat.le_of_ble_eq_true rfl) ?_
  refine c_aload_n (pc := 0) (q := 0) d_Model_init_0 rfl rfl ?_
  refine c_objInit (pc := 1) d_Model_init_1 oi_Model_1 (Nat.le_of_ble_eq_true rfl) (Nat.le_of_ble_eq_true rfl) ?_
  refine c_aload_n (pc := 4) (q := 0) d_Model_init_4 rfl rfl ?_
  refine c_sipush (pc := 5) d_Model_init_5 k_s_234 ?_
  refine c_newaI (pc := 8) (N := 234) (sh8 := [(9, [2, 2, 0, 0, 0, 0, 0, 2, 2, 2, 2, 2, 0, 0, 0, 0, 0, 0, 2, 2, 2, 2, 2, 2, 0, 2, 0, 0, 0, 0, 0, 0, 0, 2, 2, 0, 2, 2, 0, 0, 0, 0, 0, 0, 0, 0, 2, 0, 2, 2, 2, 2, 2, 2, 0]), (100, [234])]) (a9 := 1) d_Model_init_8 (by decide) (by decide) ac_int (Nat.le_of_ble_eq_true rfl) ⟨by funext y; simp [si, zM], by funext y; simp [si, zM]⟩ (Nat.le_of_ble_eq_true rfl) (Nat.le_of_ble_eq_true rfl) (Nat.le_of_ble_eq_true rfl) rfl rfl ?_
  refine c_putR (pc := 10) (sh8 := [(9, [4, 2, 0, 0, 0, 0, 0, 2, 2, 2, 2, 2, 0, 0, 0, 0, 0, 0, 2, 2, 2, 2, 2, 2, 0, 2, 0, 0, 0, 0, 0, 0, 0, 2, 2, 0, 2, 2, 0, 0, 0, 0, 0, 0, 0, 0, 2, 0, 2, 2, 2, 2, 2, 2, 0]), (100, [234])]) d_Model_init_10 fl_Model_7 rfl rfl (by decide) (by decide) (Nat.le_of_ble_eq_true rfl) (fun C T N h => by cases h; rfl) rfl ?_
  refine c_aload_n (pc := 13) (q := 0) d_Model_init_13 rfl rfl ?_
  refine c_iconst (pc := 14) d_Model_init_14 k_i_2 ?_
  refine c_newaZ (pc := 15) (N := 2) (sh8 := [(9, [4, 2, 0, 0, 0, 0, 0, 2, 2, 2, 2, 2, 0, 0, 0, 0, 0, 0, 2, 2, 2, 2, 2, 2, 0, 2, 0, 0, 0, 0, 0, 0, 0, 2, 2, 0, 2, 2, 0, 0, 0, 0, 0, 0, 0, 0, 2, 0, 2, 2, 2, 2, 2, 2, 0]), (100, [234]), (102, [2])]) (a9 := 2) d_Model_init_15 (by decide) (by decide) ac_boolean (Nat.le_of_ble_eq_true rfl) ⟨by funext y; simp [si, zM], by funext y; simp [si, zM]⟩ (Nat.le_of_ble_eq_true rfl) (Nat.le_of_ble_eq_true rfl) (Nat.le_of_ble_eq_true rfl) rfl rfl ?_
  refine c_putR (pc := 17) (sh8 := [(9, [4, 5, 0, 0, 0, 0, 0, 2, 2, 2, 2, 2, 0, 0, 0, 0, 0, 0, 2, 2, 2, 2, 2, 2, 0, 2, 0, 0, 0, 0, 0, 0, 0, 2, 2, 0, 2, 2, 0, 0, 0, 0, 0, 0, 0, 0, 2, 0, 2, 2, 2, 2, 2, 2, 0]), (100, [234]), (102, [2])]) d_Model_init_17 fl_Model_13 rfl rfl (by decide) (by decide) (Nat.le_of_ble_eq_true rfl) (fun C T N h => by cases h; rfl) rfl ?_
  refine c_aload_n (pc := 20) (q := 0) d_Model_init_20 rfl rfl ?_
  refine c_bipush (pc := 21) d_Model_init_21 k_b_12 ?_
  refine c_newaI (pc := 23) (N := 12) (sh8 := [(9, [4, 5, 0, 0, 0, 0, 0, 2, 2, 2, 2, 2, 0, 0, 0, 0, 0, 0, 2, 2, 2, 2, 2, 2, 0, 2, 0, 0, 0, 0, 0, 0, 0, 2, 2, 0, 2, 2, 0, 0, 0, 0, 0, 0, 0, 0, 2, 0, 2, 2, 2, 2, 2, 2, 0]), (100, [234]), (102, [2]), (100, [12])]) (a9 := 3) d_Model_init_23 (by decide) (by decide) ac_int (Nat.le_of_ble_eq_true rfl) ⟨by funext y; simp [si, zM], by funext y; simp [si, zM]⟩ (Nat.le_of_ble_eq_true rfl) (Nat.le_of_ble_eq_true rfl) (Nat.le_of_ble_eq_true rfl) rfl rfl ?_
  refine c_putR (pc := 25) (sh8 := [(9, [4, 5, 0, 0, 0, 0, 0, 6, 2, 2, 2, 2, 0, 0, 0, 0, 0, 0, 2, 2, 2, 2, 2, 2, 0, 2, 0, 0, 0, 0, 0, 0, 0, 2, 2, 0, 2, 2, 0, 0, 0, 0, 0, 0, 0, 0, 2, 0, 2, 2, 2, 2, 2, 2, 0]), (100, [234]), (102, [2]), (100, [12])]) d_Model_init_25 fl_Model_17 rfl rfl (by decide) (by decide) (Nat.le_of_ble_eq_true rfl) (fun C T N h => by cases h; rfl) rfl ?_
  refine c_aload_n (pc := 28) (q := 0) d_Model_init_28 rfl rfl ?_
  refine c_bipush (pc := 29) d_Model_init_29 k_b_16 ?_
  refine c_newaI (pc := 31) (N := 16) (sh8 := [(9, [4, 5, 0, 0, 0, 0, 0, 6, 2, 2, 2, 2, 0, 0, 0, 0, 0, 0, 2, 2, 2, 2, 2, 2, 0, 2, 0, 0, 0, 0, 0, 0, 0, 2, 2, 0, 2, 2, 0, 0, 0, 0, 0, 0, 0, 0, 2, 0, 2, 2, 2, 2, 2, 2, 0]), (100, [234]), (102, [2]), (100, [12]), (100, [16])]) (a9 := 4) d_Model_init_31 (by decide) (by decide) ac_int (Nat.le_of_ble_eq_true rfl) ⟨by funext y; simp [si, zM], by funext y; simp [si, zM]⟩ (Nat.le_of_ble_eq_true rfl) (Nat.le_of_ble_eq_true rfl) (Nat.le_of_ble_eq_true rfl) rfl rfl ?_
  refine c_putR (pc := 33) (sh8 := [(9, [4, 5, 0, 0, 0, 0, 0, 6, 7, 2, 2, 2, 0, 0, 0, 0, 0, 0, 2, 2, 2, 2, 2, 2, 0, 2, 0, 0, 0, 0, 0, 0, 0, 2, 2, 0, 2, 2, 0, 0, 0, 0, 0, 0, 0, 0, 2, 0, 2, 2, 2, 2, 2, 2, 0]), (100, [234]), (102, [2]), (100, [12]), (100, [16])]) d_Model_init_33 fl_Model_20 rfl rfl (by decide) (by decide) (Nat.le_of_ble_eq_true rfl) (fun C T N h => by cases h; rfl) rfl ?_
  refine c_aload_n (pc := 36) (q := 0) d_Model_init_36 rfl rfl ?_
  refine c_bipush (pc := 37) d_Model_init_37 k_b_8 ?_
  refine c_newaI (pc := 39) (N := 8) (sh8 := [(9, [4, 5, 0, 0, 0, 0, 0, 6, 7, 2, 2, 2, 0, 0, 0, 0, 0, 0, 2, 2, 2, 2, 2, 2, 0, 2, 0, 0, 0, 0, 0, 0, 0, 2, 2, 0, 2, 2, 0, 0, 0, 0, 0, 0, 0, 0, 2, 0, 2, 2, 2, 2, 2, 2, 0]), (100, [234]), (102, [2]), (100, [12]), (100, [16]), (100, [8])]) (a9 := 5) d_Model_init_39 (by decide) (by decide) ac_int (Nat.le_of_ble_eq_true rfl) ⟨by funext y; simp [si, zM], by funext y; simp [si, zM]⟩ (Nat.le_of_ble_eq_true rfl) (Nat.le_of_ble_eq_true rfl) (Nat.le_of_ble_eq_true rfl) rfl rfl ?_
  refine c_putR (pc := 41) (sh8 := [(9, [4, 5, 0, 0, 0, 0, 0, 6, 7, 8, 2, 2, 0, 0, 0, 0, 0, 0, 2, 2, 2, 2, 2, 2, 0, 2, 0, 0, 0, 0, 0, 0, 0, 2, 2, 0, 2, 2, 0, 0, 0, 0, 0, 0, 0, 0, 2, 0, 2, 2, 2, 2, 2, 2, 0]), (100, [234]), (102, [2]), (100, [12]), (100, [16]), (100, [8])]) d_Model_init_41 fl_Model_23 rfl rfl (by decide) (by decide) (Nat.le_of_ble_eq_true rfl) (fun C T N h => by cases h; rfl) rfl ?_
  refine c_aload_n (pc := 44) (q := 0) d_Model_init_44 rfl rfl ?_
  refine c_bipush (pc := 45) d_Model_init_45 k_b_15 ?_
  refine c_newaI (pc := 47) (N := 15) (sh8 := [(9, [4, 5, 0, 0, 0, 0, 0, 6, 7, 8, 2, 2, 0, 0, 0, 0, 0, 0, 2, 2, 2, 2, 2, 2, 0, 2, 0, 0, 0, 0, 0, 0, 0, 2, 2, 0, 2, 2, 0, 0, 0, 0, 0, 0, 0, 0, 2, 0, 2, 2, 2, 2, 2, 2, 0]), (100, [234]), (102, [2]), (100, [12]), (100, [16]), (100, [8]), (100, [15])]) (a9 := 6) d_Model_init_47 (by decide) (by decide) ac_int (Nat.le_of_ble_eq_true rfl) ⟨by funext y; simp [si, zM], by funext y; simp [si, zM]⟩ (Nat.le_of_ble_eq_true rfl) (Nat.le_of_ble_eq_true rfl) (Nat.le_of_ble_eq_true rfl) rfl rfl ?_
  refine c_putR (pc := 49) (sh8 := [(9, [4, 5, 0, 0, 0, 0, 0, 6, 7, 8, 9, 2, 0, 0, 0, 0, 0, 0, 2, 2, 2, 2, 2, 2, 0, 2, 0, 0, 0, 0, 0, 0, 0, 2, 2, 0, 2, 2, 0, 0, 0, 0, 0, 0, 0, 0, 2, 0, 2, 2, 2, 2, 2, 2, 0]), (100, [234]), (102, [2]), (100, [12]), (100, [16]), (100, [8]), (100, [15])]) d_Model_init_49 fl_Model_26 rfl rfl (by decide) (by decide) (Nat.le_of_ble_eq_true rfl) (fun C T N h => by cases h; rfl) rfl ?_
  refine c_aload_n (pc := 52) (q := 0) d_Model_init_52 rfl rfl ?_
  refine c_bipush (pc := 53) d_Model_init_53 k_b_15 ?_
  refine c_newaI (pc := 55) (N := 15) (sh8 := [(9, [4, 5, 0, 0, 0, 0, 0, 6, 7, 8, 9, 2, 0, 0, 0, 0, 0, 0, 2, 2, 2, 2, 2, 2, 0, 2, 0, 0, 0, 0, 0, 0, 0, 2, 2, 0, 2, 2, 0, 0, 0, 0, 0, 0, 0, 0, 2, 0, 2, 2, 2, 2, 2, 2, 0]), (100, [234]), (102, [2]), (100, [12]), (100, [16]), (100, [8]), (100, [15]), (100, [15])]) (a9 := 7) d_Model_init_55 (by decide) (by decide) ac_int (Nat.le_of_ble_eq_true rfl) ⟨by funext y; simp [si, zM], by funext y; simp [si, zM]⟩ (Nat.le_of_ble_eq_true rfl) (Nat.le_of_ble_eq_true rfl) (Nat.le_of_ble_eq_true rfl) rfl rfl ?_
  refine c_putR (pc := 57) (sh8 := [(9, [4, 5, 0, 0, 0, 0, 0, 6, 7, 8, 9, 10, 0, 0, 0, 0, 0, 0, 2, 2, 2, 2, 2, 2, 0, 2, 0, 0, 0, 0, 0, 0, 0, 2, 2, 0, 2, 2, 0, 0, 0, 0, 0, 0, 0, 0, 2, 0, 2, 2, 2, 2, 2, 2, 0]), (100, [234]), (102, [2]), (100, [12]), (100, [16]), (100, [8]), (100, [15]), (100, [15])]) d_Model_init_57 fl_Model_29 rfl rfl (by decide) (by decide) (Nat.le_of_ble_eq_true rfl) (fun C T N h => by cases h; rfl) rfl ?_
  refine c_aload_n (pc := 60) (q := 0) d_Model_init_60 rfl rfl ?_
  refine c_bipush (pc := 61) d_Model_init_61 k_b_12 ?_
  refine c_newaI (pc := 63) (N := 12) (sh8 := [(9, [4, 5, 0, 0, 0, 0, 0, 6, 7, 8, 9, 10, 0, 0, 0, 0, 0, 0, 2, 2, 2, 2, 2, 2, 0, 2, 0, 0, 0, 0, 0, 0, 0, 2, 2, 0, 2, 2, 0, 0, 0, 0, 0, 0, 0, 0, 2, 0, 2, 2, 2, 2, 2, 2, 0]), (100, [234]), (102, [2]), (100, [12]), (100, [16]), (100, [8]), (100, [15]), (100, [15]), (100, [12])]) (a9 := 8) d_Model_init_63 (by decide) (by decide) ac_int (Nat.le_of_ble_eq_true rfl) ⟨by funext y; simp [si, zM], by funext y; simp [si, zM]⟩ (Nat.le_of_ble_eq_true rfl) (Nat.le_of_ble_eq_true rfl) (Nat.le_of_ble_eq_true rfl) rfl rfl ?_
  refine c_putR (pc := 65) (sh8 := [(9, [4, 5, 0, 0, 0, 0, 0, 6, 7, 8, 9, 10, 0, 0, 0, 0, 0, 0, 11, 2, 2, 2, 2, 2, 0, 2, 0, 0, 0, 0, 0, 0, 0, 2, 2, 0, 2, 2, 0, 0, 0, 0, 0, 0, 0, 0, 2, 0, 2, 2, 2, 2, 2, 2, 0]), (100, [234]), (102, [2]), (100, [12]), (100, [16]), (100, [8]), (100, [15]), (100, [15]), (100, [12])]) d_Model_init_65 fl_Model_32 rfl rfl (by decide) (by decide) (Nat.le_of_ble_eq_true rfl) (fun C T N h => by cases h; rfl) rfl ?_
  refine c_aload_n (pc := 68) (q := 0) d_Model_init_68 rfl rfl ?_
  refine c_bipush (pc := 69) d_Model_init_69 k_b_16 ?_
  refine c_newaI (pc := 71) (N := 16) (sh8 := [(9, [4, 5, 0, 0, 0, 0, 0, 6, 7, 8, 9, 10, 0, 0, 0, 0, 0, 0, 11, 2, 2, 2, 2, 2, 0, 2, 0, 0, 0, 0, 0, 0, 0, 2, 2, 0, 2, 2, 0, 0, 0, 0, 0, 0, 0, 0, 2, 0, 2, 2, 2, 2, 2, 2, 0]), (100, [234]), (102, [2]), (100, [12]), (100, [16]), (100, [8]), (100, [15]), (100, [15]), (100, [12]), (100, [16])]) (a9 := 9) d_Model_init_71 (by decide) (by decide) ac_int (Nat.le_of_ble_eq_true rfl) ⟨by funext y; simp [si, zM], by funext y; simp [si, zM]⟩ (Nat.le_of_ble_eq_true rfl) (Nat.le_of_ble_eq_true rfl) (Nat.le_of_ble_eq_true rfl) rfl rfl ?_
  refine c_putR (pc := 73) (sh8 := [(9, [4, 5, 0, 0, 0, 0, 0, 6, 7, 8, 9, 10, 0, 0, 0, 0, 0, 0, 11, 12, 2, 2, 2, 2, 0, 2, 0, 0, 0, 0, 0, 0, 0, 2, 2, 0, 2, 2, 0, 0, 0, 0, 0, 0, 0, 0, 2, 0, 2, 2, 2, 2, 2, 2, 0]), (100, [234]), (102, [2]), (100, [12]), (100, [16]), (100, [8]), (100, [15]), (100, [15]), (100, [12]), (100, [16])]) d_Model_init_73 fl_Model_35 rfl rfl (by decide) (by decide) (Nat.le_of_ble_eq_true rfl) (fun C T N h => by cases h; rfl) rfl ?_
  refine c_aload_n (pc := 76) (q := 0) d_Model_init_76 rfl rfl ?_
  refine c_bipush (pc := 77) d_Model_init_77 k_b_8 ?_
  refine c_newaI (pc := 79) (N := 8) (sh8 := [(9, [4, 5, 0, 0, 0, 0, 0, 6, 7, 8, 9, 10, 0, 0, 0, 0, 0, 0, 11, 12, 2, 2, 2, 2, 0, 2, 0, 0, 0, 0, 0, 0, 0, 2, 2, 0, 2, 2, 0, 0, 0, 0, 0, 0, 0, 0, 2, 0, 2, 2, 2, 2, 2, 2, 0]), (100, [234]), (102, [2]), (100, [12]), (100, [16]), (100, [8]), (100, [15]), (100, [15]), (100, [12]), (100, [16]), (100, [8])]) (a9 := 10) d_Model_init_79 (by decide) (by decide) ac_int (Nat.le_of_ble_eq_true rfl) ⟨by funext y; simp [si, zM], by funext y; simp [si, zM]⟩ (Nat.le_of_ble_eq_true rfl) (Nat.le_of_ble_eq_true rfl) (Nat.le_of_ble_eq_true rfl) rfl rfl ?_
  refine c_putR (pc := 81) (sh8 := [(9, [4, 5, 0, 0, 0, 0, 0, 6, 7, 8, 9, 10, 0, 0, 0, 0, 0, 0, 11, 12, 13, 2, 2, 2, 0, 2, 0, 0, 0, 0, 0, 0, 0, 2, 2, 0, 2, 2, 0, 0, 0, 0, 0, 0, 0, 0, 2, 0, 2, 2, 2, 2, 2, 2, 0]), (100, [234]), (102, [2]), (100, [12]), (100, [16]), (100, [8]), (100, [15]), (100, [15]), (100, [12]), (100, [16]), (100, [8])]) d_Model_init_81 fl_Model_38 rfl rfl (by decide) (by decide) (Nat.le_of_ble_eq_true rfl) (fun C T N h => by cases h; rfl) rfl ?_
  refine c_aload_n (pc := 84) (q := 0) d_Model_init_84 rfl rfl ?_
  refine c_bipush (pc := 85) d_Model_init_85 k_b_60 ?_
  refine c_newaI (pc := 87) (N := 60) (sh8 := [(9, [4, 5, 0, 0, 0, 0, 0, 6, 7, 8, 9, 10, 0, 0, 0, 0, 0, 0, 11, 12, 13, 2, 2, 2, 0, 2, 0, 0, 0, 0, 0, 0, 0, 2, 2, 0, 2, 2, 0, 0, 0, 0, 0, 0, 0, 0, 2, 0, 2, 2, 2, 2, 2, 2, 0]), (100, [234]), (102, [2]), (100, [12]), (100, [16]), (100, [8]), (100, [15]), (100, [15]), (100, [12]), (100, [16]), (100, [8]), (100, [60])]) (a9 := 11) d_Model_init_87 (by decide) (by decide) ac_int (Nat.le_of_ble_eq_true rfl) ⟨by funext y; simp [si, zM], by funext y; simp [si, zM]⟩ (Nat.le_of_ble_eq_true rfl) (Nat.le_of_ble_eq_true rfl) (Nat.le_of_ble_eq_true rfl) rfl rfl ?_
  refine c_putR (pc := 89) (sh8 := [(9, [4, 5, 0, 0, 0, 0, 0, 6, 7, 8, 9, 10, 0, 0, 0, 0, 0, 0, 11, 12, 13, 14, 2, 2, 0, 2, 0, 0, 0, 0, 0, 0, 0, 2, 2, 0, 2, 2, 0, 0, 0, 0, 0, 0, 0, 0, 2, 0, 2, 2, 2, 2, 2, 2, 0]), (100, [234]), (102, [2]), (100, [12]), (100, [16]), (100, [8]), (100, [15]), (100, [15]), (100, [12]), (100, [16]), (100, [8]), (100, [60])]) d_Model_init_89 fl_Model_41 rfl rfl (by decide) (by decide) (Nat.le_of_ble_eq_true rfl) (fun C T N h => by cases h; rfl) rfl ?_
  refine c_aload_n (pc := 92) (q := 0) d_Model_init_92 rfl rfl ?_
  refine c_bipush (pc := 93) d_Model_init_93 k_b_6 ?_
  refine c_newaZ (pc := 95) (N := 6) (sh8 := [(9, [4, 5, 0, 0, 0, 0, 0, 6, 7, 8, 9, 10, 0, 0, 0, 0, 0, 0, 11, 12, 13, 14, 2, 2, 0, 2, 0, 0, 0, 0, 0, 0, 0, 2, 2, 0, 2, 2, 0, 0, 0, 0, 0, 0, 0, 0, 2, 0, 2, 2, 2, 2, 2, 2, 0]), (100, [234]), (102, [2]), (100, [12]), (100, [16]), (100, [8]), (100, [15]), (100, [15]), (100, [12]), (100, [16]), (100, [8]), (100, [60]), (102, [6])]) (a9 := 12) d_Model_init_95 (by decide) (by decide) ac_boolean (Nat.le_of_ble_eq_true rfl) ⟨by funext y; simp [si, zM], by funext y; simp [si, zM]⟩ (Nat.le_of_ble_eq_true rfl) (Nat.le_of_ble_eq_true rfl) (Nat.le_of_ble_eq_true rfl) rfl rfl ?_
  refine c_putR (pc := 97) (sh8 := [(9, [4, 5, 0, 0, 0, 0, 0, 6, 7, 8, 9, 10, 0, 0, 0, 0, 0, 0, 11, 12, 13, 14, 15, 2, 0, 2, 0, 0, 0, 0, 0, 0, 0, 2, 2, 0, 2, 2, 0, 0, 0, 0, 0, 0, 0, 0, 2, 0, 2, 2, 2, 2, 2, 2, 0]), (100, [234]), (102, [2]), (100, [12]), (100, [16]), (100, [8]), (100, [15]), (100, [15]), (100, [12]), (100, [16]), (100, [8]), (100, [60]), (102, [6])]) d_Model_init_97 fl_Model_44 rfl rfl (by decide) (by decide) (Nat.le_of_ble_eq_true rfl) (fun C T N h => by cases h; rfl) rfl ?_
  refine c_aload_n (pc := 100) (q := 0) d_Model_init_100 rfl rfl ?_
  refine c_bipush (pc := 101) d_Model_init_101 k_b_6 ?_
  refine c_newaZ (pc := 103) (N := 6) (sh8 := [(9, [4, 5, 0, 0, 0, 0, 0, 6, 7, 8, 9, 10, 0, 0, 0, 0, 0, 0, 11, 12, 13, 14, 15, 2, 0, 2, 0, 0, 0, 0, 0, 0, 0, 2, 2, 0, 2, 2, 0, 0, 0, 0, 0, 0, 0, 0, 2, 0, 2, 2, 2, 2, 2, 2, 0]), (100, [234]), (102, [2]), (100, [12]), (100, [16]), (100, [8]), (100, [15]), (100, [15]), (100, [12]), (100, [16]), (100, [8]), (100, [60]), (102, [6]), (102, [6])]) (a9 := 13) d_Model_init_103 (by decide) (by decide) ac_boolean (Nat.le_of_ble_eq_true rfl) ⟨by funext y; simp [si, zM], by funext y; simp [si, zM]⟩ (Nat.le_of_ble_eq_true rfl) (Nat.le_of_ble_eq_true rfl) (Nat.le_of_ble_eq_true rfl) rfl rfl ?_
  refine c_putR (pc := 105) (sh8 := [(9, [4, 5, 0, 0, 0, 0, 0, 6, 7, 8, 9, 10, 0, 0, 0, 0, 0, 0, 11, 12, 13, 14, 15, 16, 0, 2, 0, 0, 0, 0, 0, 0, 0, 2, 2, 0, 2, 2, 0, 0, 0, 0, 0, 0, 0, 0, 2, 0, 2, 2, 2, 2, 2, 2, 0]), (100, [234]), (102, [2]), (100, [12]), (100, [16]), (100, [8]), (100, [15]), (100, [15]), (100, [12]), (100, [16]), (100, [8]), (100, [60]), (102, [6]), (102, [6])]) d_Model_init_105 fl_Model_47 rfl rfl (by decide) (by decide) (Nat.le_of_ble_eq_true rfl) (fun C T N h => by cases h; rfl) rfl ?_
  refine c_aload_n (pc := 108) (q := 0) d_Model_init_108 rfl rfl ?_
  refine c_sipush (pc := 109) d_Model_init_109 k_s_320 ?_
  refine c_newaI (pc := 112) (N := 320) (sh8 := [(9, [4, 5, 0, 0, 0, 0, 0, 6, 7, 8, 9, 10, 0, 0, 0, 0, 0, 0, 11, 12, 13, 14, 15, 16, 0, 2, 0, 0, 0, 0, 0, 0, 0, 2, 2, 0, 2, 2, 0, 0, 0, 0, 0, 0, 0, 0, 2, 0, 2, 2, 2, 2, 2, 2, 0]), (100, [234]), (102, [2]), (100, [12]), (100, [16]), (100, [8]), (100, [15]), (100, [15]), (100, [12]), (100, [16]), (100, [8]), (100, [60]), (102, [6]), (102, [6]), (100, [320])]) (a9 := 14) d_Model_init_112 (by decide) (by decide) ac_int (Nat.le_of_ble_eq_true rfl) ⟨by funext y; simp [si, zM], by funext y; simp [si, zM]⟩ (Nat.le_of_ble_eq_true rfl) (Nat.le_of_ble_eq_true rfl) (Nat.le_of_ble_eq_true rfl) rfl rfl ?_
  refine c_putR (pc := 114) (sh8 := [(9, [4, 5, 0, 0, 0, 0, 0, 6, 7, 8, 9, 10, 0, 0, 0, 0, 0, 0, 11, 12, 13, 14, 15, 16, 0, 17, 0, 0, 0, 0, 0, 0, 0, 2, 2, 0, 2, 2, 0, 0, 0, 0, 0, 0, 0, 0, 2, 0, 2, 2, 2, 2, 2, 2, 0]), (100, [234]), (102, [2]), (100, [12]), (100, [16]), (100, [8]), (100, [15]), (100, [15]), (100, [12]), (100, [16]), (100, [8]), (100, [60]), (102, [6]), (102, [6]), (100, [320])]) d_Model_init_114 fl_Model_50 rfl rfl (by decide) (by decide) (Nat.le_of_ble_eq_true rfl) (fun C T N h => by cases h; rfl) rfl ?_
  refine c_aload_n (pc := 117) (q := 0) d_Model_init_117 rfl rfl ?_
  refine c_sipush (pc := 118) d_Model_init_118 k_s_600 ?_
  refine c_newaI (pc := 121) (N := 600) (sh8 := [(9, [4, 5, 0, 0, 0, 0, 0, 6, 7, 8, 9, 10, 0, 0, 0, 0, 0, 0, 11, 12, 13, 14, 15, 16, 0, 17, 0, 0, 0, 0, 0, 0, 0, 2, 2, 0, 2, 2, 0, 0, 0, 0, 0, 0, 0, 0, 2, 0, 2, 2, 2, 2, 2, 2, 0]), (100, [234]), (102, [2]), (100, [12]), (100, [16]), (100, [8]), (100, [15]), (100, [15]), (100, [12]), (100, [16]), (100, [8]), (100, [60]), (102, [6]), (102, [6]), (100, [320]), (100, [600])]) (a9 := 15) d_Model_init_121 (by decide) (by decide) ac_int (Nat.le_of_ble_eq_true rfl) ⟨by funext y; simp [si, zM], by funext y; simp [si, zM]⟩ (Nat.le_of_ble_eq_true rfl) (Nat.le_of_ble_eq_true rfl) (Nat.le_of_ble_eq_true rfl) rfl rfl ?_
  refine c_putR (pc := 123) (sh8 := [(9, [4, 5, 0, 0, 0, 0, 0, 6, 7, 8, 9, 10, 0, 0, 0, 0, 0, 0, 11, 12, 13, 14, 15, 16, 0, 17, 0, 0, 0, 0, 0, 0, 0, 18, 2, 0, 2, 2, 0, 0, 0, 0, 0, 0, 0, 0, 2, 0, 2, 2, 2, 2, 2, 2, 0]), (100, [234]), (102, [2]), (100, [12]), (100, [16]), (100, [8]), (100, [15]), (100, [15]), (100, [12]), (100, [16]), (100, [8]), (100, [60]), (102, [6]), (102, [6]), (100, [320]), (100, [600])]) d_Model_init_123 fl_Model_53 rfl rfl (by decide) (by decide) (Nat.le_of_ble_eq_true rfl) (fun C T N h => by cases h; rfl) rfl ?_
  refine c_aload_n (pc := 126) (q := 0) d_Model_init_126 rfl rfl ?_
  refine c_bipush (pc := 127) d_Model_init_127 k_b_18 ?_
  refine c_newaI (pc := 129) (N := 18) (sh8 := [(9, [4, 5, 0, 0, 0, 0, 0, 6, 7, 8, 9, 10, 0, 0, 0, 0, 0, 0, 11, 12, 13, 14, 15, 16, 0, 17, 0, 0, 0, 0, 0, 0, 0, 18, 2, 0, 2, 2, 0, 0, 0, 0, 0, 0, 0, 0, 2, 0, 2, 2, 2, 2, 2, 2, 0]), (100, [234]), (102, [2]), (100, [12]), (100, [16]), (100, [8]), (100, [15]), (100, [15]), (100, [12]), (100, [16]), (100, [8]), (100, [60]), (102, [6]), (102, [6]), (100, [320]), (100, [600]), (100, [18])]) (a9 := 16) d_Model_init_129 (by decide) (by decide) ac_int (Nat.le_of_ble_eq_true rfl) ⟨by funext y; simp [si, zM], by funext y; simp [si, zM]⟩ (Nat.le_of_ble_eq_true rfl) (Nat.le_of_ble_eq_true rfl) (Nat.le_of_ble_eq_true rfl) rfl rfl ?_
  refine c_putR (pc := 131) (sh8 := [(9, [4, 5, 0, 0, 0, 0, 0, 6, 7, 8, 9, 10, 0, 0, 0, 0, 0, 0, 11, 12, 13, 14, 15, 16, 0, 17, 0, 0, 0, 0, 0, 0, 0, 18, 19, 0, 2, 2, 0, 0, 0, 0, 0, 0, 0, 0, 2, 0, 2, 2, 2, 2, 2, 2, 0]), (100, [234]), (102, [2]), (100, [12]), (100, [16]), (100, [8]), (100, [15]), (100, [15]), (100, [12]), (100, [16]), (100, [8]), (100, [60]), (102, [6]), (102, [6]), (100, [320]), (100, [600]), (100, [18])]) d_Model_init_131 fl_Model_56 rfl rfl (by decide) (by decide) (Nat.le_of_ble_eq_true rfl) (fun C T N h => by cases h; rfl) rfl ?_
  refine c_aload_n (pc := 134) (q := 0) d_Model_init_134 rfl rfl ?_
  refine c_iconst (pc := 135) d_Model_init_135 k_i_4 ?_
  refine c_newaI (pc := 136) (N := 4) (sh8 := [(9, [4, 5, 0, 0, 0, 0, 0, 6, 7, 8, 9, 10, 0, 0, 0, 0, 0, 0, 11, 12, 13, 14, 15, 16, 0, 17, 0, 0, 0, 0, 0, 0, 0, 18, 19, 0, 2, 2, 0, 0, 0, 0, 0, 0, 0, 0, 2, 0, 2, 2, 2, 2, 2, 2, 0]), (100, [234]), (102, [2]), (100, [12]), (100, [16]), (100, [8]), (100, [15]), (100, [15]), (100, [12]), (100, [16]), (100, [8]), (100, [60]), (102, [6]), (102, [6]), (100, [320]), (100, [600]), (100, [18]), (100, [4])]) (a9 := 17) d_Model_init_136 (by decide) (by decide) ac_int (Nat.le_of_ble_eq_true rfl) ⟨by funext y; simp [si, zM], by funext y; simp [si, zM]⟩ (Nat.le_of_ble_eq_true rfl) (Nat.le_of_ble_eq_true rfl) (Nat.le_of_ble_eq_true rfl) rfl rfl ?_
  refine c_putR (pc := 138) (sh8 := [(9, [4, 5, 0, 0, 0, 0, 0, 6, 7, 8, 9, 10, 0, 0, 0, 0, 0, 0, 11, 12, 13, 14, 15, 16, 0, 17, 0, 0, 0, 0, 0, 0, 0, 18, 19, 0, 20, 2, 0, 0, 0, 0, 0, 0, 0, 0, 2, 0, 2, 2, 2, 2, 2, 2, 0]), (100, [234]), (102, [2]), (100, [12]), (100, [16]), (100, [8]), (100, [15]), (100, [15]), (100, [12]), (100, [16]), (100, [8]), (100, [60]), (102, [6]), (102, [6]), (100, [320]), (100, [600]), (100, [18]), (100, [4])]) d_Model_init_138 fl_Model_59 rfl rfl (by decide) (by decide) (Nat.le_of_ble_eq_true rfl) (fun C T N h => by cases h; rfl) rfl ?_
  refine c_aload_n (pc := 141) (q := 0) d_Model_init_141 rfl rfl ?_
  refine c_iconst (pc := 142) d_Model_init_142 k_i_4 ?_
  refine c_newaI (pc := 143) (N := 4) (sh8 := [(9, [4, 5, 0, 0, 0, 0, 0, 6, 7, 8, 9, 10, 0, 0, 0, 0, 0, 0, 11, 12, 13, 14, 15, 16, 0, 17, 0, 0, 0, 0, 0, 0, 0, 18, 19, 0, 20, 2, 0, 0, 0, 0, 0, 0, 0, 0, 2, 0, 2, 2, 2, 2, 2, 2, 0]), (100, [234]), (102, [2]), (100, [12]), (100, [16]), (100, [8]), (100, [15]), (100, [15]), (100, [12]), (100, [16]), (100, [8]), (100, [60]), (102, [6]), (102, [6]), (100, [320]), (100, [600]), (100, [18]), (100, [4]), (100, [4])]) (a9 := 18) d_Model_init_143 (by decide) (by decide) ac_int (Nat.le_of_ble_eq_true rfl) ⟨by funext y; simp [si, zM], by funext y; simp [si, zM]⟩ (Nat.le_of_ble_eq_true rfl) (Nat.le_of_ble_eq_true rfl) (Nat.le_of_ble_eq_true rfl) rfl rfl ?_
  refine c_putR (pc := 145) (sh8 := [(9, [4, 5, 0, 0, 0, 0, 0, 6, 7, 8, 9, 10, 0, 0, 0, 0, 0, 0, 11, 12, 13, 14, 15, 16, 0, 17, 0, 0, 0, 0, 0, 0, 0, 18, 19, 0, 20, 21, 0, 0, 0, 0, 0, 0, 0, 0, 2, 0, 2, 2, 2, 2, 2, 2, 0]), (100, [234]), (102, [2]), (100, [12]), (100, [16]), (100, [8]), (100, [15]), (100, [15]), (100, [12]), (100, [16]), (100, [8]), (100, [60]), (102, [6]), (102, [6]), (100, [320]), (100, [600]), (100, [18]), (100, [4]), (100, [4])]) d_Model_init_145 fl_Model_62 rfl rfl (by decide) (by decide) (Nat.le_of_ble_eq_true rfl) (fun C T N h => by cases h; rfl) rfl ?_
  refine c_aload_n (pc := 148) (q := 0) d_Model_init_148 rfl rfl ?_
  refine c_bipush (pc := 149) d_Model_init_149 k_b_80 ?_
  refine c_newaI (pc := 151) (N := 80) (sh8 := [(9, [4, 5, 0, 0, 0, 0, 0, 6, 7, 8, 9, 10, 0, 0, 0, 0, 0, 0, 11, 12, 13, 14, 15, 16, 0, 17, 0, 0, 0, 0, 0, 0, 0, 18, 19, 0, 20, 21, 0, 0, 0, 0, 0, 0, 0, 0, 2, 0, 2, 2, 2, 2, 2, 2, 0]), (100, [234]), (102, [2]), (100, [12]), (100, [16]), (100, [8]), (100, [15]), (100, [15]), (100, [12]), (100, [16]), (100, [8]), (100, [60]), (102, [6]), (102, [6]), (100, [320]), (100, [600]), (100, [18]), (100, [4]), (100, [4]), (100, [80])]) (a9 := 19) d_Model_init_151 (by decide) (by decide) ac_int (Nat.le_of_ble_eq_true rfl) ⟨by funext y; simp [si, zM], by funext y; simp [si, zM]⟩ (Nat.le_of_ble_eq_true rfl) (Nat.le_of_ble_eq_true rfl) (Nat.le_of_ble_eq_true rfl) rfl rfl ?_
  refine c_putR (pc := 153) (sh8 := [(9, [4, 5, 0, 0, 0, 0, 0, 6, 7, 8, 9, 10, 0, 0, 0, 0, 0, 0, 11, 12, 13, 14, 15, 16, 0, 17, 0, 0, 0, 0, 0, 0, 0, 18, 19, 0, 20, 21, 0, 0, 0, 0, 0, 0, 0, 0, 22, 0, 2, 2, 2, 2, 2, 2, 0]), (100, [234]), (102, [2]), (100, [12]), (100, [16]), (100, [8]), (100, [15]), (100, [15]), (100, [12]), (100, [16]), (100, [8]), (100, [60]), (102, [6]), (102, [6]), (100, [320]), (100, [600]), (100, [18]), (100, [4]), (100, [4]), (100, [80])]) d_Model_init_153 fl_Model_65 rfl rfl (by decide) (by decide) (Nat.le_of_ble_eq_true rfl) (fun C T N h => by cases h; rfl) rfl ?_
  refine c_aload_n (pc := 156) (q := 0) d_Model_init_156 rfl rfl ?_
  refine c_sipush (pc := 157) d_Model_init_157 k_s_1206 ?_
  refine c_newaL (pc := 160) (N := 1206) (sh8 := [(9, [4, 5, 0, 0, 0, 0, 0, 6, 7, 8, 9, 10, 0, 0, 0, 0, 0, 0, 11, 12, 13, 14, 15, 16, 0, 17, 0, 0, 0, 0, 0, 0, 0, 18, 19, 0, 20, 21, 0, 0, 0, 0, 0, 0, 0, 0, 22, 0, 2, 2, 2, 2, 2, 2, 0]), (100, [234]), (102, [2]), (100, [12]), (100, [16]), (100, [8]), (100, [15]), (100, [15]), (100, [12]), (100, [16]), (100, [8]), (100, [60]), (102, [6]), (102, [6]), (100, [320]), (100, [600]), (100, [18]), (100, [4]), (100, [4]), (100, [80]), (103, [1206])]) (a9 := 20) d_Model_init_160 (by decide) (by decide) ac_long (Nat.le_of_ble_eq_true rfl) ⟨by funext y; simp [si, zM], by funext y; simp [si, zM]⟩ (Nat.le_of_ble_eq_true rfl) (Nat.le_of_ble_eq_true rfl) (Nat.le_of_ble_eq_true rfl) rfl rfl ?_
  refine c_putR (pc := 162) (sh8 := [(9, [4, 5, 0, 0, 0, 0, 0, 6, 7, 8, 9, 10, 0, 0, 0, 0, 0, 0, 11, 12, 13, 14, 15, 16, 0, 17, 0, 0, 0, 0, 0, 0, 0, 18, 19, 0, 20, 21, 0, 0, 0, 0, 0, 0, 0, 0, 22, 0, 23, 2, 2, 2, 2, 2, 0]), (100, [234]), (102, [2]), (100, [12]), (100, [16]), (100, [8]), (100, [15]), (100, [15]), (100, [12]), (100, [16]), (100, [8]), (100, [60]), (102, [6]), (102, [6]), (100, [320]), (100, [600]), (100, [18]), (100, [4]), (100, [4]), (100, [80]), (103, [1206])]) d_Model_init_162 fl_Model_68 rfl rfl (by decide) (by decide) (Nat.le_of_ble_eq_true rfl) (fun C T N h => by cases h; rfl) rfl ?_
  refine c_aload_n (pc := 165) (q := 0) d_Model_init_165 rfl rfl ?_
  refine c_bipush (pc := 166) d_Model_init_166 k_b_6 ?_
  refine c_newaI (pc := 168) (N := 6) (sh8 := [(9, [4, 5, 0, 0, 0, 0, 0, 6, 7, 8, 9, 10, 0, 0, 0, 0, 0, 0, 11, 12, 13, 14, 15, 16, 0, 17, 0, 0, 0, 0, 0, 0, 0, 18, 19, 0, 20, 21, 0, 0, 0, 0, 0, 0, 0, 0, 22, 0, 23, 2, 2, 2, 2, 2, 0]), (100, [234]), (102, [2]), (100, [12]), (100, [16]), (100, [8]), (100, [15]), (100, [15]), (100, [12]), (100, [16]), (100, [8]), (100, [60]), (102, [6]), (102, [6]), (100, [320]), (100, [600]), (100, [18]), (100, [4]), (100, [4]), (100, [80]), (103, [1206]), (100, [6])]) (a9 := 21) d_Model_init_168 (by decide) (by decide) ac_int (Nat.le_of_ble_eq_true rfl) ⟨by funext y; simp [si, zM], by funext y; simp [si, zM]⟩ (Nat.le_of_ble_eq_true rfl) (Nat.le_of_ble_eq_true rfl) (Nat.le_of_ble_eq_true rfl) rfl rfl ?_
  refine c_putR (pc := 170) (sh8 := [(9, [4, 5, 0, 0, 0, 0, 0, 6, 7, 8, 9, 10, 0, 0, 0, 0, 0, 0, 11, 12, 13, 14, 15, 16, 0, 17, 0, 0, 0, 0, 0, 0, 0, 18, 19, 0, 20, 21, 0, 0, 0, 0, 0, 0, 0, 0, 22, 0, 23, 24, 2, 2, 2, 2, 0]), (100, [234]), (102, [2]), (100, [12]), (100, [16]), (100, [8]), (100, [15]), (100, [15]), (100, [12]), (100, [16]), (100, [8]), (100, [60]), (102, [6]), (102, [6]), (100, [320]), (100, [600]), (100, [18]), (100, [4]), (100, [4]), (100, [80]), (103, [1206]), (100, [6])]) d_Model_init_170 fl_Model_72 rfl rfl (by decide) (by decide) (Nat.le_of_ble_eq_true rfl) (fun C T N h => by cases h; rfl) rfl ?_
  refine c_aload_n (pc := 173) (q := 0) d_Model_init_173 rfl rfl ?_
  refine c_bipush (pc := 174) d_Model_init_174 k_b_6 ?_
  refine c_newaI (pc := 176) (N := 6) (sh8 := [(9, [4, 5, 0, 0, 0, 0, 0, 6, 7, 8, 9, 10, 0, 0, 0, 0, 0, 0, 11, 12, 13, 14, 15, 16, 0, 17, 0, 0, 0, 0, 0, 0, 0, 18, 19, 0, 20, 21, 0, 0, 0, 0, 0, 0, 0, 0, 22, 0, 23, 24, 2, 2, 2, 2, 0]), (100, [234]), (102, [2]), (100, [12]), (100, [16]), (100, [8]), (100, [15]), (100, [15]), (100, [12]), (100, [16]), (100, [8]), (100, [60]), (102, [6]), (102, [6]), (100, [320]), (100, [600]), (100, [18]), (100, [4]), (100, [4]), (100, [80]), (103, [1206]), (100, [6]), (100, [6])]) (a9 := 22) d_Model_init_176 (by decide) (by decide) ac_int (Nat.le_of_ble_eq_true rfl) ⟨by funext y; simp [si, zM], by funext y; simp [si, zM]⟩ (Nat.le_of_ble_eq_true rfl) (Nat.le_of_ble_eq_true rfl) (Nat.le_of_ble_eq_true rfl) rfl rfl ?_
  refine c_putR (pc := 178) (sh8 := [(9, [4, 5, 0, 0, 0, 0, 0, 6, 7, 8, 9, 10, 0, 0, 0, 0, 0, 0, 11, 12, 13, 14, 15, 16, 0, 17, 0, 0, 0, 0, 0, 0, 0, 18, 19, 0, 20, 21, 0, 0, 0, 0, 0, 0, 0, 0, 22, 0, 23, 24, 25, 2, 2, 2, 0]), (100, [234]), (102, [2]), (100, [12]), (100, [16]), (100, [8]), (100, [15]), (100, [15]), (100, [12]), (100, [16]), (100, [8]), (100, [60]), (102, [6]), (102, [6]), (100, [320]), (100, [600]), (100, [18]), (100, [4]), (100, [4]), (100, [80]), (103, [1206]), (100, [6]), (100, [6])]) d_Model_init_178 fl_Model_75 rfl rfl (by decide) (by decide) (Nat.le_of_ble_eq_true rfl) (fun C T N h => by cases h; rfl) rfl ?_
  refine c_aload_n (pc := 181) (q := 0) d_Model_init_181 rfl rfl ?_
  refine c_iconst (pc := 182) d_Model_init_182 k_i_4 ?_
  refine c_newaI (pc := 183) (N := 4) (sh8 := [(9, [4, 5, 0, 0, 0, 0, 0, 6, 7, 8, 9, 10, 0, 0, 0, 0, 0, 0, 11, 12, 13, 14, 15, 16, 0, 17, 0, 0, 0, 0, 0, 0, 0, 18, 19, 0, 20, 21, 0, 0, 0, 0, 0, 0, 0, 0, 22, 0, 23, 24, 25, 2, 2, 2, 0]), (100, [234]), (102, [2]), (100, [12]), (100, [16]), (100, [8]), (100, [15]), (100, [15]), (100, [12]), (100, [16]), (100, [8]), (100, [60]), (102, [6]), (102, [6]), (100, [320]), (100, [600]), (100, [18]), (100, [4]), (100, [4]), (100, [80]), (103, [1206]), (100, [6]), (100, [6]), (100, [4])]) (a9 := 23) d_Model_init_183 (by decide) (by decide) ac_int (Nat.le_of_ble_eq_true rfl) ⟨by funext y; simp [si, zM], by funext y; simp [si, zM]⟩ (Nat.le_of_ble_eq_true rfl) (Nat.le_of_ble_eq_true rfl) (Nat.le_of_ble_eq_true rfl) rfl rfl ?_
  refine c_putR (pc := 185) (sh8 := [(9, [4, 5, 0, 0, 0, 0, 0, 6, 7, 8, 9, 10, 0, 0, 0, 0, 0, 0, 11, 12, 13, 14, 15, 16, 0, 17, 0, 0, 0, 0, 0, 0, 0, 18, 19, 0, 20, 21, 0, 0, 0, 0, 0, 0, 0, 0, 22, 0, 23, 24, 25, 26, 2, 2, 0]), (100, [234]), (102, [2]), (100, [12]), (100, [16]), (100, [8]), (100, [15]), (100, [15]), (100, [12]), (100, [16]), (100, [8]), (100, [60]), (102, [6]), (102, [6]), (100, [320]), (100, [600]), (100, [18]), (100, [4]), (100, [4]), (100, [80]), (103, [1206]), (100, [6]), (100, [6]), (100, [4])]) d_Model_init_185 fl_Model_78 rfl rfl (by decide) (by decide) (Nat.le_of_ble_eq_true rfl) (fun C T N h => by cases h; rfl) rfl ?_
  refine c_aload_n (pc := 188) (q := 0) d_Model_init_188 rfl rfl ?_
  refine c_iconst (pc := 189) d_Model_init_189 k_i_4 ?_
  refine c_newaI (pc := 190) (N := 4) (sh8 := [(9, [4, 5, 0, 0, 0, 0, 0, 6, 7, 8, 9, 10, 0, 0, 0, 0, 0, 0, 11, 12, 13, 14, 15, 16, 0, 17, 0, 0, 0, 0, 0, 0, 0, 18, 19, 0, 20, 21, 0, 0, 0, 0, 0, 0, 0, 0, 22, 0, 23, 24, 25, 26, 2, 2, 0]), (100, [234]), (102, [2]), (100, [12]), (100, [16]), (100, [8]), (100, [15]), (100, [15]), (100, [12]), (100, [16]), (100, [8]), (100, [60]), (102, [6]), (102, [6]), (100, [320]), (100, [600]), (100, [18]), (100, [4]), (100, [4]), (100, [80]), (103, [1206]), (100, [6]), (100, [6]), (100, [4]), (100, [4])]) (a9 := 24) d_Model_init_190 (by decide) (by decide) ac_int (Nat.le_of_ble_eq_true rfl) ⟨by funext y; simp [si, zM], by funext y; simp [si, zM]⟩ (Nat.le_of_ble_eq_true rfl) (Nat.le_of_ble_eq_true rfl) (Nat.le_of_ble_eq_true rfl) rfl rfl ?_
  refine c_putR (pc := 192) (sh8 := [(9, [4, 5, 0, 0, 0, 0, 0, 6, 7, 8, 9, 10, 0, 0, 0, 0, 0, 0, 11, 12, 13, 14, 15, 16, 0, 17, 0, 0, 0, 0, 0, 0, 0, 18, 19, 0, 20, 21, 0, 0, 0, 0, 0, 0, 0, 0, 22, 0, 23, 24, 25, 26, 27, 2, 0]), (100, [234]), (102, [2]), (100, [12]), (100, [16]), (100, [8]), (100, [15]), (100, [15]), (100, [12]), (100, [16]), (100, [8]), (100, [60]), (102, [6]), (102, [6]), (100, [320]), (100, [600]), (100, [18]), (100, [4]), (100, [4]), (100, [80]), (103, [1206]), (100, [6]), (100, [6]), (100, [4]), (100, [4])]) d_Model_init_192 fl_Model_81 rfl rfl (by decide) (by decide) (Nat.le_of_ble_eq_true rfl) (fun C T N h => by cases h; rfl) rfl ?_
  refine c_aload_n (pc := 195) (q := 0) d_Model_init_195 rfl rfl ?_
  refine c_sipush (pc := 196) d_Model_init_196 k_s_160 ?_
  refine c_newaI (pc := 199) (N := 160) (sh8 := [(9, [4, 5, 0, 0, 0, 0, 0, 6, 7, 8, 9, 10, 0, 0, 0, 0, 0, 0, 11, 12, 13, 14, 15, 16, 0, 17, 0, 0, 0, 0, 0, 0, 0, 18, 19, 0, 20, 21, 0, 0, 0, 0, 0, 0, 0, 0, 22, 0, 23, 24, 25, 26, 27, 2, 0]), (100, [234]), (102, [2]), (100, [12]), (100, [16]), (100, [8]), (100, [15]), (100, [15]), (100, [12]), (100, [16]), (100, [8]), (100, [60]), (102, [6]), (102, [6]), (100, [320]), (100, [600]), (100, [18]), (100, [4]), (100, [4]), (100, [80]), (103, [1206]), (100, [6]), (100, [6]), (100, [4]), (100, [4]), (100, [160])]) (a9 := 25) d_Model_init_199 (by decide) (by decide) ac_int (Nat.le_of_ble_eq_true rfl) ⟨by funext y; simp [si, zM], by funext y; simp [si, zM]⟩ (Nat.le_of_ble_eq_true rfl) (Nat.le_of_ble_eq_true rfl) (Nat.le_of_ble_eq_true rfl) rfl rfl ?_
  refine c_putR (pc := 201) (sh8 := [(9, [4, 5, 0, 0, 0, 0, 0, 6, 7, 8, 9, 10, 0, 0, 0, 0, 0, 0, 11, 12, 13, 14, 15, 16, 0, 17, 0, 0, 0, 0, 0, 0, 0, 18, 19, 0, 20, 21, 0, 0, 0, 0, 0, 0, 0, 0, 22, 0, 23, 24, 25, 26, 27, 28, 0]), (100, [234]), (102, [2]), (100, [12]), (100, [16]), (100, [8]), (100, [15]), (100, [15]), (100, [12]), (100, [16]), (100, [8]), (100, [60]), (102, [6]), (102, [6]), (100, [320]), (100, [600]), (100, [18]), (100, [4]), (100, [4]), (100, [80]), (103, [1206]), (100, [6]), (100, [6]), (100, [4]), (100, [4]), (100, [160])]) d_Model_init_201 fl_Model_84 rfl rfl (by decide) (by decide) (Nat.le_of_ble_eq_true rfl) (fun C T N h => by cases h; rfl) rfl ?_
  refine c_toJ (pc := 204) (shJ := SHm) (conv_m _) (Nat.le_of_ble_eq_true rfl) (Nat.le_of_ble_eq_true rfl) (Nat.le_of_ble_eq_true rfl) hF ?_
  show J mt_Model_init _ _ [(0, Value.ref 0)] _ _ _
  unfold X_Model_init
  generalize zM = M
  refine j_iconst (pc := 204) d_Model_init_204 k_i_0 ?_
  refine j_istore_n (pc := 205) d_Model_init_205 rfl (by decide) rfl ?_
  refine j_lv [1, 0] rfl ?_
  refine X_Model_init_L206_ok  (fun M1 => ?_) n 0 M
  refine j_iconst (pc := 225) d_Model_init_225 k_i_1 ?_
  refine j_istore_n (pc := 226) d_Model_init_226 rfl (by decide) rfl ?_
  refine j_lv [1, 0] rfl ?_
  refine X_Model_init_L227_ok  (fun M8 => ?_) n 1 M1
  refine j_aload_n (pc := 274) (q := 0) d_Model_init_274 rfl rfl ?_
  refine j_callV0 (pc := 275) d_Model_init_275 (C_Model_firstDraft n M8) cV_Model_91 cd_Model_firstDraft dn_Model_firstDraft rfl (by decide) (Nat.le_of_ble_eq_true rfl) (Nat.le_of_ble_eq_true rfl) nr_U sm_0 (by decide) rfl (fun r9 M10 => ?_)
  refine j_aload_n (pc := 278) (q := 0) d_Model_init_278 rfl rfl ?_
  refine j_callV0 (pc := 279) d_Model_init_279 (C_Model_keepDraft n M10) cV_Model_94 cd_Model_keepDraft dn_Model_keepDraft rfl (by decide) (Nat.le_of_ble_eq_true rfl) (Nat.le_of_ble_eq_true rfl) nr_U sm_0 (by decide) rfl (fun r11 M12 => ?_)
  exact j_return (pc := 282) d_Model_init_282 rfl
end
