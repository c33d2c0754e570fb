/-! THE CONSTRUCTORS: worlds that grow (ids in the order of making; kinds: 0 int, 1 long, 2 null, r + 3 the object r) -/
abbrev Mc : Type := String × ByteArray × Nat × Nat
def zM : Mem := (fun _ _ => 0, fun _ _ => 0)
def fldC (ad : Nat → Nat) (M : Mem) (a i kd : Nat) : Value := match kd with
  | 0 => .int (M.1 a i)
  | 1 => .long (M.2 a i)
  | 2 => .null
  | r + 3 => .ref (ad r)
def rfC (ad : Nat → Nat) (ds : List Nat) : Nat → Option Nat := fun j => match ds[j]? with
  | some (r + 1) => some (ad r)
  | _ => none
def cellC (ad : Nat → Nat) (dA : Nat → ClassId) (M : Mem) (a : Nat) (q : Nat × List Nat) : va_E :=
  if q.1 < 100 then .inr (q.1, q.2.mapIdx (fun i kd => fldC ad M a i kd))
  else if q.1 < 103 then .inl (dA (q.1 - 100), q.2.headD 0, .inl (M.1 a))
  else if q.1 = 103 then .inl (dA 3, q.2.headD 0, .inr (.inl (M.2 a)))
  else .inl (dA (q.1 - 100), q.2.length, .inr (.inr (.inr (.inr (rfC ad q.2)))))
def layC (ad : Nat → Nat) (dA : Nat → ClassId) (sh : Shp) (M : Mem) : va_W := sh.mapIdx (fun a q => (ad a, cellC ad dA M a q))
def adB (base : Nat) (stt : Nat → Nat) (k : Nat) : Nat := if k < 200 then base + k else stt k
theorem layC_get {ad : Nat → Nat} {dA : Nat → ClassId} {sh : Shp} {M : Mem} {a : Nat} {q : Nat × List Nat} (h : sh[a]? = some q) : (layC ad dA sh M)[a]? = some (ad a, cellC ad dA M a q) := by
  simp [layC, h]
theorem layC_len {ad : Nat → Nat} {dA : Nat → ClassId} {sh : Shp} {M : Mem} : (layC ad dA sh M).length = sh.length := by simp [layC]
theorem layC_app {ad : Nat → Nat} {dA : Nat → ClassId} {sh : Shp} {M : Mem} {q : Nat × List Nat} : layC ad dA (sh ++ [q]) M = layC ad dA sh M ++ [(ad sh.length, cellC ad dA M sh.length q)] := by
  simp [layC, List.mapIdx_append]
theorem layC_D {base : Nat} {stt : Nat → Nat} {dA : Nat → ClassId} {sh : Shp} {M : Mem} (h : sh.length ≤ 200) : va_D (fun q => base ≤ q) (layC (adB base stt) dA sh M) := by
  have key : ∀ (i : Nat) (p : Nat × va_E), (layC (adB base stt) dA sh M)[i]? = some p → i < 200 ∧ p.1 = base + i := by
    intro i p hi
    have hl : i < sh.length := by
      have := (List.getElem?_eq_some_iff.mp hi).1
      rw [layC_len] at this
      exact this
    obtain ⟨q, hq⟩ : ∃ q, sh[i]? = some q := ⟨_, List.getElem?_eq_getElem hl⟩
    rw [layC_get hq] at hi
    cases hi
    refine ⟨by omega, ?_⟩
    show adB base stt i = base + i
    unfold adB
    rw [if_pos (by omega)]
  refine ⟨fun i j p q hi hj he => ?_, fun i p hi => ?_⟩
  · have := key i p hi
    have := key j q hj
    omega
  · have := key i p hi
    show base ≤ p.1
    omega
theorem cellC_off {ad : Nat → Nat} {dA : Nat → ClassId} {M M' : Mem} {a : Nat} {q : Nat × List Nat} (h1 : M'.1 a = M.1 a) (h2 : M'.2 a = M.2 a) : cellC ad dA M' a q = cellC ad dA M a q := by
  have h : q.2.mapIdx (fun i kd => fldC ad M' a i kd) = q.2.mapIdx (fun i kd => fldC ad M a i kd) := by
    congr 1
    funext i kd
    match kd with
    | 0 => simp [fldC, h1]
    | 1 => simp [fldC, h2]
    | 2 => rfl
    | r + 3 => rfl
  unfold cellC
  rw [h, h1, h2]
theorem layC_set {ad : Nat → Nat} {dA : Nat → ClassId} {sh : Shp} {M M' : Mem} {a : Nat} {q : Nat × List Nat} {x : va_E} (hl : a < sh.length) (hx : x = cellC ad dA M' a q) (ho : ∀ j, j ≠ a → M'.1 j = M.1 j ∧ M'.2 j = M.2 j) : (layC ad dA sh M).set a (ad a, x) = layC ad dA (sh.set a q) M' := by
  apply List.ext_getElem?
  intro j
  rw [List.getElem?_set]
  by_cases e : a = j
  · subst e
    rw [if_pos rfl, if_pos (by rw [layC_len]; exact hl), hx, layC_get (by rw [List.getElem?_set, if_pos rfl, if_pos hl])]
  · rw [if_neg e]
    cases hq : sh[j]? with
    | none => simp [layC, hq, List.getElem?_set, e]
    | some q2 => rw [layC_get hq, layC_get (q := q2) (by rw [List.getElem?_set, if_neg e]; exact hq), cellC_off (ho j (fun e2 => e e2.symm)).1 (ho j (fun e2 => e e2.symm)).2]
theorem objC_get {ad : Nat → Nat} {M : Mem} {a k kd : Nat} {ds : List Nat} (h : ds[k]? = some kd) : (ds.mapIdx (fun i kd => fldC ad M a i kd))[k]? = some (fldC ad M a k kd) := by
  simp [h]
theorem objC_set {ad : Nat → Nat} {M M' : Mem} {a k kd : Nat} {ds : List Nat} {v : Value} (hl : k < ds.length) (hv : fldC ad M' a k kd = v) (ho : ∀ j kd2, j ≠ k → fldC ad M' a j kd2 = fldC ad M a j kd2) : (ds.mapIdx (fun i kd => fldC ad M a i kd)).set k v = (ds.set k kd).mapIdx (fun i kd => fldC ad M' a i kd) := by
  apply List.ext_getElem?
  intro j
  rw [List.getElem?_set]
  by_cases e : k = j
  · subst e
    rw [if_pos rfl, if_pos (by rw [List.length_mapIdx]; exact hl), objC_get (kd := kd) (by rw [List.getElem?_set, if_pos rfl, if_pos hl]), hv]
  · rw [if_neg e]
    cases hq : ds[j]? with
    | none => simp [hq, List.getElem?_set, e]
    | some q2 => rw [objC_get hq, objC_get (kd := q2) (by rw [List.getElem?_set, if_neg e]; exact hq), ho j q2 (fun e2 => e e2.symm)]
theorem vpV_fld {ad : Nat → Nat} {M : Mem} {a : Nat} {ds : List Nat} {j kd : Nat} (h : ds[j]? = some kd) : vp_V (ds.mapIdx (fun i kd => fldC ad M a i kd)) j = fldC ad M a j kd := by
  unfold vp_V
  rw [List.getD_eq_getElem?_getD, List.getElem?_mapIdx, h]
  rfl
def nestI : List (String × Nat × MethodName) := [("ShakeHands", 9, y_Tape_init), ("ShakeHands$Teller", 11, y_Circle_init), ("ShakeHands$Circle", 30, y_Row_init), ("ShakeHands$Teller", 24, y_Row_init), ("ShakeHands", 27, y_Circle_init), ("ShakeHands", 34, y_Minds_init), ("ShakeHands", 65, y_Sheet_init)]
theorem idx_b (vm : Vm) (f : Class → Bool) (hf : ∀ x y : Class, x.kind = y.kind → f x = f y) : vm.bare.classes.findIdx? f = vm.classes.findIdx? f := by
  simp only [Vm.bare, Array.findIdx?_map]
  congr 1
  funext x
  exact hf _ _ rfl
def AOA (U : State) : Prop := (Cond.arrayOver (.array .long)).before #[] U = true
theorem AOA.moved {u U : State} (hvm : u.vm.Alike U.vm) (h : AOA u) : AOA U := by
  obtain ⟨comp, c, k, h1, h2, h3, h4, h5⟩ := arrayOverA_spec h
  obtain ⟨k', hk', he⟩ := hvm.2.2 _ _ h3
  have hi := (idx_b u.vm _ (fun x y h => by rw [h])).trans h2
  first | rw [hvm.bare_eq] at hi | rw [← hvm.bare_eq] at hi
  have hi := (idx_b U.vm _ (fun x y h => by rw [h])).symm.trans hi
  have hkind : k'.kind = .array comp (.array .long) := by rw [he]; exact h4
  have f1 : U.vm.findClass (FieldType.array .long).toString = some comp := by rw [hvm.findClass]; exact h1
  have f2 : U.vm.findClass ("[" ++ (FieldType.array .long).toString) = some c := by rw [hvm.findClass]; exact h5
  unfold AOA Cond.before Cond.holds
  simp only [Cond.value]
  rw [f1, Option.bind_some]
  refine (congrArg (fun o : Option Nat => (o.bind (fun c => (U.vm.classes[c]?).map fun (k : Class) => match k.kind with | .array _ ty => decide (ty = FieldType.array .long) && decide (U.vm.findClass ("[" ++ (FieldType.array .long).toString) = some c) | _ => false) == some true)) hi).trans ?_
  simp [hk', hkind, f2]
def KC (D : va_G) (base : Nat) (stt : Nat → Nat) (dA : Nat → ClassId) (U : State) (H : Heap) : Prop := va_K D cl (tysOf dA) U ∧ (∀ q ∈ nestI, va_Nw (.methodLinkNest q.1 q.2.1 q.2.2 "ShakeHands") U) ∧ va_AO "ShakeHands$Minds" U ∧ va_AO "ShakeHands$Sheet" U ∧ AOA U ∧ Cx D (adB base stt) dA (fun q => base ≤ q) U H
theorem KC.next {D : va_G} {base : Nat} {stt : Nat → Nat} {dA : Nat → ClassId} {s U : State} {H : Heap} {locs : List Loc} (h : KC D base stt dA s s.heap) (hS : va_S (fun q => base ≤ q) s.heap H locs) (hW : s.WarmedH U.vm) : KC D base stt dA U H := ⟨va_K.moved hW.alike h.1, fun q hq => va_Nw.warmM hW (h.2.1 q hq), va_AO.moved hW.alike h.2.2.1, va_AO.moved hW.alike h.2.2.2.1, AOA.moved hW.alike h.2.2.2.2.1, h.2.2.2.2.2.next hS hW⟩
theorem KC.blind {D : va_G} {base : Nat} {stt : Nat → Nat} {dA : Nat → ClassId} {U : State} {g : JFrame} {mk : MethodId} {a : Array Value} (h : KC D base stt dA U U.heap) : KC D base stt dA (U.calling g mk a) (U.calling g mk a).heap := ⟨va_K.moved (u := U) (U := U.calling g mk a) (Vm.Alike.refl U.vm) h.1, fun q hq => va_Nw.same (u := U) rfl rfl (h.2.1 q hq), va_AO.moved (u := U) (Vm.Alike.refl U.vm) h.2.2.1, va_AO.moved (u := U) (Vm.Alike.refl U.vm) h.2.2.2.1, AOA.moved (u := U) (Vm.Alike.refl U.vm) h.2.2.2.2.1, h.2.2.2.2.2.blind⟩
def HC (mt : Mc) (p : Program) (s : State) (m : MethodId) (args : Array Value) (meth : Method) (c : Code) (D : va_G) (base : Nat) (stt : Nat → Nat) (dA : Nat → ClassId) : Prop :=
  p.tables.exec = Jvm.exec ∧ c.code = mt.2.1 ∧ meth.sig.returnType = none ∧ c.maxLocals = mt.2.2.1 ∧ s.vm.findClass mt.1 = some m.cls ∧ (∀ w ∈ tbl, w.before args s = true) ∧ meth.locks = false ∧ meth.name = "<init>" ∧ KC D base stt dA s s.heap
abbrev PostT : Type := va_G → Nat → (Nat → Nat) → (Nat → ClassId) → State → Prop
def PC (sh : Shp) (M : Mem) : PostT := fun D base stt dA t => va_P D cl (layC (adB base stt) dA sh M) t.heap ∧ t.heap.size = base + sh.length
def PJ (sh : Shp) (M : Mem) : PostT := fun D base stt dA t => Wd D (adB base stt) dA (fun q => base ≤ q) sh M t.heap
def JC (mt : Mc) (pc : Nat) (lv : List (Nat × Value)) (st : List Value) (sh : Shp) (M : Mem) (k n : Nat) (P9 : PostT) (mc ms : Nat) : Prop :=
  ∀ (p : Program) (l : Launch) (e : Env) (s : State) (m : MethodId) (args : Array Value) (below : List Frame) (meth : Method) (c : Code) (D : va_G) (base : Nat) (stt : Nat → Nat) (dA : Nat → ClassId), HC mt p s m args meth c D base stt dA →
    ∀ (H : Heap) (locs : List Loc) (ls : Array Slot), va_P D cl (layC (adB base stt) dA sh M) H → H.size = base + sh.length → va_S (fun q => base ≤ q) s.heap H locs → base ≤ s.heap.size → lv_has ls mt.2.2.1 (lv.map (rvp (adB base stt))) →
      W p l e (rmc mt.2.2.2 mc ms) s m args below meth c H locs k n (MQ below (Qr none (P9 D base stt dA) (fun q => base ≤ q)) args s mc ms (fun q => base ≤ q)) (F0 m pc ls (st.map (rv (adB base stt))))
def CtC (y : MethodName) (mt : Mc) (as : List Value) (sh : Shp) (M : Mem) (P9 : PostT) (mc ms : Nat) : Prop :=
  ∀ (l : Launch) (D : va_G) (base : Nat) (stt : Nat → Nat) (dA : Nat → ClassId),
    Met l y (.code y mt.2.1 mt.2.2.1 none :: tbl) (rmc mt.2.2.2 mc ms) (va_Pc (as.map (rv (adB base stt))) (fun U => va_P D cl (layC (adB base stt) dA sh M) U.heap ∧ U.heap.size = base + sh.length ∧ KC D base stt dA U U.heap)) (Qr none (P9 D base stt dA) (fun q => base ≤ q)) mc ms (fun q => base ≤ q)
theorem ctc_of {y : MethodName} {mt : Mc} {as : List Value} {sh : Shp} {M : Mem} {P9 : PostT} {mc ms : Nat} (hy : plainName y.cls = true) (hn : y.cls = mt.1) (hni : y.name = "<init>") (hl : (lg_sl as).length ≤ mt.2.2.1) (hJ : JC mt 0 (lv_args 0 as) [] sh M 0 0 P9 mc ms) : CtC y mt as sh M P9 mc ms := by
  intro l D base stt dA
  refine Met.ofW (cc := mt.2.1) (maxL := mt.2.2.1) (ret := none) hy rfl ?_
  intro p e s m args below meth c s₁ B hml hv
  obtain ⟨rfl, hP, hz, hC⟩ := hv
  have hts := atoms_spec (ws := .code y mt.2.1 mt.2.2.1 none :: tbl) B.pre
  have hown : s.vm.findClass y.cls = some m.cls := findClass_of_methodNamed B.named
  have hS : va_S (fun q => base ≤ q) s.heap s.heap [] := va_S.rf
  have hin : meth.name = "<init>" := (name_of_methodNamed B.named B.method).1.trans hni
  have hls := lv_entry (as.map (rv (adB base stt))) (n := mt.2.2.1) (by rw [lvp_sl]; exact hl)
  rw [lg_entry_eq]
  rw [lvp_args] at hls
  exact hJ p l e s m _ below meth c D base stt dA ⟨B.exec, B.bytes, B.returns, hml, by rw [← hn]; exact hown, fun w h => hts w (List.mem_cons_of_mem _ h), B.notSynchronized, hin, hC⟩ s.heap [] _ hP hz hS (by omega) hls
section WCC
variable {p : Program} {l : Launch} {e : Env} {R : Room} {s : State} {m : MethodId} {args : Array Value} {below : List Frame} {meth : Method} {c : Code} {H : Heap} {locs : List Loc} {cells slots mc ms : Nat} {Q : State → Prop} {pc : Nat} {ls : Array Slot} {rest st0 : List Value} {a : Array Value} {A : Nat → Prop}
theorem wr_callC {wv : Option Value} {Post : State → Prop} (hr : va_Run p l e R s m args below meth c H locs cells slots mc ms (F0 m pc ls st0) rest (Qr wv Post A a) A) (hS : va_S A s.heap H locs)
    (kk : ∀ (t : State) (H1 : Heap) (locs1 : List Loc), t.heap = H1 → Post t → va_S A s.heap H1 locs1 → W p l e R s m args below meth c H1 locs1 (cells + mc) (slots + ms) Q (F0 m (pc + 3) ls (wv.toList ++ rest))) : W p l e R s m args below meth c H locs cells slots Q (F0 m pc ls st0) := by
  intro T hT X
  obtain ⟨v, st₀, t, T', L, h0, X', hL, e1, e2, ⟨hv, hp, hz, hk⟩, st⟩ := hr T hT X
  cases hv
  rw [h0] at hz hk
  obtain ⟨t2, a1, b1⟩ := kk t T'.heap (locs ++ L) e1.symm hp
    ⟨Nat.le_trans hS.1 (by rw [e1]; exact hz), fun q h1 h2 => by rw [e1, hk q (Nat.lt_of_lt_of_le h1 hS.1) h2]; exact hS.2.1 q h1 h2, fun q hq => by
      rcases List.mem_append.mp hq with h | h
      · exact hS.2.2 q h
      · exact hL q h⟩ T' rfl X'
  exact ⟨t2, st t2 a1, b1⟩
end WCC
theorem oi_im : Cond.instanceMethod objectInit ∈ tbl := tb_1 24 (by decide +kernel) rfl
theorem oi_cd : Cond.code objectInit ⟨#[0xb1]⟩ 1 none ∈ tbl := tb_1 25 (by decide +kernel) rfl
abbrev va_E_inl (c : ClassId) (n : Nat) (f : (Nat → Int32) ⊕ (Nat → Int64) ⊕ (Nat → UInt32) ⊕ (Nat → UInt64) ⊕ (Nat → Option Nat)) : va_E := .inl (c, n, f)
theorem c_dup {mt : Mc} {pc : Nat} {lv : List (Nat × Value)} {st : List Value} {sh : Shp} {M : Mem} {P9 : PostT} {k n mc ms : Nat} {v : Value} (hd : decode mt.2.1 pc = .ok (.dup, 1)) (hv : v.category = 1) (K : JC mt (pc + 1) lv (v :: v :: st) sh M k n P9 mc ms) : JC mt pc lv (v :: st) sh M k n P9 mc ms := by
  intro p l e s m args below meth c D base stt dA hp H locs ls hP hz hS hbs hl
  obtain ⟨hx, hb, hr, hml, hown, hts, hlk, hin, hK, hNi, hOM, hOS, hOL, hCx⟩ := id hp
  exact lv_dup hx hb hd ((rv_cat _ v).trans hv) (K p l e s m args below meth c D base stt dA hp H locs ls hP hz hS hbs hl)
theorem c_iconst {mt : Mc} {pc : Nat} {lv : List (Nat × Value)} {st : List Value} {sh : Shp} {M : Mem} {P9 : PostT} {k n mc ms : Nat} {i : Int} {v : Int32} (hd : decode mt.2.1 pc = .ok (.iconst i, 1)) (hv : Int32.ofInt i = v) (K : JC mt (pc + 1) lv (.int v :: st) sh M k n P9 mc ms) : JC mt pc lv st sh M k n P9 mc ms := by
  intro p l e s m args below meth c D base stt dA hp H locs ls hP hz hS hbs hl
  obtain ⟨hx, hb, hr, hml, hown, hts, hlk, hin, hK, hNi, hOM, hOS, hOL, hCx⟩ := id hp
  exact lv_iconst hx hb hd hv (K p l e s m args below meth c D base stt dA hp H locs ls hP hz hS hbs hl)
theorem c_bipush {mt : Mc} {pc : Nat} {lv : List (Nat × Value)} {st : List Value} {sh : Shp} {M : Mem} {P9 : PostT} {k n mc ms : Nat} {i : Int} {v : Int32} (hd : decode mt.2.1 pc = .ok (.bipush i, 2)) (hv : (Int8.ofInt i).toInt32 = v) (K : JC mt (pc + 2) lv (.int v :: st) sh M k n P9 mc ms) : JC mt pc lv st sh M k n P9 mc ms := by
  intro p l e s m args below meth c D base stt dA hp H locs ls hP hz hS hbs hl
  obtain ⟨hx, hb, hr, hml, hown, hts, hlk, hin, hK, hNi, hOM, hOS, hOL, hCx⟩ := id hp
  exact lv_bipush hx hb hd hv (K p l e s m args below meth c D base stt dA hp H locs ls hP hz hS hbs hl)
theorem c_sipush {mt : Mc} {pc : Nat} {lv : List (Nat × Value)} {st : List Value} {sh : Shp} {M : Mem} {P9 : PostT} {k n mc ms : Nat} {i : Int} {v : Int32} (hd : decode mt.2.1 pc = .ok (.sipush i, 3)) (hv : (Int16.ofInt i).toInt32 = v) (K : JC mt (pc + 3) lv (.int v :: st) sh M k n P9 mc ms) : JC mt pc lv st sh M k n P9 mc ms := by
  intro p l e s m args below meth c D base stt dA hp H locs ls hP hz hS hbs hl
  obtain ⟨hx, hb, hr, hml, hown, hts, hlk, hin, hK, hNi, hOM, hOS, hOL, hCx⟩ := id hp
  exact lv_sipush hx hb hd hv (K p l e s m args below meth c D base stt dA hp H locs ls hP hz hS hbs hl)
theorem c_iload_n {mt : Mc} {pc : Nat} {lv : List (Nat × Value)} {st : List Value} {sh : Shp} {M : Mem} {P9 : PostT} {k n mc ms : Nat} {j : Fin 4} {i q : Nat} {x : Int32} (hd : decode mt.2.1 pc = .ok (.iload_n j, 1)) (hi : (j : Nat) = i) (hq : lv[q]? = some (i, .int x)) (K : JC mt (pc + 1) lv (.int x :: st) sh M k n P9 mc ms) : JC mt pc lv st sh M k n P9 mc ms := by
  intro p l e s m args below meth c D base stt dA hp H locs ls hP hz hS hbs hl
  obtain ⟨hx, hb, hr, hml, hown, hts, hlk, hin, hK, hNi, hOM, hOS, hOL, hCx⟩ := id hp
  exact lv_iload_n hx hb hd hi (lv_at hl q (lvp_get hq)) (K p l e s m args below meth c D base stt dA hp H locs ls hP hz hS hbs hl)
theorem c_aload_n {mt : Mc} {pc : Nat} {lv : List (Nat × Value)} {st : List Value} {sh : Shp} {M : Mem} {P9 : PostT} {k n mc ms : Nat} {j : Fin 4} {i q : Nat} {x : Nat} (hd : decode mt.2.1 pc = .ok (.aload_n j, 1)) (hi : (j : Nat) = i) (hq : lv[q]? = some (i, .ref x)) (K : JC mt (pc + 1) lv (.ref x :: st) sh M k n P9 mc ms) : JC mt pc lv st sh M k n P9 mc ms := by
  intro p l e s m args below meth c D base stt dA hp H locs ls hP hz hS hbs hl
  obtain ⟨hx, hb, hr, hml, hown, hts, hlk, hin, hK, hNi, hOM, hOS, hOL, hCx⟩ := id hp
  exact lv_aload_n hx hb hd hi (lv_at hl q (lvp_get hq)) (K p l e s m args below meth c D base stt dA hp H locs ls hP hz hS hbs hl)
theorem c_istore_n {mt : Mc} {pc : Nat} {lv : List (Nat × Value)} {st : List Value} {sh : Shp} {M : Mem} {P9 : PostT} {k n mc ms : Nat} {j : Fin 4} {i : Nat} {x : Int32} {lv' : List (Nat × Value)} (hd : decode mt.2.1 pc = .ok (.istore_n j, 1)) (hi : (j : Nat) = i) (hn : i < mt.2.2.1) (h : (i, Value.int x) :: lv.filter (fun q => !(q.1 == i) && !(q.1 + 1 == i && q.2.category == 2)) = lv') (K : JC mt (pc + 1) lv' st sh M k n P9 mc ms) : JC mt pc lv (.int x :: st) sh M k n P9 mc ms := by
  intro p l e s m args below meth c D base stt dA hp H locs ls hP hz hS hbs hl
  obtain ⟨hx, hb, hr, hml, hown, hts, hlk, hin, hK, hNi, hOM, hOS, hOL, hCx⟩ := id hp
  exact lv_istore_n hx hb hd hi hl hn (lvp_filter h) (fun ls2 hl2 => K p l e s m args below meth c D base stt dA hp H locs ls2 hP hz hS hbs hl2)
theorem c_iinc {mt : Mc} {pc : Nat} {lv : List (Nat × Value)} {st : List Value} {sh : Shp} {M : Mem} {P9 : PostT} {k n mc ms : Nat} {i q : Nat} {a : Int} {x v : Int32} {lv' : List (Nat × Value)} (hd : decode mt.2.1 pc = .ok (.iinc i a, 3)) (hq : lv[q]? = some (i, .int x)) (hv : x + Int32.ofInt a = v) (hn : i < mt.2.2.1) (h : (i, Value.int v) :: lv.filter (fun q => !(q.1 == i) && !(q.1 + 1 == i && q.2.category == 2)) = lv') (K : JC mt (pc + 3) lv' st sh M k n P9 mc ms) : JC mt pc lv st sh M k n P9 mc ms := by
  intro p l e s m args below meth c D base stt dA hp H locs ls hP hz hS hbs hl
  obtain ⟨hx, hb, hr, hml, hown, hts, hlk, hin, hK, hNi, hOM, hOS, hOL, hCx⟩ := id hp
  exact lv_iinc hx hb hd hl (lvp_get hq) hv hn (lvp_filter h) (fun ls2 hl2 => K p l e s m args below meth c D base stt dA hp H locs ls2 hP hz hS hbs hl2)
theorem c_goto {mt : Mc} {pc : Nat} {lv : List (Nat × Value)} {st : List Value} {sh : Shp} {M : Mem} {P9 : PostT} {k n mc ms : Nat} {off : Int} {tgt : Nat} (hd : decode mt.2.1 pc = .ok (.goto off, 3)) (ht : (pc : Int) + off = (tgt : Int)) (K : JC mt tgt lv st sh M k n P9 mc ms) : JC mt pc lv st sh M k n P9 mc ms := by
  intro p l e s m args below meth c D base stt dA hp H locs ls hP hz hS hbs hl
  obtain ⟨hx, hb, hr, hml, hown, hts, hlk, hin, hK, hNi, hOM, hOS, hOL, hCx⟩ := id hp
  exact lv_goto hx hb hd ht (K p l e s m args below meth c D base stt dA hp H locs ls hP hz hS hbs hl)
theorem c_ge_t {mt : Mc} {pc : Nat} {lv : List (Nat × Value)} {st : List Value} {sh : Shp} {M : Mem} {P9 : PostT} {k n mc ms : Nat} {x y : Int32} {off : Int} {tgt : Nat} (hd : decode mt.2.1 pc = .ok (.if_icmp .ge off, 3)) (ht : (pc : Int) + off = (tgt : Int)) (hc : y ≤ x) (K : JC mt tgt lv st sh M k n P9 mc ms) : JC mt pc lv (.int y :: .int x :: st) sh M k n P9 mc ms := by
  intro p l e s m args below meth c D base stt dA hp H locs ls hP hz hS hbs hl
  obtain ⟨hx, hb, hr, hml, hown, hts, hlk, hin, hK, hNi, hOM, hOS, hOL, hCx⟩ := id hp
  exact lv_icmp_ge hx hb hd ht (fun _ => (K p l e s m args below meth c D base stt dA hp H locs ls hP hz hS hbs hl)) (fun h => absurd hc h)
theorem c_ge_f {mt : Mc} {pc : Nat} {lv : List (Nat × Value)} {st : List Value} {sh : Shp} {M : Mem} {P9 : PostT} {k n mc ms : Nat} {x y : Int32} {off : Int} {tgt : Nat} (hd : decode mt.2.1 pc = .ok (.if_icmp .ge off, 3)) (ht : (pc : Int) + off = (tgt : Int)) (hc : ¬ y ≤ x) (K : JC mt (pc + 3) lv st sh M k n P9 mc ms) : JC mt pc lv (.int y :: .int x :: st) sh M k n P9 mc ms := by
  intro p l e s m args below meth c D base stt dA hp H locs ls hP hz hS hbs hl
  obtain ⟨hx, hb, hr, hml, hown, hts, hlk, hin, hK, hNi, hOM, hOS, hOL, hCx⟩ := id hp
  exact lv_icmp_ge hx hb hd ht (fun h => absurd h hc) (fun _ => (K p l e s m args below meth c D base stt dA hp H locs ls hP hz hS hbs hl))
theorem c_objInit {mt : Mc} {pc : Nat} {lv : List (Nat × Value)} {st : List Value} {sh : Shp} {M : Mem} {P9 : PostT} {k n mc ms : Nat} {a i : Nat} (hd : decode mt.2.1 pc = .ok (.invokespecial i, 3)) (hw : Cond.methodLink mt.1 i objectInit ∈ tbl) (hdp : 1 ≤ mt.2.2.2) (hst : (st.map fun v => v.category).sum ≤ 8) (K : JC mt (pc + 3) lv st sh M k n P9 mc ms) : JC mt pc lv (.ref a :: st) sh M k n P9 mc ms := by
  intro p l e s m args below meth c D base stt dA hp H locs ls hP hz hS hbs hl
  obtain ⟨hx, hb, hr, hml, hown, hts, hlk, hin, hK, hNi, hOM, hOS, hOL, hCx⟩ := id hp
  refine W.objInit hx hb hown (hts _ hw) (hts _ oi_im) (hts _ oi_cd) rfl (hl.1.trans hml.symm) rfl hd hdp ?_ (K p l e s m args below meth c D base stt dA hp H locs ls hP hz hS hbs hl)
  have : ((st.map (rv (adB base stt))).map fun v => v.category).sum ≤ 8 := by rw [rv_cats]; exact hst
  show 2 * 0 + _ + 12 ≤ 64 * mt.2.2.2
  omega
theorem c_getA {mt : Mc} {pc : Nat} {lv : List (Nat × Value)} {st : List Value} {sh : Shp} {M : Mem} {P9 : PostT} {k n mc ms : Nat} {a b ci f idx : Nat} {ds : List Nat} {ty : FieldType} {fin : Bool} (hd : decode mt.2.1 pc = .ok (.getfield idx, 3)) (hf : Fl mt.1 idx ci f ty fin) (hs : sh[a]? = some (ci, ds)) (hc : ci < 100) (hk : ds[f]? = some (b + 3)) (K : JC mt (pc + 3) lv (.ref b :: st) sh M k n P9 mc ms) : JC mt pc lv (.ref a :: st) sh M k n P9 mc ms := by
  intro p l e s m args below meth c D base stt dA hp H locs ls hP hz hS hbs hl
  obtain ⟨hx, hb, hr, hml, hown, hts, hlk, hin, hK, hNi, hOM, hOS, hOL, hCx⟩ := id hp
  obtain ⟨C, T, N, ty0, e1, e2, e3, e4, e5, e6, e7, e8, e9⟩ := hf
  have he : (layC (adB base stt) dA sh M)[a]? = some (adB base stt a, .inr (ci, ds.mapIdx (fun i kd => fldC (adB base stt) M a i kd))) := by rw [layC_get hs]; simp [cellC, hc]
  exact va_get (D := (D.1, D.2)) hx hb hts e3 hown hK hP a he e1 f e2 (hts _ e4) (fun x h => by rw [e5] at h; exact h) (objC_get hk) hd (K p l e s m args below meth c D base stt dA hp H locs ls hP hz hS hbs hl)
theorem c_putR {mt : Mc} {pc : Nat} {lv : List (Nat × Value)} {st : List Value} {sh : Shp} {M : Mem} {P9 : PostT} {k n mc ms : Nat} {a b ci f idx : Nat} {ds : List Nat} {ty : FieldType} (hd : decode mt.2.1 pc = .ok (.putfield idx, 3)) (hf : Fl mt.1 idx ci f ty true) (hnf : ty.isReference = true) (hs : sh[a]? = some (ci, ds)) (hc : ci < 100) (hkl : f < ds.length) (h200 : sh.length ≤ 200) (hcn : ∀ (C : String) (T : u_T) (N : Nat), cl[ci]? = some (C, T, N) → (T f).1 = mt.1) {sh8 : Shp} (hs8 : sh.set a (ci, ds.set f (b + 3)) = sh8) (K : JC mt (pc + 3) lv st sh8 M k n P9 mc ms) : JC mt pc lv (.ref b :: .ref a :: st) sh M k n P9 mc ms := by
  subst hs8
  intro p l e s m args below meth c D base stt dA hp H locs ls hP hz hS hbs hl
  obtain ⟨hx, hb, hr, hml, hown, hts, hlk, hin, hK, hNi, hOM, hOS, hOL, hCx⟩ := id hp
  obtain ⟨C, T, N, ty0, e1, e2, e3, e4, e5, e6, e7, e8, e9⟩ := hf
  have he : (layC (adB base stt) dA sh M)[a]? = some (adB base stt a, .inr (ci, ds.mapIdx (fun i kd => fldC (adB base stt) M a i kd))) := by rw [layC_get hs]; simp [cellC, hc]
  have hD := layC_D (base := base) (stt := stt) (dA := dA) (sh := sh) (M := M) h200
  have hl9 : a < sh.length := (List.getElem?_eq_some_iff.mp hs).1
  have hset : (layC (adB base stt) dA sh M).set a (adB base stt a, .inr (ci, (ds.mapIdx (fun i kd => fldC (adB base stt) M a i kd)).set f (.ref (adB base stt b)))) = layC (adB base stt) dA (sh.set a (ci, ds.set f (b + 3))) M := by
    refine layC_set hl9 ?_ (fun j hj => ⟨rfl, rfl⟩)
    rw [objC_set (M' := M) (v := .ref (adB base stt b)) (kd := b + 3) hkl rfl (fun j kd2 hj => rfl)]
    simp [cellC, hc]
  have hap := va_apart (own := mt.1) hts e3 ty0 e6 e7 hK e1
  obtain ⟨r, g1, cell, q1, q2, q3, q4⟩ := hP a _ he
  have hr9 : r = (C, T, N) := Option.some.inj (g1.symm.trans e1)
  subst hr9
  obtain ⟨hSl, hfc, kC, hkC, hkind⟩ := hK.1 ci _ e1
  obtain ⟨cf, kf, fi, fd, hi, hsl⟩ := hSl f e2
  have hlay := hts _ (e3 _ (u_in_lay e2))
  unfold u_lay at hlay
  rw [if_pos e9] at hlay
  have hst := (u_facts hfc hkC (u_lays hts e3 e2) hi).1
  have hcf : m.cls = cf := by
    obtain ⟨_, _, c', _, _, _, -, -, hf', -, -, -, hown2, -⟩ := Cond.laysFinal_spec hlay
    have z1 : c' = cf := by have := hi.symm.trans hf'; simp at this; exact this.1.symm
    rw [hcn _ _ _ e1] at hown2
    rw [← z1]; exact Option.some.inj (hown.symm.trans hown2)
  have hn9 : narrow ty (.ref (adB base stt b)) = .ref (adB base stt b) := by cases ty <;> rfl
  have hf9 : fits ty (.ref (adB base stt b)) = true := by cases ty <;> first | rfl | (simp [FieldType.isReference] at hnf)
  have h6 := u_fits hfc hkC hkind (Or.inr hlay) hi e8 hn9 hf9
  have hsame : s.fieldFound? C (T f).2.1 (T f).2.2.1 = some (cf, kf, fi, fd) := by rw [e5] at hi; exact hi
  refine W.putFinK hx hb hown (hts _ e4) hsame hst hcf hin (by rw [q2]; exact h6) q1 q3 (by rw [hsl]; exact k2_hasslot (q4 f e2)) rfl rfl hd fun H' x1 x2 x3 => ?_
  rw [hsl] at x1 ⊢
  have hP1 : va_P D cl ((layC (adB base stt) dA sh M).set a (adB base stt a, .inr (ci, (ds.mapIdx (fun i kd => fldC (adB base stt) M a i kd)).set f (.ref (adB base stt b))))) H' := hP.set hD he ⟨_, e1, t_OB.to (V := updV (vp_V _) f (.ref (adB base stt b))) ⟨_, x1, q2, q3, t_set q4 hap e2 (.ref (adB base stt b))⟩ (fun j _ => vp_updV_set (by rw [List.length_mapIdx]; exact hkl) (.ref (adB base stt b)) j)⟩ x3
  rw [hset] at hP1
  exact K p l e s m args below meth c D base stt dA hp H' _ ls hP1 (by rw [x2, hz, List.length_set]) (hS.put x2 x3 (hD.2 a _ he)) hbs hl
theorem c_putI {mt : Mc} {pc : Nat} {lv : List (Nat × Value)} {st : List Value} {sh : Shp} {M : Mem} {P9 : PostT} {k n mc ms : Nat} {a ci f idx : Nat} {ds : List Nat} {v : Int32} (hd : decode mt.2.1 pc = .ok (.putfield idx, 3)) (hf : Fl mt.1 idx ci f .int false) (hs : sh[a]? = some (ci, ds)) (hc : ci < 100) (hkl : f < ds.length) (hk0 : ds[f]? = some 0) (h200 : sh.length ≤ 200) (K : JC mt (pc + 3) lv st sh (si M a f v) k n P9 mc ms) : JC mt pc lv (.int v :: .ref a :: st) sh M k n P9 mc ms := by
  intro p l e s m args below meth c D base stt dA hp H locs ls hP hz hS hbs hl
  obtain ⟨hx, hb, hr, hml, hown, hts, hlk, hin, hK, hNi, hOM, hOS, hOL, hCx⟩ := id hp
  obtain ⟨C, T, N, ty0, e1, e2, e3, e4, e5, e6, e7, e8, e9⟩ := hf
  have he : (layC (adB base stt) dA sh M)[a]? = some (adB base stt a, .inr (ci, ds.mapIdx (fun i kd => fldC (adB base stt) M a i kd))) := by rw [layC_get hs]; simp [cellC, hc]
  have hD := layC_D (base := base) (stt := stt) (dA := dA) (sh := sh) (M := M) h200
  have hl9 : a < sh.length := (List.getElem?_eq_some_iff.mp hs).1
  have hset : (layC (adB base stt) dA sh M).set a (adB base stt a, .inr (ci, (ds.mapIdx (fun i kd => fldC (adB base stt) M a i kd)).set f (.int v))) = layC (adB base stt) dA sh (si M a f v) := by
    have e0 : sh.set a (ci, ds.set f 0) = sh := by
      apply List.ext_getElem?
      intro j
      rw [List.getElem?_set]
      by_cases e : a = j
      · subst e
        rw [if_pos rfl, if_pos hl9, hs]
        congr 2
        apply List.ext_getElem?
        intro i
        rw [List.getElem?_set]
        by_cases e : f = i
        · subst e
          rw [if_pos rfl, if_pos hkl, hk0]
        · rw [if_neg e]
      · rw [if_neg e]
    have h := layC_set (ad := adB base stt) (dA := dA) (sh := sh) (M := M) (M' := si M a f v) (q := (ci, ds.set f 0)) hl9 (x := .inr (ci, (ds.mapIdx (fun i kd => fldC (adB base stt) M a i kd)).set f (.int v))) ?_ (fun j hj => si_off hj)
    · rw [e0] at h
      exact h
    rw [objC_set (M' := si M a f v) (kd := 0) hkl (by simp [fldC, si]) (fun j kd2 hj => by
      match kd2 with
      | 0 => simp [fldC, si, hj]
      | 1 => simp [fldC, si]
      | 2 => rfl
      | r + 3 => rfl)]
    simp [cellC, hc]
  have hap := va_apart (own := mt.1) hts e3 ty0 e6 e7 hK e1
  obtain ⟨r, g1, cell, q1, q2, q3, q4⟩ := hP a _ he
  have hr9 : r = (C, T, N) := Option.some.inj (g1.symm.trans e1)
  subst hr9
  obtain ⟨hSl, hfc, kC, hkC, hkind⟩ := hK.1 ci _ e1
  obtain ⟨cf, kf, fi, fd, hi, hsl⟩ := hSl f e2
  have hlay := hts _ (e3 _ (u_in_lay e2))
  unfold u_lay at hlay
  rw [if_neg (by rw [e9]; decide)] at hlay
  have hst := (u_facts hfc hkC (u_lays hts e3 e2) hi).1
  have h6 := u_store hfc hkC hkind hlay hi e8 (show narrow .int (.int v) = .int v from rfl) rfl
  have hsame : s.fieldFound? C (T f).2.1 (T f).2.2.1 = some (cf, kf, fi, fd) := by rw [e5] at hi; exact hi
  refine W.putK hx hb (f := fd) ⟨hown, hts _ e4, ⟨_, _, _, hsame⟩, hst⟩ (by rw [q2]; exact h6) q1 q3 (by rw [hsl]; exact k2_hasslot (q4 f e2)) rfl rfl hd fun H' x1 x2 x3 => ?_
  rw [hsl] at x1 ⊢
  have hP1 : va_P D cl ((layC (adB base stt) dA sh M).set a (adB base stt a, .inr (ci, (ds.mapIdx (fun i kd => fldC (adB base stt) M a i kd)).set f (.int v)))) H' := hP.set hD he ⟨_, e1, t_OB.to (V := updV (vp_V _) f (.int v)) ⟨_, x1, q2, q3, t_set q4 hap e2 (.int v)⟩ (fun j _ => vp_updV_set (by rw [List.length_mapIdx]; exact hkl) (.int v) j)⟩ x3
  rw [hset] at hP1
  exact K p l e s m args below meth c D base stt dA hp H' _ ls hP1 (by rw [x2, hz]) (hS.put x2 x3 (hD.2 a _ he)) hbs hl
theorem c_new {mt : Mc} {pc : Nat} {lv : List (Nat × Value)} {st : List Value} {sh : Shp} {M : Mem} {P9 : PostT} {k n mc ms : Nat} {ci i N : Nat} {C : String} {T : u_T} {ty : Nat → FieldType} {ds : List Nat} (hd : decode mt.2.1 pc = .ok (.new i, 3)) (hcl : cl[ci]? = some (C, T, N)) (hc : ci < 100) (hin9 : ∀ w ∈ u_ws C T N, w ∈ tbl) (hty : ∀ k, k < N → parseFieldDescriptor (T k).2.2.1 = some (ty k)) (hwl : Cond.classLink mt.1 i C ∈ tbl) (hwi : Cond.instantiable C N ∈ tbl) (hwn : Cond.initialized C ∈ tbl) (hds : ∀ ad : Nat → Nat, ∀ j, j < N → defaultValue (ty j) = vp_V (ds.mapIdx (fun i kd => fldC ad zM 0 i kd)) j) (hM : M.1 sh.length = (fun _ => 0) ∧ M.2 sh.length = (fun _ => 0)) (hk : k + 1 ≤ mc) (hn : n + N ≤ ms) (h2 : sh.length < 200) {a9 : Nat} {sh8 : Shp} (ha9 : sh.length = a9) (hs8 : sh ++ [(ci, ds)] = sh8) (K : JC mt (pc + 3) lv (.ref a9 :: st) sh8 M (k + 1) (n + N) P9 mc ms) : JC mt pc lv st sh M k n P9 mc ms := by
  subst ha9
  subst hs8
  intro p l e s m args below meth c D base stt dA hp H locs ls hP hz hS hbs hl
  obtain ⟨hx, hb, hr, hml, hown, hts, hlk, hin, hK, hNi, hOM, hOS, hOL, hCx⟩ := id hp
  have hKn := hK.1 ci _ hcl
  refine W.newcK hx hb hown (hts _ hwl) (hts _ hwi) (hts _ hwn) rfl hd hk hn hKn.2.1 rfl fun H1 kC hkC e1 z1 o1 => ?_
  have ea : adB base stt sh.length = H.size := by unfold adB; rw [if_pos h2, hz]
  have hk9 : ∀ (k : Nat) (x : Nat × va_E), (layC (adB base stt) dA sh M)[k]? = some x → H1[x.1]? = H[x.1]? := fun k x hx => o1 x.1 ((hP k x hx).lt)
  have hP1 : va_P D cl (layC (adB base stt) dA (sh ++ [(ci, ds)]) M) H1 := by
    rw [layC_app]
    refine (hP.kept hk9).app (fun k x hx => ?_)
    have hz : k < 1 := (List.getElem?_eq_some_iff.mp hx).1
    rw [show k = 0 by omega] at hx
    cases hx
    have ec : cellC (adB base stt) dA M sh.length (ci, ds) = .inr (ci, ds.mapIdx (fun i kd => fldC (adB base stt) zM 0 i kd)) := by
      rw [cellC_off (M := zM) hM.1 hM.2]
      simp only [cellC, hc, if_true]
      congr 2
    rw [ec, ea]
    exact ⟨_, hcl, (u_born ty hts hin9 hKn hkC e1 hty).to (hds _)⟩
  have hk2 := K p l e s m args below meth c D base stt dA hp H1 locs ls hP1 (by rw [z1, hz, List.length_append]; rfl) ⟨Nat.le_trans hS.1 (by omega), fun x h1 h2 => (o1 x (Nat.lt_of_lt_of_le h1 hS.1)).trans (hS.2.1 x h1 h2), hS.2.2⟩ hbs hl
  rw [← ea]
  exact hk2
theorem c_newaI {mt : Mc} {pc : Nat} {lv : List (Nat × Value)} {st : List Value} {sh : Shp} {M : Mem} {P9 : PostT} {k n mc ms : Nat} {i : Int32} {N : Nat} (hd : decode mt.2.1 pc = .ok (.newarray .int, 2)) (hi : ¬ i < 0) (hN : i.toNatClampNeg = N) (hw : Cond.arrayClass .int ∈ tbl) (hby : N ≤ 60000000) (hM : M.1 sh.length = (fun _ => 0) ∧ M.2 sh.length = (fun _ => 0)) (hk : k + 1 ≤ mc) (hn : n + N ≤ ms) (h2 : sh.length < 200) {a9 : Nat} {sh8 : Shp} (ha9 : sh.length = a9) (hs8 : sh ++ [(100, [N])] = sh8) (K : JC mt (pc + 2) lv (.ref a9 :: st) sh8 M (k + 1) (n + N) P9 mc ms) : JC mt pc lv (.int i :: st) sh M k n P9 mc ms := by
  subst ha9
  subst hs8
  intro p l e s m args below meth c D base stt dA hp H locs ls hP hz hS hbs hl
  obtain ⟨hx, hb, hr, hml, hown, hts, hlk, hin, hK, hNi, hOM, hOS, hOL, hCx⟩ := id hp
  refine va_newaK (atype := .int) hx hb (hts _ hw) rfl hd rfl hi hN (by show N * 4 ≤ 536870912; omega) hk hn rfl fun H1 cA e1 z1 o1 hAr hNm => ?_
  have ea : adB base stt sh.length = H.size := by unfold adB; rw [if_pos h2, hz]
  have hk9 : ∀ (k : Nat) (x : Nat × va_E), (layC (adB base stt) dA sh M)[k]? = some x → H1[x.1]? = H[x.1]? := fun k x hx => o1 x.1 ((hP k x hx).lt)
  have ecA : cA = dA 0 := Option.some.inj (hNm.symm.trans (hK.2 0 _ rfl).2)
  have hP1 : va_P D cl (layC (adB base stt) dA (sh ++ [(100, [N])]) M) H1 := by
    rw [layC_app]
    refine (hP.kept hk9).app (fun k x hx => ?_)
    have hz : k < 1 := (List.getElem?_eq_some_iff.mp hx).1
    rw [show k = 0 by omega] at hx
    cases hx
    rw [ea]
    show H1[H.size]? = some (vp_cell _ _)
    rw [e1, ecA]
    show _ = some (arrV (dA 0) N (fun j => .int (M.1 sh.length j)))
    rw [hM.1]
    rfl
  have hk2 := K p l e s m args below meth c D base stt dA hp H1 locs ls hP1 (by rw [z1, hz, List.length_append]; rfl) ⟨Nat.le_trans hS.1 (by omega), fun x h1 h2 => (o1 x (Nat.lt_of_lt_of_le h1 hS.1)).trans (hS.2.1 x h1 h2), hS.2.2⟩ hbs hl
  rw [← ea]
  exact hk2
theorem c_newaB {mt : Mc} {pc : Nat} {lv : List (Nat × Value)} {st : List Value} {sh : Shp} {M : Mem} {P9 : PostT} {k n mc ms : Nat} {i : Int32} {N : Nat} (hd : decode mt.2.1 pc = .ok (.newarray .byte, 2)) (hi : ¬ i < 0) (hN : i.toNatClampNeg = N) (hw : Cond.arrayClass .byte ∈ tbl) (hby : N ≤ 60000000) (hM : M.1 sh.length = (fun _ => 0) ∧ M.2 sh.length = (fun _ => 0)) (hk : k + 1 ≤ mc) (hn : n + N ≤ ms) (h2 : sh.length < 200) {a9 : Nat} {sh8 : Shp} (ha9 : sh.length = a9) (hs8 : sh ++ [(101, [N])] = sh8) (K : JC mt (pc + 2) lv (.ref a9 :: st) sh8 M (k + 1) (n + N) P9 mc ms) : JC mt pc lv (.int i :: st) sh M k n P9 mc ms := by
  subst ha9
  subst hs8
  intro p l e s m args below meth c D base stt dA hp H locs ls hP hz hS hbs hl
  obtain ⟨hx, hb, hr, hml, hown, hts, hlk, hin, hK, hNi, hOM, hOS, hOL, hCx⟩ := id hp
  refine va_newaK (atype := .byte) hx hb (hts _ hw) rfl hd rfl hi hN (by show N * 1 ≤ 536870912; omega) hk hn rfl fun H1 cA e1 z1 o1 hAr hNm => ?_
  have ea : adB base stt sh.length = H.size := by unfold adB; rw [if_pos h2, hz]
  have hk9 : ∀ (k : Nat) (x : Nat × va_E), (layC (adB base stt) dA sh M)[k]? = some x → H1[x.1]? = H[x.1]? := fun k x hx => o1 x.1 ((hP k x hx).lt)
  have ecA : cA = dA 1 := Option.some.inj (hNm.symm.trans (hK.2 1 _ rfl).2)
  have hP1 : va_P D cl (layC (adB base stt) dA (sh ++ [(101, [N])]) M) H1 := by
    rw [layC_app]
    refine (hP.kept hk9).app (fun k x hx => ?_)
    have hz : k < 1 := (List.getElem?_eq_some_iff.mp hx).1
    rw [show k = 0 by omega] at hx
    cases hx
    rw [ea]
    show H1[H.size]? = some (vp_cell _ _)
    rw [e1, ecA]
    show _ = some (arrV (dA 1) N (fun j => .int (M.1 sh.length j)))
    rw [hM.1]
    rfl
  have hk2 := K p l e s m args below meth c D base stt dA hp H1 locs ls hP1 (by rw [z1, hz, List.length_append]; rfl) ⟨Nat.le_trans hS.1 (by omega), fun x h1 h2 => (o1 x (Nat.lt_of_lt_of_le h1 hS.1)).trans (hS.2.1 x h1 h2), hS.2.2⟩ hbs hl
  rw [← ea]
  exact hk2
theorem c_newaZ {mt : Mc} {pc : Nat} {lv : List (Nat × Value)} {st : List Value} {sh : Shp} {M : Mem} {P9 : PostT} {k n mc ms : Nat} {i : Int32} {N : Nat} (hd : decode mt.2.1 pc = .ok (.newarray .boolean, 2)) (hi : ¬ i < 0) (hN : i.toNatClampNeg = N) (hw : Cond.arrayClass .boolean ∈ tbl) (hby : N ≤ 60000000) (hM : M.1 sh.length = (fun _ => 0) ∧ M.2 sh.length = (fun _ => 0)) (hk : k + 1 ≤ mc) (hn : n + N ≤ ms) (h2 : sh.length < 200) {a9 : Nat} {sh8 : Shp} (ha9 : sh.length = a9) (hs8 : sh ++ [(102, [N])] = sh8) (K : JC mt (pc + 2) lv (.ref a9 :: st) sh8 M (k + 1) (n + N) P9 mc ms) : JC mt pc lv (.int i :: st) sh M k n P9 mc ms := by
  subst ha9
  subst hs8
  intro p l e s m args below meth c D base stt dA hp H locs ls hP hz hS hbs hl
  obtain ⟨hx, hb, hr, hml, hown, hts, hlk, hin, hK, hNi, hOM, hOS, hOL, hCx⟩ := id hp
  refine va_newaK (atype := .boolean) hx hb (hts _ hw) rfl hd rfl hi hN (by show N * 1 ≤ 536870912; omega) hk hn rfl fun H1 cA e1 z1 o1 hAr hNm => ?_
  have ea : adB base stt sh.length = H.size := by unfold adB; rw [if_pos h2, hz]
  have hk9 : ∀ (k : Nat) (x : Nat × va_E), (layC (adB base stt) dA sh M)[k]? = some x → H1[x.1]? = H[x.1]? := fun k x hx => o1 x.1 ((hP k x hx).lt)
  have ecA : cA = dA 2 := Option.some.inj (hNm.symm.trans (hK.2 2 _ rfl).2)
  have hP1 : va_P D cl (layC (adB base stt) dA (sh ++ [(102, [N])]) M) H1 := by
    rw [layC_app]
    refine (hP.kept hk9).app (fun k x hx => ?_)
    have hz : k < 1 := (List.getElem?_eq_some_iff.mp hx).1
    rw [show k = 0 by omega] at hx
    cases hx
    rw [ea]
    show H1[H.size]? = some (vp_cell _ _)
    rw [e1, ecA]
    show _ = some (arrV (dA 2) N (fun j => .int (M.1 sh.length j)))
    rw [hM.1]
    rfl
  have hk2 := K p l e s m args below meth c D base stt dA hp H1 locs ls hP1 (by rw [z1, hz, List.length_append]; rfl) ⟨Nat.le_trans hS.1 (by omega), fun x h1 h2 => (o1 x (Nat.lt_of_lt_of_le h1 hS.1)).trans (hS.2.1 x h1 h2), hS.2.2⟩ hbs hl
  rw [← ea]
  exact hk2
theorem c_newaL {mt : Mc} {pc : Nat} {lv : List (Nat × Value)} {st : List Value} {sh : Shp} {M : Mem} {P9 : PostT} {k n mc ms : Nat} {i : Int32} {N : Nat} (hd : decode mt.2.1 pc = .ok (.newarray .long, 2)) (hi : ¬ i < 0) (hN : i.toNatClampNeg = N) (hw : Cond.arrayClass .long ∈ tbl) (hby : N ≤ 60000000) (hM : M.1 sh.length = (fun _ => 0) ∧ M.2 sh.length = (fun _ => 0)) (hk : k + 1 ≤ mc) (hn : n + N ≤ ms) (h2 : sh.length < 200) {a9 : Nat} {sh8 : Shp} (ha9 : sh.length = a9) (hs8 : sh ++ [(103, [N])] = sh8) (K : JC mt (pc + 2) lv (.ref a9 :: st) sh8 M (k + 1) (n + N) P9 mc ms) : JC mt pc lv (.int i :: st) sh M k n P9 mc ms := by
  subst ha9
  subst hs8
  intro p l e s m args below meth c D base stt dA hp H locs ls hP hz hS hbs hl
  obtain ⟨hx, hb, hr, hml, hown, hts, hlk, hin, hK, hNi, hOM, hOS, hOL, hCx⟩ := id hp
  refine va_newaK (atype := .long) hx hb (hts _ hw) rfl hd rfl hi hN (by show N * 8 ≤ 536870912; omega) hk hn rfl fun H1 cA e1 z1 o1 hAr hNm => ?_
  have ea : adB base stt sh.length = H.size := by unfold adB; rw [if_pos h2, hz]
  have hk9 : ∀ (k : Nat) (x : Nat × va_E), (layC (adB base stt) dA sh M)[k]? = some x → H1[x.1]? = H[x.1]? := fun k x hx => o1 x.1 ((hP k x hx).lt)
  have ecA : cA = dA 3 := Option.some.inj (hNm.symm.trans (hK.2 3 _ rfl).2)
  have hP1 : va_P D cl (layC (adB base stt) dA (sh ++ [(103, [N])]) M) H1 := by
    rw [layC_app]
    refine (hP.kept hk9).app (fun k x hx => ?_)
    have hz : k < 1 := (List.getElem?_eq_some_iff.mp hx).1
    rw [show k = 0 by omega] at hx
    cases hx
    rw [ea]
    show H1[H.size]? = some (vp_cell _ _)
    rw [e1, ecA]
    show _ = some (arrV (dA 3) N (fun j => .long (M.2 sh.length j)))
    rw [hM.2]
    rfl
  have hk2 := K p l e s m args below meth c D base stt dA hp H1 locs ls hP1 (by rw [z1, hz, List.length_append]; rfl) ⟨Nat.le_trans hS.1 (by omega), fun x h1 h2 => (o1 x (Nat.lt_of_lt_of_le h1 hS.1)).trans (hS.2.1 x h1 h2), hS.2.2⟩ hbs hl
  rw [← ea]
  exact hk2
theorem c_anewM {mt : Mc} {pc : Nat} {lv : List (Nat × Value)} {st : List Value} {sh : Shp} {M : Mem} {P9 : PostT} {k n mc ms : Nat} {i : Int32} {N idx : Nat} (hd : decode mt.2.1 pc = .ok (.anewarray idx, 3)) (hi : ¬ i < 0) (hN : i.toNatClampNeg = N) (hw : Cond.classLink mt.1 idx "ShakeHands$Minds" ∈ tbl) (hby : N ≤ 60000000) (hk : k + 1 ≤ mc) (hn : n + N ≤ ms) (h2 : sh.length < 200) {a9 : Nat} {sh8 : Shp} (ha9 : sh.length = a9) (hs8 : sh ++ [(104, List.replicate N 0)] = sh8) (K : JC mt (pc + 3) lv (.ref a9 :: st) sh8 M (k + 1) (n + N) P9 mc ms) : JC mt pc lv (.int i :: st) sh M k n P9 mc ms := by
  subst ha9
  subst hs8
  intro p l e s m args below meth c D base stt dA hp H locs ls hP hz hS hbs hl
  obtain ⟨hx, hb, hr, hml, hown, hts, hlk, hin, hK, hNi, hOM, hOS, hOL, hCx⟩ := id hp
  subst hN
  refine W.anew hx hb hown (hts _ hw) (va_AO.use hOM) rfl hd rfl hi (by omega) hk hn fun cA kA comp f1 f2 f3 f4 => ?_
  generalize hH1 : H.push ({ cls := cA, slots := Array.replicate i.toNatClampNeg .null, vm := .none } : Cell) = H1
  have z1 : H1.size = H.size + 1 := by rw [← hH1, Array.size_push]
  have e1 : H1[H.size]? = some (arrV cA i.toNatClampNeg (fun _ => .null)) := by rw [← hH1, Array.getElem?_push_size, ← arrV_new]
  have o1 : ∀ q : Nat, q < H.size → H1[q]? = H[q]? := fun q hq => by rw [← hH1, Array.getElem?_push, if_neg (Nat.ne_of_lt hq)]
  have ea : adB base stt sh.length = H.size := by unfold adB; rw [if_pos h2, hz]
  have hk9 : ∀ (k : Nat) (x : Nat × va_E), (layC (adB base stt) dA sh M)[k]? = some x → H1[x.1]? = H[x.1]? := fun k x hx => o1 x.1 ((hP k x hx).lt)
  have ecA : cA = dA 4 := by
    obtain ⟨kB, cB, g1, g2, g3, g4⟩ := (hK.2 4 _ rfl).2
    exact Option.some.inj (f1.symm.trans g4)
  have hP1 : va_P D cl (layC (adB base stt) dA (sh ++ [(104, List.replicate i.toNatClampNeg 0)]) M) H1 := by
    rw [layC_app]
    refine (hP.kept hk9).app (fun k x hx => ?_)
    have hz : k < 1 := (List.getElem?_eq_some_iff.mp hx).1
    rw [show k = 0 by omega] at hx
    cases hx
    rw [ea]
    show H1[H.size]? = some (vp_cell (dA 4) ((List.replicate i.toNatClampNeg 0).length, .inr (.inr (.inr (.inr (rfC (adB base stt) (List.replicate i.toNatClampNeg 0)))))))
    rw [vp_cell_q, e1, ecA, List.length_replicate]
    congr 2
    funext j
    have : rfC (adB base stt) (List.replicate i.toNatClampNeg 0) j = none := by
      unfold rfC
      by_cases h : j < i.toNatClampNeg
      · simp [h]
      · simp [h]
    rw [this]
    rfl
  have hk2 := K p l e s m args below meth c D base stt dA hp H1 locs ls hP1 (by rw [z1, hz, List.length_append]; rfl) ⟨Nat.le_trans hS.1 (by omega), fun x h1 h2 => (o1 x (Nat.lt_of_lt_of_le h1 hS.1)).trans (hS.2.1 x h1 h2), hS.2.2⟩ hbs hl
  rw [← ea]
  exact hk2
theorem c_aastM {mt : Mc} {pc : Nat} {lv : List (Nat × Value)} {st : List Value} {sh : Shp} {M : Mem} {P9 : PostT} {k n mc ms : Nat} {i : Int32} {a b ci : Nat} {ids vs : List Nat} {T : u_T} {N : Nat} (hd : decode mt.2.1 pc = .ok (.aastore, 1)) (hs : sh[a]? = some (104, ids)) (hb9 : sh[b]? = some (ci, vs)) (hc : ci < 100) (hcl : cl[ci]? = some ("ShakeHands$Minds", T, N)) (hi : vp_in i ids.length) (h200 : sh.length ≤ 200) {sh8 : Shp} (hs8 : sh.set a (104, ids.set i.toNatClampNeg (b + 1)) = sh8) (K : JC mt (pc + 1) lv st sh8 M k n P9 mc ms) : JC mt pc lv (.ref b :: .int i :: .ref a :: st) sh M k n P9 mc ms := by
  subst hs8
  intro p l e s m args below meth c D base stt dA hp H locs ls hP hz hS hbs hl
  obtain ⟨hx, hb, hr, hml, hown, hts, hlk, hin, hK, hNi, hOM, hOS, hOL, hCx⟩ := id hp
  have hlt : i.toNatClampNeg < ids.length := Nat.not_le.mp fun q => hi (Or.inr q)
  have h0 : ¬ i < 0 := fun q => hi (Or.inl q)
  have hD := layC_D (base := base) (stt := stt) (dA := dA) (sh := sh) (M := M) h200
  have hl9 : a < sh.length := (List.getElem?_eq_some_iff.mp hs).1
  have ha : (layC (adB base stt) dA sh M)[a]? = some (adB base stt a, .inl (dA 4, ids.length, .inr (.inr (.inr (.inr (rfC (adB base stt) ids)))))) := layC_get hs
  have hv : (layC (adB base stt) dA sh M)[b]? = some (adB base stt b, .inr (ci, vs.mapIdx (fun i kd => fldC (adB base stt) M b i kd))) := by rw [layC_get hb9]; simp [cellC, hc]
  obtain ⟨r', hr', cellV, g1, g2, g3, -⟩ := hP b _ hv
  have hcls := (hK.1 ci _ hcl).2
  obtain ⟨kA, comp, k1, k2, k3, -⟩ := (hK.2 4 _ rfl).2
  have hcomp : comp = D.1 ci := Option.some.inj (k3.symm.trans hcls.1)
  subst hcomp
  obtain ⟨kC, hkC, -⟩ := hcls.2
  have hset : (layC (adB base stt) dA sh M).set a (adB base stt a, .inl (dA 4, ids.length, .inr (.inr (.inr (.inr (rfC (adB base stt) (ids.set i.toNatClampNeg (b + 1)))))))) = layC (adB base stt) dA (sh.set a (104, ids.set i.toNatClampNeg (b + 1))) M := by
    refine layC_set hl9 ?_ (fun j hj => ⟨rfl, rfl⟩)
    have e : (ids.set i.toNatClampNeg (b + 1)).length = ids.length := List.length_set
    show _ = va_E_inl (dA 4) (ids.set i.toNatClampNeg (b + 1)).length _
    rw [e]
  refine W.aast hx hb (hP a _ ha) (fun q h => by cases h) (fun h => by cases h) k1 k2 rfl hkC ⟨h0, by show _ < (arrV _ _ _).slots.size; rw [arrV_size]; exact hlt⟩ g1 (fun q h => by rw [g3] at h; cases h) (by rw [g2]; exact hkC) (by rw [g2]; exact va_assign hcls) rfl rfl hd fun H1 he9 z oq => ?_
  have hP1 : va_P D cl ((layC (adB base stt) dA sh M).set a (adB base stt a, .inl (dA 4, ids.length, .inr (.inr (.inr (.inr (rfC (adB base stt) (ids.set i.toNatClampNeg (b + 1))))))))) H1 := by
    refine hP.set hD ha ?_ oq
    show H1[adB base stt a]? = some (vp_cell _ _)
    rw [he9]
    rw [vp_cell_q, vp_cell_q, arrV_store]
    congr 2
    funext q
    by_cases hq : q = i.toNatClampNeg
    · subst hq
      simp [updV, va_rf, rfC, List.getElem?_set, hlt]
    · have hq2 : ¬ i.toNatClampNeg = q := fun h => hq h.symm
      simp [updV, va_rf, rfC, List.getElem?_set, hq, hq2]
  rw [hset] at hP1
  exact K p l e s m args below meth c D base stt dA hp H1 _ ls hP1 (by rw [z, hz, List.length_set]) (hS.put z oq (hD.2 a _ ha)) hbs hl
theorem c_anewS {mt : Mc} {pc : Nat} {lv : List (Nat × Value)} {st : List Value} {sh : Shp} {M : Mem} {P9 : PostT} {k n mc ms : Nat} {i : Int32} {N idx : Nat} (hd : decode mt.2.1 pc = .ok (.anewarray idx, 3)) (hi : ¬ i < 0) (hN : i.toNatClampNeg = N) (hw : Cond.classLink mt.1 idx "ShakeHands$Sheet" ∈ tbl) (hby : N ≤ 60000000) (hk : k + 1 ≤ mc) (hn : n + N ≤ ms) (h2 : sh.length < 200) {a9 : Nat} {sh8 : Shp} (ha9 : sh.length = a9) (hs8 : sh ++ [(105, List.replicate N 0)] = sh8) (K : JC mt (pc + 3) lv (.ref a9 :: st) sh8 M (k + 1) (n + N) P9 mc ms) : JC mt pc lv (.int i :: st) sh M k n P9 mc ms := by
  subst ha9
  subst hs8
  intro p l e s m args below meth c D base stt dA hp H locs ls hP hz hS hbs hl
  obtain ⟨hx, hb, hr, hml, hown, hts, hlk, hin, hK, hNi, hOM, hOS, hOL, hCx⟩ := id hp
  subst hN
  refine W.anew hx hb hown (hts _ hw) (va_AO.use hOS) rfl hd rfl hi (by omega) hk hn fun cA kA comp f1 f2 f3 f4 => ?_
  generalize hH1 : H.push ({ cls := cA, slots := Array.replicate i.toNatClampNeg .null, vm := .none } : Cell) = H1
  have z1 : H1.size = H.size + 1 := by rw [← hH1, Array.size_push]
  have e1 : H1[H.size]? = some (arrV cA i.toNatClampNeg (fun _ => .null)) := by rw [← hH1, Array.getElem?_push_size, ← arrV_new]
  have o1 : ∀ q : Nat, q < H.size → H1[q]? = H[q]? := fun q hq => by rw [← hH1, Array.getElem?_push, if_neg (Nat.ne_of_lt hq)]
  have ea : adB base stt sh.length = H.size := by unfold adB; rw [if_pos h2, hz]
  have hk9 : ∀ (k : Nat) (x : Nat × va_E), (layC (adB base stt) dA sh M)[k]? = some x → H1[x.1]? = H[x.1]? := fun k x hx => o1 x.1 ((hP k x hx).lt)
  have ecA : cA = dA 5 := by
    obtain ⟨kB, cB, g1, g2, g3, g4⟩ := (hK.2 5 _ rfl).2
    exact Option.some.inj (f1.symm.trans g4)
  have hP1 : va_P D cl (layC (adB base stt) dA (sh ++ [(105, List.replicate i.toNatClampNeg 0)]) M) H1 := by
    rw [layC_app]
    refine (hP.kept hk9).app (fun k x hx => ?_)
    have hz : k < 1 := (List.getElem?_eq_some_iff.mp hx).1
    rw [show k = 0 by omega] at hx
    cases hx
    rw [ea]
    show H1[H.size]? = some (vp_cell (dA 5) ((List.replicate i.toNatClampNeg 0).length, .inr (.inr (.inr (.inr (rfC (adB base stt) (List.replicate i.toNatClampNeg 0)))))))
    rw [vp_cell_q, e1, ecA, List.length_replicate]
    congr 2
    funext j
    have : rfC (adB base stt) (List.replicate i.toNatClampNeg 0) j = none := by
      unfold rfC
      by_cases h : j < i.toNatClampNeg
      · simp [h]
      · simp [h]
    rw [this]
    rfl
  have hk2 := K p l e s m args below meth c D base stt dA hp H1 locs ls hP1 (by rw [z1, hz, List.length_append]; rfl) ⟨Nat.le_trans hS.1 (by omega), fun x h1 h2 => (o1 x (Nat.lt_of_lt_of_le h1 hS.1)).trans (hS.2.1 x h1 h2), hS.2.2⟩ hbs hl
  rw [← ea]
  exact hk2
theorem c_aastS {mt : Mc} {pc : Nat} {lv : List (Nat × Value)} {st : List Value} {sh : Shp} {M : Mem} {P9 : PostT} {k n mc ms : Nat} {i : Int32} {a b ci : Nat} {ids vs : List Nat} {T : u_T} {N : Nat} (hd : decode mt.2.1 pc = .ok (.aastore, 1)) (hs : sh[a]? = some (105, ids)) (hb9 : sh[b]? = some (ci, vs)) (hc : ci < 100) (hcl : cl[ci]? = some ("ShakeHands$Sheet", T, N)) (hi : vp_in i ids.length) (h200 : sh.length ≤ 200) {sh8 : Shp} (hs8 : sh.set a (105, ids.set i.toNatClampNeg (b + 1)) = sh8) (K : JC mt (pc + 1) lv st sh8 M k n P9 mc ms) : JC mt pc lv (.ref b :: .int i :: .ref a :: st) sh M k n P9 mc ms := by
  subst hs8
  intro p l e s m args below meth c D base stt dA hp H locs ls hP hz hS hbs hl
  obtain ⟨hx, hb, hr, hml, hown, hts, hlk, hin, hK, hNi, hOM, hOS, hOL, hCx⟩ := id hp
  have hlt : i.toNatClampNeg < ids.length := Nat.not_le.mp fun q => hi (Or.inr q)
  have h0 : ¬ i < 0 := fun q => hi (Or.inl q)
  have hD := layC_D (base := base) (stt := stt) (dA := dA) (sh := sh) (M := M) h200
  have hl9 : a < sh.length := (List.getElem?_eq_some_iff.mp hs).1
  have ha : (layC (adB base stt) dA sh M)[a]? = some (adB base stt a, .inl (dA 5, ids.length, .inr (.inr (.inr (.inr (rfC (adB base stt) ids)))))) := layC_get hs
  have hv : (layC (adB base stt) dA sh M)[b]? = some (adB base stt b, .inr (ci, vs.mapIdx (fun i kd => fldC (adB base stt) M b i kd))) := by rw [layC_get hb9]; simp [cellC, hc]
  obtain ⟨r', hr', cellV, g1, g2, g3, -⟩ := hP b _ hv
  have hcls := (hK.1 ci _ hcl).2
  obtain ⟨kA, comp, k1, k2, k3, -⟩ := (hK.2 5 _ rfl).2
  have hcomp : comp = D.1 ci := Option.some.inj (k3.symm.trans hcls.1)
  subst hcomp
  obtain ⟨kC, hkC, -⟩ := hcls.2
  have hset : (layC (adB base stt) dA sh M).set a (adB base stt a, .inl (dA 5, ids.length, .inr (.inr (.inr (.inr (rfC (adB base stt) (ids.set i.toNatClampNeg (b + 1)))))))) = layC (adB base stt) dA (sh.set a (105, ids.set i.toNatClampNeg (b + 1))) M := by
    refine layC_set hl9 ?_ (fun j hj => ⟨rfl, rfl⟩)
    have e : (ids.set i.toNatClampNeg (b + 1)).length = ids.length := List.length_set
    show _ = va_E_inl (dA 5) (ids.set i.toNatClampNeg (b + 1)).length _
    rw [e]
  refine W.aast hx hb (hP a _ ha) (fun q h => by cases h) (fun h => by cases h) k1 k2 rfl hkC ⟨h0, by show _ < (arrV _ _ _).slots.size; rw [arrV_size]; exact hlt⟩ g1 (fun q h => by rw [g3] at h; cases h) (by rw [g2]; exact hkC) (by rw [g2]; exact va_assign hcls) rfl rfl hd fun H1 he9 z oq => ?_
  have hP1 : va_P D cl ((layC (adB base stt) dA sh M).set a (adB base stt a, .inl (dA 5, ids.length, .inr (.inr (.inr (.inr (rfC (adB base stt) (ids.set i.toNatClampNeg (b + 1))))))))) H1 := by
    refine hP.set hD ha ?_ oq
    show H1[adB base stt a]? = some (vp_cell _ _)
    rw [he9]
    rw [vp_cell_q, vp_cell_q, arrV_store]
    congr 2
    funext q
    by_cases hq : q = i.toNatClampNeg
    · subst hq
      simp [updV, va_rf, rfC, List.getElem?_set, hlt]
    · have hq2 : ¬ i.toNatClampNeg = q := fun h => hq h.symm
      simp [updV, va_rf, rfC, List.getElem?_set, hq, hq2]
  rw [hset] at hP1
  exact K p l e s m args below meth c D base stt dA hp H1 _ ls hP1 (by rw [z, hz, List.length_set]) (hS.put z oq (hD.2 a _ ha)) hbs hl
theorem c_initN {mt : Mc} {pc : Nat} {lv : List (Nat × Value)} {st : List Value} {sh : Shp} {M : Mem} {P9 : PostT} {k n mc ms : Nat} {mt2 : Mc} {y : MethodName} {idx q a mc2 ms2 : Nat} {as : List Value} {sh2 : Shp} {M2 : Mem} (hd : decode mt.2.1 pc = .ok (.invokespecial idx, 3)) (hct : CtC y mt2 (.ref a :: as) sh M (PC sh2 M2) mc2 ms2) (hw : (mt.1, idx, y) ∈ nestI) (hcd : Cond.code y mt2.2.1 mt2.2.2.1 none ∈ tbl) (hni : y.name = "<init>") (him : Cond.instanceMethod y ∈ tbl) (hini : Cond.initialized y.cls ∈ tbl) (hdn : Dn y q) (hq : as.length = q) (hdp : mt2.2.2.2 + 1 ≤ mt.2.2.2) (hmx : mt2.2.2.1 ≤ 40) (hst : (st.map fun v => v.category).sum ≤ 8) (hk : k + mc2 ≤ mc) (hn : n + ms2 ≤ ms) (K : JC mt (pc + 3) lv st sh2 M2 (k + mc2) (n + ms2) P9 mc ms) : JC mt pc lv (as.reverse ++ .ref a :: st) sh M k n P9 mc ms := by
  intro p l e s m args below meth c D base stt dA hp H locs ls hP hz hS hbs hl
  obtain ⟨hx, hb, hr, hml, hown, hts, hlk, hin, hK, hNi, hOM, hOS, hOL, hCx⟩ := id hp
  have hR : (rmc mt2.2.2.2 mc2 ms2).frames + 1 ≤ (rmc mt.2.2.2 mc ms).frames ∧ 8 + (mt2.2.2.1 + 11) + (rmc mt2.2.2.2 mc2 ms2).locals ≤ (rmc mt.2.2.2 mc ms).locals := by
    refine ⟨hdp, ?_⟩
    show 8 + (mt2.2.2.1 + 11) + 64 * mt2.2.2.2 ≤ 64 * mt.2.2.2
    omega
  have hM := hct l D base stt dA
  refine wr_callC (rest := st.map (rv (adB base stt))) (va_runIN (As := as.map (rv (adB base stt))) (b := adB base stt a) (Ts := tbl) ⟨hx, hb, hml, hown, hts⟩ hM ⟨va_cnB q hts (good_cons hcd) rfl rfl rfl (hNi _ hw) (hts _ hini) hdn hR, hni, hts _ him⟩ ⟨fun a U g mk q => ⟨q.1, q.2.1, q.2.2.1, q.2.2.2.blind⟩, fun U hU hW => ⟨rfl, by rw [hU]; exact hP, by rw [hU]; exact hz, by rw [hU]; exact KC.next ⟨hK, hNi, hOM, hOS, hOL, hCx⟩ hS hW⟩⟩ rfl (by rw [List.length_map]; exact hq) hl.1 ?_ (lv_room (by rw [rv_cats]; exact hst)) hd ⟨hk, hn⟩) hS (fun t H1 locs1 ht hpost hS1 => ?_)
  · show (as.reverse ++ .ref a :: st).map (rv (adB base stt)) = (as.map (rv (adB base stt))).reverse ++ .ref (adB base stt a) :: st.map (rv (adB base stt))
    rw [List.map_append, List.map_reverse]
    rfl
  obtain ⟨hP1, hz1⟩ := hpost
  rw [ht] at hP1 hz1
  exact K p l e s m args below meth c D base stt dA hp H1 locs1 ls hP1 hz1 hS1 hbs hl
theorem c_init {mt : Mc} {pc : Nat} {lv : List (Nat × Value)} {st : List Value} {sh : Shp} {M : Mem} {P9 : PostT} {k n mc ms : Nat} {mt2 : Mc} {y : MethodName} {idx q a mc2 ms2 : Nat} {as : List Value} {sh2 : Shp} {M2 : Mem} (hd : decode mt.2.1 pc = .ok (.invokespecial idx, 3)) (hct : CtC y mt2 (.ref a :: as) sh M (PC sh2 M2) mc2 ms2) (hw : Cond.methodLink mt.1 idx y ∈ tbl) (hcd : Cond.code y mt2.2.1 mt2.2.2.1 none ∈ tbl) (hni : y.name = "<init>") (him : Cond.instanceMethod y ∈ tbl) (hini : Cond.initialized y.cls ∈ tbl) (hdn : Dn y q) (hq : as.length = q) (hdp : mt2.2.2.2 + 1 ≤ mt.2.2.2) (hmx : mt2.2.2.1 ≤ 40) (hst : (st.map fun v => v.category).sum ≤ 8) (hk : k + mc2 ≤ mc) (hn : n + ms2 ≤ ms) (K : JC mt (pc + 3) lv st sh2 M2 (k + mc2) (n + ms2) P9 mc ms) : JC mt pc lv (as.reverse ++ .ref a :: st) sh M k n P9 mc ms := by
  intro p l e s m args below meth c D base stt dA hp H locs ls hP hz hS hbs hl
  obtain ⟨hx, hb, hr, hml, hown, hts, hlk, hin, hK, hNi, hOM, hOS, hOL, hCx⟩ := id hp
  have hR : (rmc mt2.2.2.2 mc2 ms2).frames + 1 ≤ (rmc mt.2.2.2 mc ms).frames ∧ 8 + (mt2.2.2.1 + 11) + (rmc mt2.2.2.2 mc2 ms2).locals ≤ (rmc mt.2.2.2 mc ms).locals := by
    refine ⟨hdp, ?_⟩
    show 8 + (mt2.2.2.1 + 11) + 64 * mt2.2.2.2 ≤ 64 * mt.2.2.2
    omega
  have hM := hct l D base stt dA
  refine wr_callC (rest := st.map (rv (adB base stt))) (va_runI (As := as.map (rv (adB base stt))) (b := adB base stt a) (Ts := tbl) ⟨hx, hb, hml, hown, hts⟩ hM (cwI q hts (good_cons hcd) rfl rfl rfl (hts _ hini) (hts _ hw) (hts _ him) hni hdn hR) ⟨fun a U g mk q => ⟨q.1, q.2.1, q.2.2.1, q.2.2.2.blind⟩, fun U hU hW => ⟨rfl, by rw [hU]; exact hP, by rw [hU]; exact hz, by rw [hU]; exact KC.next ⟨hK, hNi, hOM, hOS, hOL, hCx⟩ hS hW⟩⟩ rfl (by rw [List.length_map]; exact hq) hl.1 ?_ (lv_room (by rw [rv_cats]; exact hst)) hd ⟨hk, hn⟩) hS (fun t H1 locs1 ht hpost hS1 => ?_)
  · show (as.reverse ++ .ref a :: st).map (rv (adB base stt)) = (as.map (rv (adB base stt))).reverse ++ .ref (adB base stt a) :: st.map (rv (adB base stt))
    rw [List.map_append, List.map_reverse]
    rfl
  obtain ⟨hP1, hz1⟩ := hpost
  rw [ht] at hP1 hz1
  exact K p l e s m args below meth c D base stt dA hp H1 locs1 ls hP1 hz1 hS1 hbs hl
theorem c_return {mt : Mc} {pc : Nat} {lv : List (Nat × Value)} {sh sh9 : Shp} {M M9 : Mem} {k n mc ms : Nat} (hd : decode mt.2.1 pc = .ok (.return_, 1)) (hk : k ≤ mc) (hn : n ≤ ms) (hsh : sh = sh9) (hMM : M = M9) : JC mt pc lv [] sh M k n (PC sh9 M9) mc ms := by
  intro p l e s m args below meth c D base stt dA hp H locs ls hP hz hS hbs hl
  obtain ⟨hx, hb, hr, hml, hown, hts, hlk, hin, hK, hNi, hOM, hOS, hOL, hCx⟩ := id hp
  subst hsh
  subst hMM
  refine W.widen hk hn ?_
  exact W.vret hx hb hr (fun t ht hW => ⟨rfl, by show va_P _ _ _ t.heap ∧ t.heap.size = _; rw [ht]; exact ⟨hP, hz⟩, hS.F ht⟩) hS.2.2 hd
theorem c_toJ {mt : Mc} {pc : Nat} {lv : List (Nat × Value)} {st : List Value} {sh shJ : Shp} {M M' : Mem} {k n mc ms : Nat} {F : Option (Unit × Mem)} (hconv : ∀ (ad : Nat → Nat) (dA : Nat → ClassId), layC ad dA sh M = lay ad dA shJ M) (h200 : sh.length ≤ 200) (hk : k ≤ mc) (hn : n ≤ ms) (hF : F = some ((), M')) (K : J (mt.1, mt.2.1, mt.2.2.1, none, mt.2.2.2, shJ) wU pc lv st M F) : JC mt pc lv st sh M k n (PJ shJ M') mc ms := by
  intro p l e s m args below meth c D base stt dA hp H locs ls hP hz hS hbs hl
  obtain ⟨hx, hb, hr, hml, hown, hts, hlk, hin, hK, hNi, hOM, hOS, hOL, hCx⟩ := id hp
  refine W.widen hk hn ?_
  have hD := layC_D (base := base) (stt := stt) (dA := dA) (sh := sh) (M := M) h200
  rw [hconv] at hP hD
  exact K () M' hF p l e s m args below meth c D (adB base stt) dA (fun q => base ≤ q) mc ms ⟨hx, hb, hr, hml, hown, hts, hlk, hCx⟩ H locs ls hP hD hS hl
theorem c_sh {mt : Mc} {pc : Nat} {lv : List (Nat × Value)} {st : List Value} {sh : Shp} {M : Mem} {P9 : PostT} {k n mc ms : Nat} {sh2 : Shp} {M2 : Mem} (h : sh = sh2) (h2 : M = M2) (K : JC mt pc lv st sh2 M2 k n P9 mc ms) : JC mt pc lv st sh M k n P9 mc ms := by
  intro p l e s m args below meth c D base stt dA hp H locs ls hP hz hS hbs hl
  obtain ⟨hx, hb, hr, hml, hown, hts, hlk, hin, hK, hNi, hOM, hOS, hOL, hCx⟩ := id hp
  subst h; subst h2
  exact (K p l e s m args below meth c D base stt dA hp H locs ls hP hz hS hbs hl)
