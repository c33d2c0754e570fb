/-! THE FLAT MEMORY: a pure picture of all cells of one object and what hangs on it; J: 'if the pure residue is some (r, M'), the machine returns r with M'' -/
abbrev Mem : Type := (Nat → Nat → Int32) × (Nat → Nat → Int64)
abbrev Shp : Type := List (Nat × List Nat)
def si (M : Mem) (a k : Nat) (v : Int32) : Mem := (fun x y => if x = a ∧ y = k then v else M.1 x y, M.2)
def sl (M : Mem) (a k : Nat) (v : Int64) : Mem := (M.1, fun x y => if x = a ∧ y = k then v else M.2 x y)
def cpI (M : Mem) (a sp b dp n : Nat) : Mem := (fun x y => if x = b ∧ dp ≤ y ∧ y < dp + n then M.1 a (sp + (y - dp)) else M.1 x y, M.2)
def cpL (M : Mem) (a sp b dp n : Nat) : Mem := (M.1, fun x y => if x = b ∧ dp ≤ y ∧ y < dp + n then M.2 a (sp + (y - dp)) else M.2 x y)
def rv (ad : Nat → Nat) (v : Value) : Value := match v with
  | .ref a => .ref (ad a)
  | w => w
def rvp (ad : Nat → Nat) (q : Nat × Value) : Nat × Value := (q.1, rv ad q.2)
def fldOf (ad : Nat → Nat) (M : Mem) (a i kd : Nat) : Value := match kd with
  | 0 => .int (M.1 a i)
  | 1 => .long (M.2 a i)
  | r + 2 => .ref (ad r)
def objOf (ad : Nat → Nat) (M : Mem) (a : Nat) (ds : List Nat) : List Value := ds.mapIdx (fun i kd => fldOf ad M a i kd)
def cellOf (ad : Nat → Nat) (dA : Nat → ClassId) (M : Mem) (a : Nat) (q : Nat × List Nat) : va_E :=
  if q.1 < 100 then .inr (q.1, objOf ad M a q.2)
  else if q.1 < 103 then .inl (dA (q.1 - 100), q.2.headD 0, .inl (M.1 a))
  else if q.1 = 103 then .inl (dA 3, q.2.headD 0, .inr (.inl (M.2 a)))
  else .inl (dA (q.1 - 100), q.2.length, .inr (.inr (.inr (.inr (fun j => (q.2[j]?).map ad)))))
def lay (ad : Nat → Nat) (dA : Nat → ClassId) (sh : Shp) (M : Mem) : va_W := sh.mapIdx (fun a q => (ad a, cellOf ad dA M a q))
def tysOf (dA : Nat → ClassId) : List (ClassId × FieldType) := [(dA 0, .int), (dA 1, .byte), (dA 2, .boolean), (dA 3, .long), (dA 4, .object "ShakeHands$Minds"), (dA 5, .object "ShakeHands$Sheet"), (dA 6, .array .long)]
theorem lay_get {ad : Nat → Nat} {dA : Nat → ClassId} {sh : Shp} {M : Mem} {a : Nat} {q : Nat × List Nat} (h : sh[a]? = some q) : (lay ad dA sh M)[a]? = some (ad a, cellOf ad dA M a q) := by
  simp [lay, h]
theorem obj_get {ad : Nat → Nat} {M : Mem} {a k kd : Nat} {ds : List Nat} (h : ds[k]? = some kd) : (objOf ad M a ds)[k]? = some (fldOf ad M a k kd) := by
  simp [objOf, h]
theorem cell_obj {ad : Nat → Nat} {dA : Nat → ClassId} {M : Mem} {a ci : Nat} {ds : List Nat} (h : ci < 100) : cellOf ad dA M a (ci, ds) = .inr (ci, objOf ad M a ds) := by
  simp [cellOf, h]
theorem cell_off {ad : Nat → Nat} {dA : Nat → ClassId} {M M' : Mem} {a : Nat} {q : Nat × List Nat} (h1 : M'.1 a = M.1 a) (h2 : M'.2 a = M.2 a) : cellOf ad dA M' a q = cellOf ad dA M a q := by
  have h : objOf ad M' a q.2 = objOf ad M a q.2 := by
    unfold objOf
    congr 1
    funext i kd
    match kd with
    | 0 => simp [fldOf, h1]
    | 1 => simp [fldOf, h2]
    | r + 2 => rfl
  unfold cellOf
  rw [h, h1, h2]
theorem lay_set {ad : Nat → Nat} {dA : Nat → ClassId} {sh : Shp} {M M' : Mem} {a : Nat} {q : Nat × List Nat} {x : va_E} (h : sh[a]? = some q) (hx : x = cellOf ad dA M' a q) (ho : ∀ j, j ≠ a → M'.1 j = M.1 j ∧ M'.2 j = M.2 j) : (lay ad dA sh M).set a (ad a, x) = lay ad dA sh M' := by
  apply List.ext_getElem?
  intro j
  rw [List.getElem?_set]
  by_cases e : a = j
  · subst e
    have hl : a < (lay ad dA sh M).length := by
      have := (List.getElem?_eq_some_iff.mp (lay_get (ad := ad) (dA := dA) (M := M) h)).1
      exact this
    rw [if_pos rfl, if_pos hl, lay_get h, hx]
  · rw [if_neg e]
    cases hq : sh[j]? with
    | none => simp [lay, hq]
    | some q2 => rw [lay_get hq, lay_get hq, cell_off (ho j (fun e2 => e e2.symm)).1 (ho j (fun e2 => e e2.symm)).2]
theorem obj_set {ad : Nat → Nat} {M M' : Mem} {a k kd : Nat} {ds : List Nat} {v : Value} (h : ds[k]? = some kd) (hv : fldOf ad M' a k kd = v) (ho : ∀ j kd2, j ≠ k → fldOf ad M' a j kd2 = fldOf ad M a j kd2) : (objOf ad M a ds).set k v = objOf ad M' a ds := by
  apply List.ext_getElem?
  intro j
  rw [List.getElem?_set]
  by_cases e : k = j
  · subst e
    have hl : k < (objOf ad M a ds).length := (List.getElem?_eq_some_iff.mp (obj_get (ad := ad) (M := M) (a := a) h)).1
    rw [if_pos rfl, if_pos hl, obj_get h, hv]
  · rw [if_neg e]
    cases hq : ds[j]? with
    | none => simp [objOf, hq]
    | some q2 => rw [obj_get hq, obj_get hq, ho j q2 (fun e2 => e e2.symm)]
theorem si_off {M : Mem} {a k j : Nat} {v : Int32} (h : j ≠ a) : (si M a k v).1 j = M.1 j ∧ (si M a k v).2 j = M.2 j := ⟨by funext y; simp [si, h], rfl⟩
theorem sl_off {M : Mem} {a k j : Nat} {v : Int64} (h : j ≠ a) : (sl M a k v).1 j = M.1 j ∧ (sl M a k v).2 j = M.2 j := ⟨rfl, by funext y; simp [sl, h]⟩
theorem cpI_off {M : Mem} {a sp b dp n j : Nat} (h : j ≠ b) : (cpI M a sp b dp n).1 j = M.1 j ∧ (cpI M a sp b dp n).2 j = M.2 j := ⟨by funext y; simp [cpI, h], rfl⟩
theorem cpL_off {M : Mem} {a sp b dp n j : Nat} (h : j ≠ b) : (cpL M a sp b dp n).1 j = M.1 j ∧ (cpL M a sp b dp n).2 j = M.2 j := ⟨rfl, by funext y; simp [cpL, h]⟩
theorem rv_cat (ad : Nat → Nat) (v : Value) : (rv ad v).category = v.category := by cases v <;> rfl
theorem rv_cats (ad : Nat → Nat) : ∀ st : List Value, ((st.map (rv ad)).map fun v => v.category).sum = (st.map fun v => v.category).sum
  | [] => rfl
  | v :: st => by
    have h := rv_cats ad st
    simp only [List.map_cons, List.sum_cons, rv_cat]
    rw [h]
theorem lvp_get {ad : Nat → Nat} {lv : List (Nat × Value)} {k i : Nat} {v : Value} (h : lv[k]? = some (i, v)) : (lv.map (rvp ad))[k]? = some (i, rv ad v) := by
  rw [List.getElem?_map, h]; rfl
theorem lvp_filter {ad : Nat → Nat} {lv lv' : List (Nat × Value)} {i : Nat} {v : Value} (h : (i, v) :: lv.filter (fun q => !(q.1 == i) && !(q.1 + 1 == i && q.2.category == 2)) = lv') : (i, rv ad v) :: (lv.map (rvp ad)).filter (fun q => !(q.1 == i) && !(q.1 + 1 == i && q.2.category == 2)) = lv'.map (rvp ad) := by
  subst h
  rw [List.map_cons, List.filter_map]
  have e : ((fun q : Nat × Value => !(q.1 == i) && !(q.1 + 1 == i && q.2.category == 2)) ∘ rvp ad) = (fun q : Nat × Value => !(q.1 == i) && !(q.1 + 1 == i && q.2.category == 2)) := by
    funext q
    simp [rvp, rv_cat]
  rw [e]
  rfl
theorem lvp_filter2 {ad : Nat → Nat} {lv lv' : List (Nat × Value)} {i : Nat} {v : Value} {f : Nat × Value → Bool} (hf : ∀ q, f (rvp ad q) = f q) (h : (i, v) :: lv.filter f = lv') : (i, rv ad v) :: (lv.map (rvp ad)).filter f = lv'.map (rvp ad) := by
  subst h
  rw [List.map_cons, List.filter_map]
  have e : f ∘ rvp ad = f := funext hf
  rw [e]
  rfl
theorem lvp_args (ad : Nat → Nat) : ∀ (i : Nat) (vs : List Value), lv_args i (vs.map (rv ad)) = (lv_args i vs).map (rvp ad)
  | _, [] => rfl
  | i, v :: vs => by
    simp only [List.map_cons, lv_args, rv_cat, rvp]
    rw [lvp_args ad _ vs]
theorem lvp_sl (ad : Nat → Nat) (vs : List Value) : (lg_sl (vs.map (rv ad))).length = (lg_sl vs).length := by
  induction vs with
  | nil => rfl
  | cons v vs ih =>
    simp only [lg_sl, List.map_cons, List.flatMap_cons, List.length_append, rv_cat] at ih ⊢
    rw [ih]
    by_cases h : v.category = 2 <;> simp [h]
