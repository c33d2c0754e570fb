/-! ROWS: memory and calls (written by wip/gen/mem.py) -/
def Fl (own : String) (idx ci k : Nat) (ty : FieldType) (fin : Bool) : Prop := ∃ (C : String) (T : u_T) (N : Nat) (ty0 : Nat → FieldType), cl[ci]? = some (C, T, N) ∧ k < N ∧ (∀ w ∈ u_ws C T N, w ∈ tbl) ∧ Cond.fieldLink own idx C (T k).2.1 (T k).2.2.1 ∈ tbl ∧ (T k).1 = C ∧ (∀ k, k < N → parseFieldDescriptor (T k).2.2.1 = some (ty0 k)) ∧ (∀ a, a < N → ∀ b, b < N → a ≠ b → (T a).2.1 ≠ (T b).2.1) ∧ parseFieldDescriptor (T k).2.2.1 = some ty ∧ (T k).2.2.2 = fin
theorem lay_obj {ad : Nat → Nat} {dA : Nat → ClassId} {sh : Shp} {M : Mem} {a ci : Nat} {ds : List Nat} (h : sh[a]? = some (ci, ds)) (hc : ci < 100) : (lay ad dA sh M)[a]? = some (ad a, .inr (ci, objOf ad M a ds)) := by
  rw [lay_get h, cell_obj hc]
theorem lay_int {ad : Nat → Nat} {dA : Nat → ClassId} {sh : Shp} {M : Mem} {a n t : Nat} (h : sh[a]? = some (100 + t, [n])) (ht : t < 3) : (lay ad dA sh M)[a]? = some (ad a, .inl (dA t, n, .inl (M.1 a))) := by
  rw [lay_get h]
  unfold cellOf
  rw [if_neg (by show ¬ 100 + t < 100; omega), if_pos (by show 100 + t < 103; omega), show 100 + t - 100 = t by omega]
  rfl
theorem lay_long {ad : Nat → Nat} {dA : Nat → ClassId} {sh : Shp} {M : Mem} {a n : Nat} (h : sh[a]? = some (103, [n])) : (lay ad dA sh M)[a]? = some (ad a, .inl (dA 3, n, .inr (.inl (M.2 a)))) := lay_get h
theorem lay_refs {ad : Nat → Nat} {dA : Nat → ClassId} {sh : Shp} {M : Mem} {a t : Nat} {ids : List Nat} (h : sh[a]? = some (104 + t, ids)) : (lay ad dA sh M)[a]? = some (ad a, .inl (dA (4 + t), ids.length, .inr (.inr (.inr (.inr (fun j => (ids[j]?).map ad)))))) := by
  rw [lay_get h]
  unfold cellOf
  rw [if_neg (by show ¬ 104 + t < 100; omega), if_neg (by show ¬ 104 + t < 103; omega), if_neg (by show ¬ 104 + t = 103; omega), show 104 + t - 100 = 4 + t by omega]
theorem j_getI {R : Type} {mt : Mt} {wr : R → Option Value} {pc : Nat} {lv : List (Nat × Value)} {st : List Value} {M : Mem} {F : Option (R × Mem)} {a ci k idx : Nat} {ds : List Nat} {ty : FieldType} {fin : Bool} (hd : decode mt.2.1 pc = .ok (.getfield idx, 3)) (hf : Fl mt.1 idx ci k ty fin) (hs : mt.2.2.2.2.2[a]? = some (ci, ds)) (hc : ci < 100) (hk : ds[k]? = some 0) (K : J mt wr (pc + 3) lv (.int (M.1 a k) :: st) M F) : J mt wr pc lv (.ref a :: st) M F := by
  intro r M' hF p l e s m args below meth c D ad dA A mc ms hp H locs ls hP hD hS hl
  obtain ⟨hx, hb, hr, hml, hown, hts, hlk, hC⟩ := id hp
  obtain ⟨C, T, N, ty0, e1, e2, e3, e4, e5, e6, e7, e8, e9⟩ := hf
  exact va_get (D := (D.1, D.2)) hx hb hts e3 hown hC.1 hP a (lay_obj hs hc) e1 k e2 (hts _ e4) (fun x h => by rw [e5] at h; exact h) (obj_get hk) hd (K r M' hF p l e s m args below meth c D ad dA A mc ms hp H locs ls hP hD hS hl)
theorem j_getL {R : Type} {mt : Mt} {wr : R → Option Value} {pc : Nat} {lv : List (Nat × Value)} {st : List Value} {M : Mem} {F : Option (R × Mem)} {a ci k idx : Nat} {ds : List Nat} {ty : FieldType} {fin : Bool} (hd : decode mt.2.1 pc = .ok (.getfield idx, 3)) (hf : Fl mt.1 idx ci k ty fin) (hs : mt.2.2.2.2.2[a]? = some (ci, ds)) (hc : ci < 100) (hk : ds[k]? = some 1) (K : J mt wr (pc + 3) lv (.long (M.2 a k) :: st) M F) : J mt wr pc lv (.ref a :: st) M F := by
  intro r M' hF p l e s m args below meth c D ad dA A mc ms hp H locs ls hP hD hS hl
  obtain ⟨hx, hb, hr, hml, hown, hts, hlk, hC⟩ := id hp
  obtain ⟨C, T, N, ty0, e1, e2, e3, e4, e5, e6, e7, e8, e9⟩ := hf
  exact va_get (D := (D.1, D.2)) hx hb hts e3 hown hC.1 hP a (lay_obj hs hc) e1 k e2 (hts _ e4) (fun x h => by rw [e5] at h; exact h) (obj_get hk) hd (K r M' hF p l e s m args below meth c D ad dA A mc ms hp H locs ls hP hD hS hl)
theorem j_getA {R : Type} {mt : Mt} {wr : R → Option Value} {pc : Nat} {lv : List (Nat × Value)} {st : List Value} {M : Mem} {F : Option (R × Mem)} {a ci k idx : Nat} {ds : List Nat} {ty : FieldType} {fin : Bool} {b : Nat} (hd : decode mt.2.1 pc = .ok (.getfield idx, 3)) (hf : Fl mt.1 idx ci k ty fin) (hs : mt.2.2.2.2.2[a]? = some (ci, ds)) (hc : ci < 100) (hk : ds[k]? = some (b + 2)) (K : J mt wr (pc + 3) lv (.ref b :: st) M F) : J mt wr pc lv (.ref a :: st) M F := by
  intro r M' hF p l e s m args below meth c D ad dA A mc ms hp H locs ls hP hD hS hl
  obtain ⟨hx, hb, hr, hml, hown, hts, hlk, hC⟩ := id hp
  obtain ⟨C, T, N, ty0, e1, e2, e3, e4, e5, e6, e7, e8, e9⟩ := hf
  exact va_get (D := (D.1, D.2)) hx hb hts e3 hown hC.1 hP a (lay_obj hs hc) e1 k e2 (hts _ e4) (fun x h => by rw [e5] at h; exact h) (obj_get hk) hd (K r M' hF p l e s m args below meth c D ad dA A mc ms hp H locs ls hP hD hS hl)
theorem j_putI {R : Type} {mt : Mt} {wr : R → Option Value} {pc : Nat} {lv : List (Nat × Value)} {st : List Value} {M : Mem} {F : Option (R × Mem)} {a ci k idx : Nat} {ds : List Nat} {ty : FieldType} {v : Int32} (hd : decode mt.2.1 pc = .ok (.putfield idx, 3)) (hf : Fl mt.1 idx ci k ty false) (ht : ty = .int) (hs : mt.2.2.2.2.2[a]? = some (ci, ds)) (hc : ci < 100) (hk : ds[k]? = some 0) (K : J mt wr (pc + 3) lv st (si M a k v) F) : J mt wr pc lv (.int v :: .ref a :: st) M F := by
  intro r M' hF p l e s m args below meth c D ad dA A mc ms hp H locs ls hP hD hS hl
  obtain ⟨hx, hb, hr, hml, hown, hts, hlk, hC⟩ := id hp
  obtain ⟨C, T, N, ty0, e1, e2, e3, e4, e5, e6, e7, e8, e9⟩ := hf
  have hset : (lay ad dA mt.2.2.2.2.2 M).set a (ad a, .inr (ci, (objOf ad M a ds).set k (.int v))) = lay ad dA mt.2.2.2.2.2 (si M a k v) := by
    refine lay_set hs ?_ (fun j hj => si_off hj)
    rw [cell_obj hc, obj_set hk (M' := si M a k v) (by simp [fldOf, si]) (fun j kd2 hj => by
      match kd2 with
      | 0 => simp [fldOf, si, hj]
      | 1 => simp [fldOf, si, hj]
      | r + 2 => rfl)]
  refine va_put (v := .int v) (D := (D.1, D.2)) hx hb hts e3 ty0 e6 e7 hown hC.1 hP hD hS a (lay_obj hs hc) e1 k e2 (hts _ e4) (fun x h => by rw [e5] at h; exact h) e9 e8 (by rw [ht]; rfl) (by rw [ht]; rfl) ((List.getElem?_eq_some_iff.mp (obj_get (ad := ad) (M := M) (a := a) hk)).1) hd (fun H1 locs1 hP1 hD1 hS1 => ?_)
  rw [hset] at hP1 hD1
  exact K r M' hF p l e s m args below meth c D ad dA A mc ms hp H1 locs1 ls hP1 hD1 hS1 hl
theorem j_putZ {R : Type} {mt : Mt} {wr : R → Option Value} {pc : Nat} {lv : List (Nat × Value)} {st : List Value} {M : Mem} {F : Option (R × Mem)} {a ci k idx : Nat} {ds : List Nat} {ty : FieldType} {v : Int32} (hd : decode mt.2.1 pc = .ok (.putfield idx, 3)) (hf : Fl mt.1 idx ci k ty false) (hn : narrow ty (.int v) = .int v) (hfi : fits ty (.int v) = true) (hs : mt.2.2.2.2.2[a]? = some (ci, ds)) (hc : ci < 100) (hk : ds[k]? = some 0) (K : J mt wr (pc + 3) lv st (si M a k v) F) : J mt wr pc lv (.int v :: .ref a :: st) M F := by
  intro r M' hF p l e s m args below meth c D ad dA A mc ms hp H locs ls hP hD hS hl
  obtain ⟨hx, hb, hr, hml, hown, hts, hlk, hC⟩ := id hp
  obtain ⟨C, T, N, ty0, e1, e2, e3, e4, e5, e6, e7, e8, e9⟩ := hf
  have hset : (lay ad dA mt.2.2.2.2.2 M).set a (ad a, .inr (ci, (objOf ad M a ds).set k (.int v))) = lay ad dA mt.2.2.2.2.2 (si M a k v) := by
    refine lay_set hs ?_ (fun j hj => si_off hj)
    rw [cell_obj hc, obj_set hk (M' := si M a k v) (by simp [fldOf, si]) (fun j kd2 hj => by
      match kd2 with
      | 0 => simp [fldOf, si, hj]
      | 1 => simp [fldOf, si, hj]
      | r + 2 => rfl)]
  refine va_put (v := .int v) (D := (D.1, D.2)) hx hb hts e3 ty0 e6 e7 hown hC.1 hP hD hS a (lay_obj hs hc) e1 k e2 (hts _ e4) (fun x h => by rw [e5] at h; exact h) e9 e8 hn hfi ((List.getElem?_eq_some_iff.mp (obj_get (ad := ad) (M := M) (a := a) hk)).1) hd (fun H1 locs1 hP1 hD1 hS1 => ?_)
  rw [hset] at hP1 hD1
  exact K r M' hF p l e s m args below meth c D ad dA A mc ms hp H1 locs1 ls hP1 hD1 hS1 hl
theorem j_putL {R : Type} {mt : Mt} {wr : R → Option Value} {pc : Nat} {lv : List (Nat × Value)} {st : List Value} {M : Mem} {F : Option (R × Mem)} {a ci k idx : Nat} {ds : List Nat} {ty : FieldType} {v : Int64} (hd : decode mt.2.1 pc = .ok (.putfield idx, 3)) (hf : Fl mt.1 idx ci k ty false) (ht : ty = .long) (hs : mt.2.2.2.2.2[a]? = some (ci, ds)) (hc : ci < 100) (hk : ds[k]? = some 1) (K : J mt wr (pc + 3) lv st (sl M a k v) F) : J mt wr pc lv (.long v :: .ref a :: st) M F := by
  intro r M' hF p l e s m args below meth c D ad dA A mc ms hp H locs ls hP hD hS hl
  obtain ⟨hx, hb, hr, hml, hown, hts, hlk, hC⟩ := id hp
  obtain ⟨C, T, N, ty0, e1, e2, e3, e4, e5, e6, e7, e8, e9⟩ := hf
  have hset : (lay ad dA mt.2.2.2.2.2 M).set a (ad a, .inr (ci, (objOf ad M a ds).set k (.long v))) = lay ad dA mt.2.2.2.2.2 (sl M a k v) := by
    refine lay_set hs ?_ (fun j hj => sl_off hj)
    rw [cell_obj hc, obj_set hk (M' := sl M a k v) (by simp [fldOf, sl]) (fun j kd2 hj => by
      match kd2 with
      | 0 => simp [fldOf, sl, hj]
      | 1 => simp [fldOf, sl, hj]
      | r + 2 => rfl)]
  refine va_put (v := .long v) (D := (D.1, D.2)) hx hb hts e3 ty0 e6 e7 hown hC.1 hP hD hS a (lay_obj hs hc) e1 k e2 (hts _ e4) (fun x h => by rw [e5] at h; exact h) e9 e8 (by rw [ht]; rfl) (by rw [ht]; rfl) ((List.getElem?_eq_some_iff.mp (obj_get (ad := ad) (M := M) (a := a) hk)).1) hd (fun H1 locs1 hP1 hD1 hS1 => ?_)
  rw [hset] at hP1 hD1
  exact K r M' hF p l e s m args below meth c D ad dA A mc ms hp H1 locs1 ls hP1 hD1 hS1 hl
theorem j_iald {R : Type} {mt : Mt} {wr : R → Option Value} {pc : Nat} {lv : List (Nat × Value)} {st : List Value} {M : Mem} {F : Option (R × Mem)} {a n : Nat} {i : Int32} (hd : decode mt.2.1 pc = .ok (.iaload, 1)) (hs : mt.2.2.2.2.2[a]? = some (100, [n])) (K : vp_in i n → J mt wr (pc + 1) lv (.int (M.1 a i.toNatClampNeg) :: st) M F) : J mt wr pc lv (.int i :: .ref a :: st) M (gd i n F) := by
  refine j_gd (fun hin => ?_)
  have K := K hin
  intro r M' hF p l e s m args below meth c D ad dA A mc ms hp H locs ls hP hD hS hl
  obtain ⟨hx, hb, hr, hml, hown, hts, hlk, hC⟩ := id hp
  exact va_iald (D := D) hx hb hC.1 hP a 0 (lay_int (t := 0) hs (by decide)) rfl hin hd (K r M' hF p l e s m args below meth c D ad dA A mc ms hp H locs ls hP hD hS hl)
theorem j_bald {R : Type} {mt : Mt} {wr : R → Option Value} {pc : Nat} {lv : List (Nat × Value)} {st : List Value} {M : Mem} {F : Option (R × Mem)} {a n : Nat} {i : Int32} (hd : decode mt.2.1 pc = .ok (.baload, 1)) (hs : mt.2.2.2.2.2[a]? = some (101, [n])) (K : vp_in i n → J mt wr (pc + 1) lv (.int (M.1 a i.toNatClampNeg) :: st) M F) : J mt wr pc lv (.int i :: .ref a :: st) M (gd i n F) := by
  refine j_gd (fun hin => ?_)
  have K := K hin
  intro r M' hF p l e s m args below meth c D ad dA A mc ms hp H locs ls hP hD hS hl
  obtain ⟨hx, hb, hr, hml, hown, hts, hlk, hC⟩ := id hp
  exact va_bald (D := D) hx hb hC.1 hP a 1 (lay_int (t := 1) hs (by decide)) rfl hin hd (K r M' hF p l e s m args below meth c D ad dA A mc ms hp H locs ls hP hD hS hl)
theorem j_zald {R : Type} {mt : Mt} {wr : R → Option Value} {pc : Nat} {lv : List (Nat × Value)} {st : List Value} {M : Mem} {F : Option (R × Mem)} {a n : Nat} {i : Int32} (hd : decode mt.2.1 pc = .ok (.baload, 1)) (hs : mt.2.2.2.2.2[a]? = some (102, [n])) (K : vp_in i n → J mt wr (pc + 1) lv (.int (M.1 a i.toNatClampNeg) :: st) M F) : J mt wr pc lv (.int i :: .ref a :: st) M (gd i n F) := by
  refine j_gd (fun hin => ?_)
  have K := K hin
  intro r M' hF p l e s m args below meth c D ad dA A mc ms hp H locs ls hP hD hS hl
  obtain ⟨hx, hb, hr, hml, hown, hts, hlk, hC⟩ := id hp
  exact va_zald (D := D) hx hb hC.1 hP a 2 (lay_int (t := 2) hs (by decide)) rfl hin hd (K r M' hF p l e s m args below meth c D ad dA A mc ms hp H locs ls hP hD hS hl)
theorem j_lald {R : Type} {mt : Mt} {wr : R → Option Value} {pc : Nat} {lv : List (Nat × Value)} {st : List Value} {M : Mem} {F : Option (R × Mem)} {a n : Nat} {i : Int32} (hd : decode mt.2.1 pc = .ok (.laload, 1)) (hs : mt.2.2.2.2.2[a]? = some (103, [n])) (K : vp_in i n → J mt wr (pc + 1) lv (.long (M.2 a i.toNatClampNeg) :: st) M F) : J mt wr pc lv (.int i :: .ref a :: st) M (gd i n F) := by
  refine j_gd (fun hin => ?_)
  have K := K hin
  intro r M' hF p l e s m args below meth c D ad dA A mc ms hp H locs ls hP hD hS hl
  obtain ⟨hx, hb, hr, hml, hown, hts, hlk, hC⟩ := id hp
  exact va_lald (D := D) hx hb hC.1 hP a 3 (lay_long hs) rfl hin hd (K r M' hF p l e s m args below meth c D ad dA A mc ms hp H locs ls hP hD hS hl)
theorem j_aald0 {R : Type} {mt : Mt} {wr : R → Option Value} {pc : Nat} {lv : List (Nat × Value)} {st : List Value} {M : Mem} {F : Option (R × Mem)} {a : Nat} {ids : List Nat} {i : Int32} (hd : decode mt.2.1 pc = .ok (.aaload, 1)) (hs : mt.2.2.2.2.2[a]? = some (104, ids)) (K : vp_in i ids.length → J mt wr (pc + 1) lv (.ref (ids.getD i.toNatClampNeg 0) :: st) M F) : J mt wr pc lv (.int i :: .ref a :: st) M (gd i ids.length F) := by
  refine j_gd (fun hin => ?_)
  have K := K hin
  intro r M' hF p l e s m args below meth c D ad dA A mc ms hp H locs ls hP hD hS hl
  obtain ⟨hx, hb, hr, hml, hown, hts, hlk, hC⟩ := id hp
  have hlt : i.toNatClampNeg < ids.length := Nat.not_le.mp fun q => hin (Or.inr q)
  have he : (ids[i.toNatClampNeg]?).map ad = some (ad (ids.getD i.toNatClampNeg 0)) := by
    rw [List.getD_eq_getElem?_getD, List.getElem?_eq_getElem hlt]; rfl
  refine W.aald (v := .ref (ad (ids.getD i.toNatClampNeg 0))) (ty := (.object "ShakeHands$Minds")) hx hb (hP a _ (lay_refs (t := 0) hs)) ((hC.1.2 4 _ rfl).1 ids.length (fun j => va_rf ((ids[j]?).map ad))) rfl (fun q => by cases q) (by show ¬ (i < 0 ∨ (arrV _ _ _).slots.size ≤ _); rw [arrV_size]; exact hin) (by show (arrV _ _ _).slots[_]? = _; rw [arrV_read _ _ hlt]; exact congrArg (fun o => some (va_rf o)) he) rfl rfl hd (K r M' hF p l e s m args below meth c D ad dA A mc ms hp H locs ls hP hD hS hl)
theorem j_aald1 {R : Type} {mt : Mt} {wr : R → Option Value} {pc : Nat} {lv : List (Nat × Value)} {st : List Value} {M : Mem} {F : Option (R × Mem)} {a : Nat} {ids : List Nat} {i : Int32} (hd : decode mt.2.1 pc = .ok (.aaload, 1)) (hs : mt.2.2.2.2.2[a]? = some (105, ids)) (K : vp_in i ids.length → J mt wr (pc + 1) lv (.ref (ids.getD i.toNatClampNeg 0) :: st) M F) : J mt wr pc lv (.int i :: .ref a :: st) M (gd i ids.length F) := by
  refine j_gd (fun hin => ?_)
  have K := K hin
  intro r M' hF p l e s m args below meth c D ad dA A mc ms hp H locs ls hP hD hS hl
  obtain ⟨hx, hb, hr, hml, hown, hts, hlk, hC⟩ := id hp
  have hlt : i.toNatClampNeg < ids.length := Nat.not_le.mp fun q => hin (Or.inr q)
  have he : (ids[i.toNatClampNeg]?).map ad = some (ad (ids.getD i.toNatClampNeg 0)) := by
    rw [List.getD_eq_getElem?_getD, List.getElem?_eq_getElem hlt]; rfl
  refine W.aald (v := .ref (ad (ids.getD i.toNatClampNeg 0))) (ty := (.object "ShakeHands$Sheet")) hx hb (hP a _ (lay_refs (t := 1) hs)) ((hC.1.2 5 _ rfl).1 ids.length (fun j => va_rf ((ids[j]?).map ad))) rfl (fun q => by cases q) (by show ¬ (i < 0 ∨ (arrV _ _ _).slots.size ≤ _); rw [arrV_size]; exact hin) (by show (arrV _ _ _).slots[_]? = _; rw [arrV_read _ _ hlt]; exact congrArg (fun o => some (va_rf o)) he) rfl rfl hd (K r M' hF p l e s m args below meth c D ad dA A mc ms hp H locs ls hP hD hS hl)
theorem j_aald2 {R : Type} {mt : Mt} {wr : R → Option Value} {pc : Nat} {lv : List (Nat × Value)} {st : List Value} {M : Mem} {F : Option (R × Mem)} {a : Nat} {ids : List Nat} {i : Int32} (hd : decode mt.2.1 pc = .ok (.aaload, 1)) (hs : mt.2.2.2.2.2[a]? = some (106, ids)) (K : vp_in i ids.length → J mt wr (pc + 1) lv (.ref (ids.getD i.toNatClampNeg 0) :: st) M F) : J mt wr pc lv (.int i :: .ref a :: st) M (gd i ids.length F) := by
  refine j_gd (fun hin => ?_)
  have K := K hin
  intro r M' hF p l e s m args below meth c D ad dA A mc ms hp H locs ls hP hD hS hl
  obtain ⟨hx, hb, hr, hml, hown, hts, hlk, hC⟩ := id hp
  have hlt : i.toNatClampNeg < ids.length := Nat.not_le.mp fun q => hin (Or.inr q)
  have he : (ids[i.toNatClampNeg]?).map ad = some (ad (ids.getD i.toNatClampNeg 0)) := by
    rw [List.getD_eq_getElem?_getD, List.getElem?_eq_getElem hlt]; rfl
  refine W.aald (v := .ref (ad (ids.getD i.toNatClampNeg 0))) (ty := (.array .long)) hx hb (hP a _ (lay_refs (t := 2) hs)) ((hC.1.2 6 _ rfl).1 ids.length (fun j => va_rf ((ids[j]?).map ad))) rfl (fun q => by cases q) (by show ¬ (i < 0 ∨ (arrV _ _ _).slots.size ≤ _); rw [arrV_size]; exact hin) (by show (arrV _ _ _).slots[_]? = _; rw [arrV_read _ _ hlt]; exact congrArg (fun o => some (va_rf o)) he) rfl rfl hd (K r M' hF p l e s m args below meth c D ad dA A mc ms hp H locs ls hP hD hS hl)
theorem j_iast {R : Type} {mt : Mt} {wr : R → Option Value} {pc : Nat} {lv : List (Nat × Value)} {st : List Value} {M : Mem} {F : Option (R × Mem)} {a n : Nat} {i x : Int32} (hd : decode mt.2.1 pc = .ok (.iastore, 1)) (hs : mt.2.2.2.2.2[a]? = some (100, [n])) (K : vp_in i n → J mt wr (pc + 1) lv st (si M a i.toNatClampNeg x) F) : J mt wr pc lv (.int x :: .int i :: .ref a :: st) M (gd i n F) := by
  refine j_gd (fun hin => ?_)
  have K := K hin
  intro r M' hF p l e s m args below meth c D ad dA A mc ms hp H locs ls hP hD hS hl
  obtain ⟨hx, hb, hr, hml, hown, hts, hlk, hC⟩ := id hp
  have hset : (lay ad dA mt.2.2.2.2.2 M).set a (ad a, .inl (dA 0, n, .inl (upd (M.1 a) i.toNatClampNeg x))) = lay ad dA mt.2.2.2.2.2 (si M a i.toNatClampNeg x) := by
    refine lay_set hs ?_ (fun j hj => si_off hj)
    have e : upd (M.1 a) i.toNatClampNeg x = (si M a i.toNatClampNeg x).1 a := by funext y; simp [upd, si]
    rw [e]
    rfl
  refine va_iast (D := D) hx hb hC.1 hP hD hS a 0 (lay_int (t := 0) hs (by decide)) rfl hin hd (fun H1 locs1 hP1 hD1 hS1 => ?_)
  rw [hset] at hP1 hD1
  exact K r M' hF p l e s m args below meth c D ad dA A mc ms hp H1 locs1 ls hP1 hD1 hS1 hl
theorem j_bast {R : Type} {mt : Mt} {wr : R → Option Value} {pc : Nat} {lv : List (Nat × Value)} {st : List Value} {M : Mem} {F : Option (R × Mem)} {a n : Nat} {i x : Int32} (hd : decode mt.2.1 pc = .ok (.bastore, 1)) (hs : mt.2.2.2.2.2[a]? = some (101, [n])) (K : vp_in i n → J mt wr (pc + 1) lv st (si M a i.toNatClampNeg (vp_nar .byte x)) F) : J mt wr pc lv (.int x :: .int i :: .ref a :: st) M (gd i n F) := by
  refine j_gd (fun hin => ?_)
  have K := K hin
  intro r M' hF p l e s m args below meth c D ad dA A mc ms hp H locs ls hP hD hS hl
  obtain ⟨hx, hb, hr, hml, hown, hts, hlk, hC⟩ := id hp
  have hset : (lay ad dA mt.2.2.2.2.2 M).set a (ad a, .inl (dA 1, n, .inl (upd (M.1 a) i.toNatClampNeg (vp_nar .byte x)))) = lay ad dA mt.2.2.2.2.2 (si M a i.toNatClampNeg (vp_nar .byte x)) := by
    refine lay_set hs ?_ (fun j hj => si_off hj)
    have e : upd (M.1 a) i.toNatClampNeg (vp_nar .byte x) = (si M a i.toNatClampNeg (vp_nar .byte x)).1 a := by funext y; simp [upd, si]
    rw [e]
    rfl
  refine va_bast (D := D) hx hb hC.1 hP hD hS a 1 (lay_int (t := 1) hs (by decide)) rfl hin hd (fun H1 locs1 hP1 hD1 hS1 => ?_)
  rw [hset] at hP1 hD1
  exact K r M' hF p l e s m args below meth c D ad dA A mc ms hp H1 locs1 ls hP1 hD1 hS1 hl
theorem j_zast {R : Type} {mt : Mt} {wr : R → Option Value} {pc : Nat} {lv : List (Nat × Value)} {st : List Value} {M : Mem} {F : Option (R × Mem)} {a n : Nat} {i x : Int32} (hd : decode mt.2.1 pc = .ok (.bastore, 1)) (hs : mt.2.2.2.2.2[a]? = some (102, [n])) (K : vp_in i n → J mt wr (pc + 1) lv st (si M a i.toNatClampNeg (vp_nar .boolean x)) F) : J mt wr pc lv (.int x :: .int i :: .ref a :: st) M (gd i n F) := by
  refine j_gd (fun hin => ?_)
  have K := K hin
  intro r M' hF p l e s m args below meth c D ad dA A mc ms hp H locs ls hP hD hS hl
  obtain ⟨hx, hb, hr, hml, hown, hts, hlk, hC⟩ := id hp
  have hset : (lay ad dA mt.2.2.2.2.2 M).set a (ad a, .inl (dA 2, n, .inl (upd (M.1 a) i.toNatClampNeg (vp_nar .boolean x)))) = lay ad dA mt.2.2.2.2.2 (si M a i.toNatClampNeg (vp_nar .boolean x)) := by
    refine lay_set hs ?_ (fun j hj => si_off hj)
    have e : upd (M.1 a) i.toNatClampNeg (vp_nar .boolean x) = (si M a i.toNatClampNeg (vp_nar .boolean x)).1 a := by funext y; simp [upd, si]
    rw [e]
    rfl
  refine va_zast (D := D) hx hb hC.1 hP hD hS a 2 (lay_int (t := 2) hs (by decide)) rfl hin hd (fun H1 locs1 hP1 hD1 hS1 => ?_)
  rw [hset] at hP1 hD1
  exact K r M' hF p l e s m args below meth c D ad dA A mc ms hp H1 locs1 ls hP1 hD1 hS1 hl
theorem j_last {R : Type} {mt : Mt} {wr : R → Option Value} {pc : Nat} {lv : List (Nat × Value)} {st : List Value} {M : Mem} {F : Option (R × Mem)} {a n : Nat} {i : Int32} {x : Int64} (hd : decode mt.2.1 pc = .ok (.lastore, 1)) (hs : mt.2.2.2.2.2[a]? = some (103, [n])) (K : vp_in i n → J mt wr (pc + 1) lv st (sl M a i.toNatClampNeg x) F) : J mt wr pc lv (.long x :: .int i :: .ref a :: st) M (gd i n F) := by
  refine j_gd (fun hin => ?_)
  have K := K hin
  intro r M' hF p l e s m args below meth c D ad dA A mc ms hp H locs ls hP hD hS hl
  obtain ⟨hx, hb, hr, hml, hown, hts, hlk, hC⟩ := id hp
  have hset : (lay ad dA mt.2.2.2.2.2 M).set a (ad a, .inl (dA 3, n, .inr (.inl (vp_updL (M.2 a) i.toNatClampNeg x)))) = lay ad dA mt.2.2.2.2.2 (sl M a i.toNatClampNeg x) := by
    refine lay_set hs ?_ (fun j hj => sl_off hj)
    have e : vp_updL (M.2 a) i.toNatClampNeg x = (sl M a i.toNatClampNeg x).2 a := by funext y; simp [vp_updL, sl]
    rw [e]
    rfl
  refine va_last (D := D) hx hb hC.1 hP hD hS a 3 (lay_long hs) rfl hin hd (fun H1 locs1 hP1 hD1 hS1 => ?_)
  rw [hset] at hP1 hD1
  exact K r M' hF p l e s m args below meth c D ad dA A mc ms hp H1 locs1 ls hP1 hD1 hS1 hl
theorem j_alen {R : Type} {mt : Mt} {wr : R → Option Value} {pc : Nat} {lv : List (Nat × Value)} {st : List Value} {M : Mem} {F : Option (R × Mem)} {a n t : Nat} (hd : decode mt.2.1 pc = .ok (.arraylength, 1)) (hs : mt.2.2.2.2.2[a]? = some (100 + t, [n])) (ht : t < 3) (K : J mt wr (pc + 1) lv (.int (nI n) :: st) M F) : J mt wr pc lv (.ref a :: st) M F := by
  intro r M' hF p l e s m args below meth c D ad dA A mc ms hp H locs ls hP hD hS hl
  obtain ⟨hx, hb, hr, hml, hown, hts, hlk, hC⟩ := id hp
  have ht2 : ∃ ty, (tysOf dA)[t]? = some (dA t, ty) := by
    match t, ht with
    | 0, _ => exact ⟨_, rfl⟩
    | 1, _ => exact ⟨_, rfl⟩
    | 2, _ => exact ⟨_, rfl⟩
  obtain ⟨ty, ht2⟩ := ht2
  exact va_alen (D := D) hx hb hC.1 hP a t (lay_int hs ht) ht2 rfl hd (K r M' hF p l e s m args below meth c D ad dA A mc ms hp H locs ls hP hD hS hl)
theorem j_gets200 {R : Type} {mt : Mt} {wr : R → Option Value} {pc : Nat} {lv : List (Nat × Value)} {st : List Value} {M : Mem} {F : Option (R × Mem)} {idx : Nat} (hd : decode mt.2.1 pc = .ok (.getstatic idx, 3)) (hw : (mt.1, idx, "LESSER") ∈ nestF) (K : J mt wr (pc + 3) lv (.ref 200 :: st) M F) : J mt wr pc lv st M F := by
  intro r M' hF p l e s m args below meth c D ad dA A mc ms hp H locs ls hP hD hS hl
  obtain ⟨hx, hb, hr, hml, hown, hts, hlk, hC⟩ := id hp
  exact va_getsN hx hb hC.2.1 hS hown ((hC.2.2.2.2.2.2.2.2.2.1 _ hw).use rfl) (fun x h => h) hd (K r M' hF p l e s m args below meth c D ad dA A mc ms hp H locs ls hP hD hS hl)
theorem j_ialdS200 {R : Type} {mt : Mt} {wr : R → Option Value} {pc : Nat} {lv : List (Nat × Value)} {st : List Value} {M : Mem} {F : Option (R × Mem)} {i : Int32} (hd : decode mt.2.1 pc = .ok (.iaload, 1)) (K : vp_in i 15 → J mt wr (pc + 1) lv (.int (lsr i.toNatClampNeg) :: st) M F) : J mt wr pc lv (.int i :: .ref 200 :: st) M (gd i 15 F) := by
  refine j_gd (fun hin => ?_)
  have K := K hin
  intro r M' hF p l e s m args below meth c D ad dA A mc ms hp H locs ls hP hD hS hl
  obtain ⟨hx, hb, hr, hml, hown, hts, hlk, hC⟩ := id hp
  exact va_ti hx hb hC.2.2.1 hS hin rfl hd (K r M' hF p l e s m args below meth c D ad dA A mc ms hp H locs ls hP hD hS hl)
theorem j_gets201 {R : Type} {mt : Mt} {wr : R → Option Value} {pc : Nat} {lv : List (Nat × Value)} {st : List Value} {M : Mem} {F : Option (R × Mem)} {idx : Nat} (hd : decode mt.2.1 pc = .ok (.getstatic idx, 3)) (hw : (mt.1, idx, "GREATER") ∈ nestF) (K : J mt wr (pc + 3) lv (.ref 201 :: st) M F) : J mt wr pc lv st M F := by
  intro r M' hF p l e s m args below meth c D ad dA A mc ms hp H locs ls hP hD hS hl
  obtain ⟨hx, hb, hr, hml, hown, hts, hlk, hC⟩ := id hp
  exact va_getsN hx hb hC.2.2.2.1 hS hown ((hC.2.2.2.2.2.2.2.2.2.1 _ hw).use rfl) (fun x h => h) hd (K r M' hF p l e s m args below meth c D ad dA A mc ms hp H locs ls hP hD hS hl)
theorem j_ialdS201 {R : Type} {mt : Mt} {wr : R → Option Value} {pc : Nat} {lv : List (Nat × Value)} {st : List Value} {M : Mem} {F : Option (R × Mem)} {i : Int32} (hd : decode mt.2.1 pc = .ok (.iaload, 1)) (K : vp_in i 15 → J mt wr (pc + 1) lv (.int (grt i.toNatClampNeg) :: st) M F) : J mt wr pc lv (.int i :: .ref 201 :: st) M (gd i 15 F) := by
  refine j_gd (fun hin => ?_)
  have K := K hin
  intro r M' hF p l e s m args below meth c D ad dA A mc ms hp H locs ls hP hD hS hl
  obtain ⟨hx, hb, hr, hml, hown, hts, hlk, hC⟩ := id hp
  exact va_ti hx hb hC.2.2.2.2.1 hS hin rfl hd (K r M' hF p l e s m args below meth c D ad dA A mc ms hp H locs ls hP hD hS hl)
def gc {α : Type} (sp dp n : Int32) (n0 n1 : Nat) (F : Option α) : Option α := if sp < 0 ∨ dp < 0 ∨ n < 0 ∨ n0 < sp.toNatClampNeg + n.toNatClampNeg ∨ n1 < dp.toNatClampNeg + n.toNatClampNeg then none else F
theorem st8 {ad : Nat → Nat} {st : List Value} {d : Nat} (h1 : 1 ≤ d) (hst : (st.map fun v => v.category).sum ≤ 8) : ((st.map (rv ad)).map fun v => v.category).sum + (nativeFrameWords "java/lang/System" "arraycopy" 5 + 11) ≤ 64 * d := by
  rw [rv_cats]
  have : nativeFrameWords "java/lang/System" "arraycopy" 5 ≤ 40 := by decide +kernel
  omega
theorem j_copyI {R : Type} {mt : Mt} {wr : R → Option Value} {pc : Nat} {lv : List (Nat × Value)} {st : List Value} {M : Mem} {F : Option (R × Mem)} {a0 a1 n0 n1 idx : Nat} {sp dp n : Int32} (hd : decode mt.2.1 pc = .ok (.invokestatic idx, 3)) (hw : Cond.methodLink mt.1 idx arraycopyName ∈ tbl) (hwn : Cond.native arraycopyName ∈ tbl) (hws : Cond.static arraycopyName ∈ tbl) (hs0 : mt.2.2.2.2.2[a0]? = some (100, [n0])) (hs1 : mt.2.2.2.2.2[a1]? = some (100, [n1])) (hdp : 1 ≤ mt.2.2.2.2.1) (hst : (st.map fun v => v.category).sum ≤ 8) (K : J mt wr (pc + 3) lv st (cpI M a0 sp.toNatClampNeg a1 dp.toNatClampNeg n.toNatClampNeg) F) : J mt wr pc lv (.int n :: .int dp :: .ref a1 :: .int sp :: .ref a0 :: st) M (gc sp dp n n0 n1 F) := by
  unfold gc
  by_cases hg : sp < 0 ∨ dp < 0 ∨ n < 0 ∨ n0 < sp.toNatClampNeg + n.toNatClampNeg ∨ n1 < dp.toNatClampNeg + n.toNatClampNeg
  · rw [if_pos hg]; exact j_none
  rw [if_neg hg]
  simp only [not_or] at hg
  obtain ⟨g1, g2, g3, g4, g5⟩ := hg
  intro r M' hF p l e s m args below meth c D ad dA A mc ms hp H locs ls hP hD hS hl
  obtain ⟨hx, hb, hr, hml, hown, hts, hlk, hC⟩ := id hp
  have hset : (lay ad dA mt.2.2.2.2.2 M).set a1 (ad a1, .inl (dA 0, n1, .inl (va_cpy (M.1 a0) (M.1 a1) sp.toNatClampNeg dp.toNatClampNeg n.toNatClampNeg))) = lay ad dA mt.2.2.2.2.2 (cpI M a0 sp.toNatClampNeg a1 dp.toNatClampNeg n.toNatClampNeg) := by
    refine lay_set hs1 ?_ (fun j hj => cpI_off hj)
    have e : va_cpy (M.1 a0) (M.1 a1) sp.toNatClampNeg dp.toNatClampNeg n.toNatClampNeg = (cpI M a0 sp.toNatClampNeg a1 dp.toNatClampNeg n.toNatClampNeg).1 a1 := by funext y; simp [va_cpy, cpI]
    rw [e]
    rfl
  refine va_copyi (D := D) hx hb (hml.trans hl.1.symm) hown (hts _ hw) (hts _ hwn) (hts _ hws) (hts _ ini_System) hC.1 hP hD hS a0 a1 0 0 (lay_int (t := 0) hs0 (by decide)) (lay_int (t := 0) hs1 (by decide)) rfl rfl rfl g1 g2 g3 (Nat.not_lt.mp g4) (Nat.not_lt.mp g5) (fun i _ => rfl) hdp (st8 hdp hst) hd (fun H1 locs1 hP1 hD1 hS1 => ?_)
  rw [hset] at hP1 hD1
  exact K r M' hF p l e s m args below meth c D ad dA A mc ms hp H1 locs1 ls hP1 hD1 hS1 hl
theorem j_copyL {R : Type} {mt : Mt} {wr : R → Option Value} {pc : Nat} {lv : List (Nat × Value)} {st : List Value} {M : Mem} {F : Option (R × Mem)} {a0 a1 n0 n1 idx : Nat} {sp dp n : Int32} (hd : decode mt.2.1 pc = .ok (.invokestatic idx, 3)) (hw : Cond.methodLink mt.1 idx arraycopyName ∈ tbl) (hwn : Cond.native arraycopyName ∈ tbl) (hws : Cond.static arraycopyName ∈ tbl) (hs0 : mt.2.2.2.2.2[a0]? = some (103, [n0])) (hs1 : mt.2.2.2.2.2[a1]? = some (103, [n1])) (hdp : 1 ≤ mt.2.2.2.2.1) (hst : (st.map fun v => v.category).sum ≤ 8) (K : J mt wr (pc + 3) lv st (cpL M a0 sp.toNatClampNeg a1 dp.toNatClampNeg n.toNatClampNeg) F) : J mt wr pc lv (.int n :: .int dp :: .ref a1 :: .int sp :: .ref a0 :: st) M (gc sp dp n n0 n1 F) := by
  unfold gc
  by_cases hg : sp < 0 ∨ dp < 0 ∨ n < 0 ∨ n0 < sp.toNatClampNeg + n.toNatClampNeg ∨ n1 < dp.toNatClampNeg + n.toNatClampNeg
  · rw [if_pos hg]; exact j_none
  rw [if_neg hg]
  simp only [not_or] at hg
  obtain ⟨g1, g2, g3, g4, g5⟩ := hg
  intro r M' hF p l e s m args below meth c D ad dA A mc ms hp H locs ls hP hD hS hl
  obtain ⟨hx, hb, hr, hml, hown, hts, hlk, hC⟩ := id hp
  have hset : (lay ad dA mt.2.2.2.2.2 M).set a1 (ad a1, .inl (dA 3, n1, .inr (.inl (va_cpy (M.2 a0) (M.2 a1) sp.toNatClampNeg dp.toNatClampNeg n.toNatClampNeg)))) = lay ad dA mt.2.2.2.2.2 (cpL M a0 sp.toNatClampNeg a1 dp.toNatClampNeg n.toNatClampNeg) := by
    refine lay_set hs1 ?_ (fun j hj => cpL_off hj)
    have e : va_cpy (M.2 a0) (M.2 a1) sp.toNatClampNeg dp.toNatClampNeg n.toNatClampNeg = (cpL M a0 sp.toNatClampNeg a1 dp.toNatClampNeg n.toNatClampNeg).2 a1 := by funext y; simp [va_cpy, cpL]
    rw [e]
    rfl
  refine va_copyl (D := D) hx hb (hml.trans hl.1.symm) hown (hts _ hw) (hts _ hwn) (hts _ hws) (hts _ ini_System) hC.1 hP hD hS a0 a1 3 3 (lay_long hs0) (lay_long hs1) rfl rfl rfl g1 g2 g3 (Nat.not_lt.mp g4) (Nat.not_lt.mp g5) (fun i _ => rfl) hdp (st8 hdp hst) hd (fun H1 locs1 hP1 hD1 hS1 => ?_)
  rw [hset] at hP1 hD1
  exact K r M' hF p l e s m args below meth c D ad dA A mc ms hp H1 locs1 ls hP1 hD1 hS1 hl
theorem j_mmax {R : Type} {mt : Mt} {wr : R → Option Value} {pc : Nat} {lv : List (Nat × Value)} {st : List Value} {M : Mem} {F : Option (R × Mem)} {x y : Int32} {idx : Nat} (hd : decode mt.2.1 pc = .ok (.invokestatic idx, 3)) (hw : Cond.methodLink mt.1 idx Lib.Math.max.name ∈ tbl) (hws : Cond.static Lib.Math.max.name ∈ tbl) (hwc : Cond.code Lib.Math.max.name Lib.Math.max.code 2 (some .int) ∈ tbl) (hdp : 1 ≤ mt.2.2.2.2.1) (hst : (st.map fun v => v.category).sum ≤ 8) (K : J mt wr (pc + 3) lv (.int (if x < y then y else x) :: st) M F) : J mt wr pc lv (.int y :: .int x :: st) M F := by
  intro r M' hF p l e s m args below meth c D ad dA A mc ms hp H locs ls hP hD hS hl
  obtain ⟨hx, hb, hr, hml, hown, hts, hlk, hC⟩ := id hp
  refine va_mmax hx hb (hml.trans hl.1.symm) hown (hts _ hw) (hts _ hws) (hts _ ini_Math) (hts _ hwc) hdp ?_ (Nat.le_refl _) (Nat.le_refl _) hd (K r M' hF p l e s m args below meth c D ad dA A mc ms hp H locs ls hP hD hS hl)
  show ((st.map (rv ad)).map fun v => v.category).sum + 13 ≤ 64 * mt.2.2.2.2.1
  rw [rv_cats]
  omega
theorem j_mmin {R : Type} {mt : Mt} {wr : R → Option Value} {pc : Nat} {lv : List (Nat × Value)} {st : List Value} {M : Mem} {F : Option (R × Mem)} {x y : Int32} {idx : Nat} (hd : decode mt.2.1 pc = .ok (.invokestatic idx, 3)) (hw : Cond.methodLink mt.1 idx Lib.Math.min.name ∈ tbl) (hws : Cond.static Lib.Math.min.name ∈ tbl) (hwc : Cond.code Lib.Math.min.name Lib.Math.min.code 2 (some .int) ∈ tbl) (hdp : 1 ≤ mt.2.2.2.2.1) (hst : (st.map fun v => v.category).sum ≤ 8) (K : J mt wr (pc + 3) lv (.int (if y < x then y else x) :: st) M F) : J mt wr pc lv (.int y :: .int x :: st) M F := by
  intro r M' hF p l e s m args below meth c D ad dA A mc ms hp H locs ls hP hD hS hl
  obtain ⟨hx, hb, hr, hml, hown, hts, hlk, hC⟩ := id hp
  refine va_mmin hx hb (hml.trans hl.1.symm) hown (hts _ hw) (hts _ hws) (hts _ ini_Math) (hts _ hwc) hdp ?_ (Nat.le_refl _) (Nat.le_refl _) hd (K r M' hF p l e s m args below meth c D ad dA A mc ms hp H locs ls hP hD hS hl)
  show ((st.map (rv ad)).map fun v => v.category).sum + 13 ≤ 64 * mt.2.2.2.2.1
  rw [rv_cats]
  omega
def CV (own : String) (idx : Nat) (y : MethodName) : Prop := Cond.methodLink own idx y ∈ tbl ∧ Cond.instanceMethod y ∈ tbl ∧ Cond.selects y.cls y y ∈ tbl ∧ Cond.initialized y.cls ∈ tbl
def CS (own : String) (idx : Nat) (y : MethodName) : Prop := Cond.methodLink own idx y ∈ tbl ∧ Cond.static y ∈ tbl ∧ Cond.initialized y.cls ∈ tbl
def CSN (own : String) (idx : Nat) (y : MethodName) : Prop := (own, idx, y) ∈ nestM ∧ Cond.static y ∈ tbl ∧ Cond.initialized y.cls ∈ tbl
def Dn (y : MethodName) (n : Nat) : Prop := y.cls ≠ "java/lang/invoke/MethodHandle" ∧ y.cls ≠ "java/lang/invoke/VarHandle" ∧ (parseMethodDescriptor y.desc).map (fun d => d.parameters.length) = some n
def nr {R : Type} (wr : R → Option Value) : Prop := ∀ (r : R) (ad : Nat → Nat), ((wr r).toList.map (rv ad)) = (wr r).toList
theorem nr_I : nr wI := fun _ _ => rfl
theorem nr_L : nr wL := fun _ _ => rfl
theorem nr_U : nr wU := fun _ _ => rfl
theorem good_cons {w : Cond} (h : w ∈ tbl) : GoodIn tbl (w :: tbl) := fun v hv => by
  rcases List.mem_cons.mp hv with rfl | hv
  · exact tbl_good _ h
  · exact tbl_good _ hv
section WC
variable {p : Program} {l : Launch} {e : Env} {R : Room} {s : State} {m : MethodId} {args : Array Value} {below : List Frame} {meth : Method} {c : Code} {H : Heap} {locs : List Loc} {cells slots : Nat} {Q : State → Prop} {pc : Nat} {ls : Array Slot} {rest st0 : List Value} {a : Array Value} {A : Nat → Prop}
theorem wr_call {wv : Option Value} {Post : State → Prop} (hr : va_Run p l e R s m args below meth c H locs cells slots 0 0 (F0 m pc ls st0) rest (Qr wv Post A a) A) (hS : va_S A s.heap H locs)
    (kk : ∀ (t : State) (H1 : Heap) (locs1 : List Loc), t.heap = H1 → Post t → va_S A s.heap H1 locs1 → W p l e R s m args below meth c H1 locs1 cells slots Q (F0 m (pc + 3) ls (wv.toList ++ rest))) : W p l e R s m args below meth c H locs cells slots Q (F0 m pc ls st0) := by
  intro T hT X
  obtain ⟨v, st₀, t, T', L, h0, X', hL, e1, e2, ⟨hv, hp, hz, hk⟩, st⟩ := hr T hT X
  cases hv
  rw [h0] at hz hk
  obtain ⟨t2, a1, b1⟩ := kk t T'.heap (locs ++ L) e1.symm hp
    ⟨Nat.le_trans hS.1 (by rw [e1]; exact hz), fun q h1 h2 => by rw [e1, hk q (Nat.lt_of_lt_of_le h1 hS.1) h2]; exact hS.2.1 q h1 h2, fun q hq => by
      rcases List.mem_append.mp hq with h | h
      · exact hS.2.2 q h
      · exact hL q h⟩ T' rfl X'
  exact ⟨t2, st t2 a1, b1⟩
end WC
theorem bd_some {α β : Type} {x : Option (α × Mem)} {f : α → Mem → Option β} {y : β} (h : bd x f = some y) : ∃ r N, x = some (r, N) ∧ f r N = some y := by
  match x, h with
  | some q, h => exact ⟨q.1, q.2, rfl, h⟩
theorem ct_blind {D : va_G} {ad : Nat → Nat} {dA : Nat → ClassId} {A : Nat → Prop} {sh : Shp} {M : Mem} {av : List Value} : FrameBlind (va_Pc av (fun U => Wd D ad dA A sh M U.heap ∧ Cx D ad dA A U U.heap)) := fun a U g mk q => ⟨q.1, q.2.1, q.2.2.blind⟩
theorem j_callV {R : Type} {mt : Mt} {wr : R → Option Value} {pc : Nat} {lv : List (Nat × Value)} {st : List Value} {M : Mem} {R2 : Type} {wr2 : R2 → Option Value} {mt2 : Mt} {F2 : Option (R2 × Mem)} {k : R2 → Mem → Option (R × Mem)} {y : MethodName} {idx n : Nat} {as : List Value} {a ci N : Nat} {ds : List Nat} {T : u_T} (hd : decode mt.2.1 pc = .ok (.invokevirtual idx, 3)) (hct : Ct y mt2 wr2 (.ref a :: as) M F2) (hw : CV mt.1 idx y) (hcd : Cond.code y mt2.2.1 mt2.2.2.1 mt2.2.2.2.1 ∈ tbl) (hdn : Dn y n) (hn : as.length = n) (hsh : mt2.2.2.2.2.2 = mt.2.2.2.2.2) (hdp : mt2.2.2.2.2.1 + 1 ≤ mt.2.2.2.2.1) (hmx : mt2.2.2.1 ≤ 40) (hst : (st.map fun v => v.category).sum ≤ 8) (hnr : nr wr2) (hs : mt.2.2.2.2.2[a]? = some (ci, ds)) (hc : ci < 100) (hcl : cl[ci]? = some (y.cls, T, N)) (K : ∀ (r : R2) (N : Mem), J mt wr (pc + 3) lv ((wr2 r).toList ++ st) N (k r N)) : J mt wr pc lv (as.reverse ++ .ref a :: st) M (bd F2 k) := by
  intro r M' hF p l e s m args below meth c D ad dA A mc ms hp H locs ls hP hD hS hl
  obtain ⟨hx, hb, hr, hml, hown, hts, hlk, hC⟩ := id hp
  obtain ⟨r1, M1, hF1, hF⟩ := bd_some hF
  have hM := hct r1 M1 hF1 l D ad dA A
  have hR : (rmd mt2.2.2.2.2.1).frames + 1 ≤ (rmc mt.2.2.2.2.1 mc ms).frames ∧ 8 + (mt2.2.2.1 + 11) + (rmd mt2.2.2.2.2.1).locals ≤ (rmc mt.2.2.2.2.1 mc ms).locals := by
    refine ⟨hdp, ?_⟩
    show 8 + (mt2.2.2.1 + 11) + 64 * mt2.2.2.2.2.1 ≤ 64 * mt.2.2.2.2.1
    omega
  refine wr_call (wv := wr2 r1) (rest := st.map (rv ad)) (va_runV (As := as.map (rv ad)) (b := ad a) (C := y.cls) (Ts := tbl) ⟨hx, hb, hml, hown, hts⟩ hM ⟨callB_of n hts (good_cons hcd) rfl rfl rfl (hts _ hw.2.2.2) (hts _ hw.1) hdn hR, hts _ hw.2.1, hts _ hw.2.2.1⟩ ⟨ct_blind, va_recv hC.1 hP hcl (lay_obj hs hc), fun U hU hW => ⟨rfl, by rw [hU, hsh]; exact ⟨hP, hD⟩, by rw [hU]; exact hC.next hS hW⟩⟩ rfl (by rw [List.length_map]; exact hn) hl.1 ?_ (lv_room (by rw [rv_cats]; exact hst)) hd ⟨Nat.le_refl _, Nat.le_refl _⟩) hS (fun t H1 locs1 ht hpost hS1 => ?_)
  · show (as.reverse ++ .ref a :: st).map (rv ad) = (as.map (rv ad)).reverse ++ .ref (ad a) :: st.map (rv ad)
    rw [List.map_append, List.map_reverse]
    rfl
  obtain ⟨hP1, hD1⟩ := hpost
  rw [ht] at hP1
  rw [hsh] at hP1 hD1
  have hk := K r1 M1 r M' hF p l e s m args below meth c D ad dA A mc ms hp H1 locs1 ls hP1 hD1 hS1 hl
  rw [List.map_append, hnr] at hk
  exact hk
theorem j_callS {R : Type} {mt : Mt} {wr : R → Option Value} {pc : Nat} {lv : List (Nat × Value)} {st : List Value} {M : Mem} {R2 : Type} {wr2 : R2 → Option Value} {mt2 : Mt} {F2 : Option (R2 × Mem)} {k : R2 → Mem → Option (R × Mem)} {y : MethodName} {idx n : Nat} {as : List Value} (hd : decode mt.2.1 pc = .ok (.invokestatic idx, 3)) (hct : Ct y mt2 wr2 as M F2) (hw : CS mt.1 idx y) (hcd : Cond.code y mt2.2.1 mt2.2.2.1 mt2.2.2.2.1 ∈ tbl) (hdn : Dn y n) (hn : as.length = n) (hsh : mt2.2.2.2.2.2 = mt.2.2.2.2.2) (hdp : mt2.2.2.2.2.1 + 1 ≤ mt.2.2.2.2.1) (hmx : mt2.2.2.1 ≤ 40) (hst : (st.map fun v => v.category).sum ≤ 8) (hnr : nr wr2) (K : ∀ (r : R2) (N : Mem), J mt wr (pc + 3) lv ((wr2 r).toList ++ st) N (k r N)) : J mt wr pc lv (as.reverse ++ st) M (bd F2 k) := by
  intro r M' hF p l e s m args below meth c D ad dA A mc ms hp H locs ls hP hD hS hl
  obtain ⟨hx, hb, hr, hml, hown, hts, hlk, hC⟩ := id hp
  obtain ⟨r1, M1, hF1, hF⟩ := bd_some hF
  have hM := hct r1 M1 hF1 l D ad dA A
  have hR : (rmd mt2.2.2.2.2.1).frames + 1 ≤ (rmc mt.2.2.2.2.1 mc ms).frames ∧ 8 + (mt2.2.2.1 + 11) + (rmd mt2.2.2.2.2.1).locals ≤ (rmc mt.2.2.2.2.1 mc ms).locals := by
    refine ⟨hdp, ?_⟩
    show 8 + (mt2.2.2.1 + 11) + 64 * mt2.2.2.2.2.1 ≤ 64 * mt.2.2.2.2.1
    omega
  refine wr_call (wv := wr2 r1) (rest := st.map (rv ad)) (va_runS (As := as.map (rv ad)) (Ts := tbl) ⟨hx, hb, hml, hown, hts⟩ hM ⟨callB_of n hts (good_cons hcd) rfl rfl rfl (hts _ hw.2.2) (hts _ hw.1) hdn hR, hts _ hw.2.1⟩ ⟨ct_blind, fun U hU hW => ⟨rfl, by rw [hU, hsh]; exact ⟨hP, hD⟩, by rw [hU]; exact hC.next hS hW⟩⟩ rfl (by rw [List.length_map]; exact hn) hl.1 ?_ (lv_room (by rw [rv_cats]; exact hst)) hd ⟨Nat.le_refl _, Nat.le_refl _⟩) hS (fun t H1 locs1 ht hpost hS1 => ?_)
  · show (as.reverse ++ st).map (rv ad) = (as.map (rv ad)).reverse ++ st.map (rv ad)
    rw [List.map_append, List.map_reverse]
  obtain ⟨hP1, hD1⟩ := hpost
  rw [ht] at hP1
  rw [hsh] at hP1 hD1
  have hk := K r1 M1 r M' hF p l e s m args below meth c D ad dA A mc ms hp H1 locs1 ls hP1 hD1 hS1 hl
  rw [List.map_append, hnr] at hk
  exact hk
theorem j_callSN {R : Type} {mt : Mt} {wr : R → Option Value} {pc : Nat} {lv : List (Nat × Value)} {st : List Value} {M : Mem} {R2 : Type} {wr2 : R2 → Option Value} {mt2 : Mt} {F2 : Option (R2 × Mem)} {k : R2 → Mem → Option (R × Mem)} {y : MethodName} {idx n : Nat} {as : List Value} (hd : decode mt.2.1 pc = .ok (.invokestatic idx, 3)) (hct : Ct y mt2 wr2 as M F2) (hw : CSN mt.1 idx y) (hcd : Cond.code y mt2.2.1 mt2.2.2.1 mt2.2.2.2.1 ∈ tbl) (hdn : Dn y n) (hn : as.length = n) (hsh : mt2.2.2.2.2.2 = mt.2.2.2.2.2) (hdp : mt2.2.2.2.2.1 + 1 ≤ mt.2.2.2.2.1) (hmx : mt2.2.2.1 ≤ 40) (hst : (st.map fun v => v.category).sum ≤ 8) (hnr : nr wr2) (K : ∀ (r : R2) (N : Mem), J mt wr (pc + 3) lv ((wr2 r).toList ++ st) N (k r N)) : J mt wr pc lv (as.reverse ++ st) M (bd F2 k) := by
  intro r M' hF p l e s m args below meth c D ad dA A mc ms hp H locs ls hP hD hS hl
  obtain ⟨hx, hb, hr, hml, hown, hts, hlk, hC⟩ := id hp
  obtain ⟨r1, M1, hF1, hF⟩ := bd_some hF
  have hM := hct r1 M1 hF1 l D ad dA A
  have hR : (rmd mt2.2.2.2.2.1).frames + 1 ≤ (rmc mt.2.2.2.2.1 mc ms).frames ∧ 8 + (mt2.2.2.1 + 11) + (rmd mt2.2.2.2.2.1).locals ≤ (rmc mt.2.2.2.2.1 mc ms).locals := by
    refine ⟨hdp, ?_⟩
    show 8 + (mt2.2.2.1 + 11) + 64 * mt2.2.2.2.2.1 ≤ 64 * mt.2.2.2.2.1
    omega
  refine wr_call (wv := wr2 r1) (rest := st.map (rv ad)) (va_runSN (As := as.map (rv ad)) (Ts := tbl) ⟨hx, hb, hml, hown, hts⟩ hM ⟨va_cnB n hts (good_cons hcd) rfl rfl rfl (hC.2.2.2.2.2.2.2.2.2.2 _ hw.1) (hts _ hw.2.2) hdn hR, hts _ hw.2.1, trivial⟩ ⟨ct_blind, fun U hU hW => ⟨rfl, by rw [hU, hsh]; exact ⟨hP, hD⟩, by rw [hU]; exact hC.next hS hW⟩⟩ rfl (by rw [List.length_map]; exact hn) hl.1 ?_ (lv_room (by rw [rv_cats]; exact hst)) hd ⟨Nat.le_refl _, Nat.le_refl _⟩) hS (fun t H1 locs1 ht hpost hS1 => ?_)
  · show (as.reverse ++ st).map (rv ad) = (as.map (rv ad)).reverse ++ st.map (rv ad)
    rw [List.map_append, List.map_reverse]
  obtain ⟨hP1, hD1⟩ := hpost
  rw [ht] at hP1
  rw [hsh] at hP1 hD1
  have hk := K r1 M1 r M' hF p l e s m args below meth c D ad dA A mc ms hp H1 locs1 ls hP1 hD1 hS1 hl
  rw [List.map_append, hnr] at hk
  exact hk
theorem j_callV0 {R : Type} {mt : Mt} {wr : R → Option Value} {pc : Nat} {lv : List (Nat × Value)} {st : List Value} {M : Mem} {R2 : Type} {wr2 : R2 → Option Value} {mt2 : Mt} {F2 : Option (R2 × Mem)} {k : R2 → Mem → Option (R × Mem)} {y : MethodName} {idx : Nat} {a ci N : Nat} {ds : List Nat} {T : u_T} (hd : decode mt.2.1 pc = .ok (.invokevirtual idx, 3)) (hct : Ct y mt2 wr2 (.ref a :: []) M F2) (hw : CV mt.1 idx y) (hcd : Cond.code y mt2.2.1 mt2.2.2.1 mt2.2.2.2.1 ∈ tbl) (hdn : Dn y 0) (hsh : mt2.2.2.2.2.2 = mt.2.2.2.2.2) (hdp : mt2.2.2.2.2.1 + 1 ≤ mt.2.2.2.2.1) (hmx : mt2.2.2.1 ≤ 40) (hst : (st.map fun v => v.category).sum ≤ 8) (hnr : nr wr2) (hs : mt.2.2.2.2.2[a]? = some (ci, ds)) (hc : ci < 100) (hcl : cl[ci]? = some (y.cls, T, N)) (K : ∀ (r : R2) (N : Mem), J mt wr (pc + 3) lv ((wr2 r).toList ++ st) N (k r N)) : J mt wr pc lv (.ref a :: st) M (bd F2 k) := j_callV (as := []) hd hct hw hcd hdn rfl hsh hdp hmx hst hnr hs hc hcl K
theorem j_callV1 {R : Type} {mt : Mt} {wr : R → Option Value} {pc : Nat} {lv : List (Nat × Value)} {st : List Value} {M : Mem} {R2 : Type} {wr2 : R2 → Option Value} {mt2 : Mt} {F2 : Option (R2 × Mem)} {k : R2 → Mem → Option (R × Mem)} {y : MethodName} {idx : Nat} {v0 : Value} {a ci N : Nat} {ds : List Nat} {T : u_T} (hd : decode mt.2.1 pc = .ok (.invokevirtual idx, 3)) (hct : Ct y mt2 wr2 (.ref a :: [v0]) M F2) (hw : CV mt.1 idx y) (hcd : Cond.code y mt2.2.1 mt2.2.2.1 mt2.2.2.2.1 ∈ tbl) (hdn : Dn y 1) (hsh : mt2.2.2.2.2.2 = mt.2.2.2.2.2) (hdp : mt2.2.2.2.2.1 + 1 ≤ mt.2.2.2.2.1) (hmx : mt2.2.2.1 ≤ 40) (hst : (st.map fun v => v.category).sum ≤ 8) (hnr : nr wr2) (hs : mt.2.2.2.2.2[a]? = some (ci, ds)) (hc : ci < 100) (hcl : cl[ci]? = some (y.cls, T, N)) (K : ∀ (r : R2) (N : Mem), J mt wr (pc + 3) lv ((wr2 r).toList ++ st) N (k r N)) : J mt wr pc lv (v0 :: .ref a :: st) M (bd F2 k) := j_callV (as := [v0]) hd hct hw hcd hdn rfl hsh hdp hmx hst hnr hs hc hcl K
theorem j_callS1 {R : Type} {mt : Mt} {wr : R → Option Value} {pc : Nat} {lv : List (Nat × Value)} {st : List Value} {M : Mem} {R2 : Type} {wr2 : R2 → Option Value} {mt2 : Mt} {F2 : Option (R2 × Mem)} {k : R2 → Mem → Option (R × Mem)} {y : MethodName} {idx : Nat} {v0 : Value} (hd : decode mt.2.1 pc = .ok (.invokestatic idx, 3)) (hct : Ct y mt2 wr2 [v0] M F2) (hw : CS mt.1 idx y) (hcd : Cond.code y mt2.2.1 mt2.2.2.1 mt2.2.2.2.1 ∈ tbl) (hdn : Dn y 1) (hsh : mt2.2.2.2.2.2 = mt.2.2.2.2.2) (hdp : mt2.2.2.2.2.1 + 1 ≤ mt.2.2.2.2.1) (hmx : mt2.2.2.1 ≤ 40) (hst : (st.map fun v => v.category).sum ≤ 8) (hnr : nr wr2) (K : ∀ (r : R2) (N : Mem), J mt wr (pc + 3) lv ((wr2 r).toList ++ st) N (k r N)) : J mt wr pc lv (v0 :: st) M (bd F2 k) := j_callS (as := [v0]) hd hct hw hcd hdn rfl hsh hdp hmx hst hnr K
theorem j_callSN1 {R : Type} {mt : Mt} {wr : R → Option Value} {pc : Nat} {lv : List (Nat × Value)} {st : List Value} {M : Mem} {R2 : Type} {wr2 : R2 → Option Value} {mt2 : Mt} {F2 : Option (R2 × Mem)} {k : R2 → Mem → Option (R × Mem)} {y : MethodName} {idx : Nat} {v0 : Value} (hd : decode mt.2.1 pc = .ok (.invokestatic idx, 3)) (hct : Ct y mt2 wr2 [v0] M F2) (hw : CSN mt.1 idx y) (hcd : Cond.code y mt2.2.1 mt2.2.2.1 mt2.2.2.2.1 ∈ tbl) (hdn : Dn y 1) (hsh : mt2.2.2.2.2.2 = mt.2.2.2.2.2) (hdp : mt2.2.2.2.2.1 + 1 ≤ mt.2.2.2.2.1) (hmx : mt2.2.2.1 ≤ 40) (hst : (st.map fun v => v.category).sum ≤ 8) (hnr : nr wr2) (K : ∀ (r : R2) (N : Mem), J mt wr (pc + 3) lv ((wr2 r).toList ++ st) N (k r N)) : J mt wr pc lv (v0 :: st) M (bd F2 k) := j_callSN (as := [v0]) hd hct hw hcd hdn rfl hsh hdp hmx hst hnr K
theorem j_callV2 {R : Type} {mt : Mt} {wr : R → Option Value} {pc : Nat} {lv : List (Nat × Value)} {st : List Value} {M : Mem} {R2 : Type} {wr2 : R2 → Option Value} {mt2 : Mt} {F2 : Option (R2 × Mem)} {k : R2 → Mem → Option (R × Mem)} {y : MethodName} {idx : Nat} {v0 v1 : Value} {a ci N : Nat} {ds : List Nat} {T : u_T} (hd : decode mt.2.1 pc = .ok (.invokevirtual idx, 3)) (hct : Ct y mt2 wr2 (.ref a :: [v0, v1]) M F2) (hw : CV mt.1 idx y) (hcd : Cond.code y mt2.2.1 mt2.2.2.1 mt2.2.2.2.1 ∈ tbl) (hdn : Dn y 2) (hsh : mt2.2.2.2.2.2 = mt.2.2.2.2.2) (hdp : mt2.2.2.2.2.1 + 1 ≤ mt.2.2.2.2.1) (hmx : mt2.2.2.1 ≤ 40) (hst : (st.map fun v => v.category).sum ≤ 8) (hnr : nr wr2) (hs : mt.2.2.2.2.2[a]? = some (ci, ds)) (hc : ci < 100) (hcl : cl[ci]? = some (y.cls, T, N)) (K : ∀ (r : R2) (N : Mem), J mt wr (pc + 3) lv ((wr2 r).toList ++ st) N (k r N)) : J mt wr pc lv (v1 :: v0 :: .ref a :: st) M (bd F2 k) := j_callV (as := [v0, v1]) hd hct hw hcd hdn rfl hsh hdp hmx hst hnr hs hc hcl K
theorem j_callS2 {R : Type} {mt : Mt} {wr : R → Option Value} {pc : Nat} {lv : List (Nat × Value)} {st : List Value} {M : Mem} {R2 : Type} {wr2 : R2 → Option Value} {mt2 : Mt} {F2 : Option (R2 × Mem)} {k : R2 → Mem → Option (R × Mem)} {y : MethodName} {idx : Nat} {v0 v1 : Value} (hd : decode mt.2.1 pc = .ok (.invokestatic idx, 3)) (hct : Ct y mt2 wr2 [v0, v1] M F2) (hw : CS mt.1 idx y) (hcd : Cond.code y mt2.2.1 mt2.2.2.1 mt2.2.2.2.1 ∈ tbl) (hdn : Dn y 2) (hsh : mt2.2.2.2.2.2 = mt.2.2.2.2.2) (hdp : mt2.2.2.2.2.1 + 1 ≤ mt.2.2.2.2.1) (hmx : mt2.2.2.1 ≤ 40) (hst : (st.map fun v => v.category).sum ≤ 8) (hnr : nr wr2) (K : ∀ (r : R2) (N : Mem), J mt wr (pc + 3) lv ((wr2 r).toList ++ st) N (k r N)) : J mt wr pc lv (v1 :: v0 :: st) M (bd F2 k) := j_callS (as := [v0, v1]) hd hct hw hcd hdn rfl hsh hdp hmx hst hnr K
theorem j_callSN2 {R : Type} {mt : Mt} {wr : R → Option Value} {pc : Nat} {lv : List (Nat × Value)} {st : List Value} {M : Mem} {R2 : Type} {wr2 : R2 → Option Value} {mt2 : Mt} {F2 : Option (R2 × Mem)} {k : R2 → Mem → Option (R × Mem)} {y : MethodName} {idx : Nat} {v0 v1 : Value} (hd : decode mt.2.1 pc = .ok (.invokestatic idx, 3)) (hct : Ct y mt2 wr2 [v0, v1] M F2) (hw : CSN mt.1 idx y) (hcd : Cond.code y mt2.2.1 mt2.2.2.1 mt2.2.2.2.1 ∈ tbl) (hdn : Dn y 2) (hsh : mt2.2.2.2.2.2 = mt.2.2.2.2.2) (hdp : mt2.2.2.2.2.1 + 1 ≤ mt.2.2.2.2.1) (hmx : mt2.2.2.1 ≤ 40) (hst : (st.map fun v => v.category).sum ≤ 8) (hnr : nr wr2) (K : ∀ (r : R2) (N : Mem), J mt wr (pc + 3) lv ((wr2 r).toList ++ st) N (k r N)) : J mt wr pc lv (v1 :: v0 :: st) M (bd F2 k) := j_callSN (as := [v0, v1]) hd hct hw hcd hdn rfl hsh hdp hmx hst hnr K
theorem j_callV3 {R : Type} {mt : Mt} {wr : R → Option Value} {pc : Nat} {lv : List (Nat × Value)} {st : List Value} {M : Mem} {R2 : Type} {wr2 : R2 → Option Value} {mt2 : Mt} {F2 : Option (R2 × Mem)} {k : R2 → Mem → Option (R × Mem)} {y : MethodName} {idx : Nat} {v0 v1 v2 : Value} {a ci N : Nat} {ds : List Nat} {T : u_T} (hd : decode mt.2.1 pc = .ok (.invokevirtual idx, 3)) (hct : Ct y mt2 wr2 (.ref a :: [v0, v1, v2]) M F2) (hw : CV mt.1 idx y) (hcd : Cond.code y mt2.2.1 mt2.2.2.1 mt2.2.2.2.1 ∈ tbl) (hdn : Dn y 3) (hsh : mt2.2.2.2.2.2 = mt.2.2.2.2.2) (hdp : mt2.2.2.2.2.1 + 1 ≤ mt.2.2.2.2.1) (hmx : mt2.2.2.1 ≤ 40) (hst : (st.map fun v => v.category).sum ≤ 8) (hnr : nr wr2) (hs : mt.2.2.2.2.2[a]? = some (ci, ds)) (hc : ci < 100) (hcl : cl[ci]? = some (y.cls, T, N)) (K : ∀ (r : R2) (N : Mem), J mt wr (pc + 3) lv ((wr2 r).toList ++ st) N (k r N)) : J mt wr pc lv (v2 :: v1 :: v0 :: .ref a :: st) M (bd F2 k) := j_callV (as := [v0, v1, v2]) hd hct hw hcd hdn rfl hsh hdp hmx hst hnr hs hc hcl K
theorem j_callS3 {R : Type} {mt : Mt} {wr : R → Option Value} {pc : Nat} {lv : List (Nat × Value)} {st : List Value} {M : Mem} {R2 : Type} {wr2 : R2 → Option Value} {mt2 : Mt} {F2 : Option (R2 × Mem)} {k : R2 → Mem → Option (R × Mem)} {y : MethodName} {idx : Nat} {v0 v1 v2 : Value} (hd : decode mt.2.1 pc = .ok (.invokestatic idx, 3)) (hct : Ct y mt2 wr2 [v0, v1, v2] M F2) (hw : CS mt.1 idx y) (hcd : Cond.code y mt2.2.1 mt2.2.2.1 mt2.2.2.2.1 ∈ tbl) (hdn : Dn y 3) (hsh : mt2.2.2.2.2.2 = mt.2.2.2.2.2) (hdp : mt2.2.2.2.2.1 + 1 ≤ mt.2.2.2.2.1) (hmx : mt2.2.2.1 ≤ 40) (hst : (st.map fun v => v.category).sum ≤ 8) (hnr : nr wr2) (K : ∀ (r : R2) (N : Mem), J mt wr (pc + 3) lv ((wr2 r).toList ++ st) N (k r N)) : J mt wr pc lv (v2 :: v1 :: v0 :: st) M (bd F2 k) := j_callS (as := [v0, v1, v2]) hd hct hw hcd hdn rfl hsh hdp hmx hst hnr K
theorem j_callSN3 {R : Type} {mt : Mt} {wr : R → Option Value} {pc : Nat} {lv : List (Nat × Value)} {st : List Value} {M : Mem} {R2 : Type} {wr2 : R2 → Option Value} {mt2 : Mt} {F2 : Option (R2 × Mem)} {k : R2 → Mem → Option (R × Mem)} {y : MethodName} {idx : Nat} {v0 v1 v2 : Value} (hd : decode mt.2.1 pc = .ok (.invokestatic idx, 3)) (hct : Ct y mt2 wr2 [v0, v1, v2] M F2) (hw : CSN mt.1 idx y) (hcd : Cond.code y mt2.2.1 mt2.2.2.1 mt2.2.2.2.1 ∈ tbl) (hdn : Dn y 3) (hsh : mt2.2.2.2.2.2 = mt.2.2.2.2.2) (hdp : mt2.2.2.2.2.1 + 1 ≤ mt.2.2.2.2.1) (hmx : mt2.2.2.1 ≤ 40) (hst : (st.map fun v => v.category).sum ≤ 8) (hnr : nr wr2) (K : ∀ (r : R2) (N : Mem), J mt wr (pc + 3) lv ((wr2 r).toList ++ st) N (k r N)) : J mt wr pc lv (v2 :: v1 :: v0 :: st) M (bd F2 k) := j_callSN (as := [v0, v1, v2]) hd hct hw hcd hdn rfl hsh hdp hmx hst hnr K
theorem j_callV4 {R : Type} {mt : Mt} {wr : R → Option Value} {pc : Nat} {lv : List (Nat × Value)} {st : List Value} {M : Mem} {R2 : Type} {wr2 : R2 → Option Value} {mt2 : Mt} {F2 : Option (R2 × Mem)} {k : R2 → Mem → Option (R × Mem)} {y : MethodName} {idx : Nat} {v0 v1 v2 v3 : Value} {a ci N : Nat} {ds : List Nat} {T : u_T} (hd : decode mt.2.1 pc = .ok (.invokevirtual idx, 3)) (hct : Ct y mt2 wr2 (.ref a :: [v0, v1, v2, v3]) M F2) (hw : CV mt.1 idx y) (hcd : Cond.code y mt2.2.1 mt2.2.2.1 mt2.2.2.2.1 ∈ tbl) (hdn : Dn y 4) (hsh : mt2.2.2.2.2.2 = mt.2.2.2.2.2) (hdp : mt2.2.2.2.2.1 + 1 ≤ mt.2.2.2.2.1) (hmx : mt2.2.2.1 ≤ 40) (hst : (st.map fun v => v.category).sum ≤ 8) (hnr : nr wr2) (hs : mt.2.2.2.2.2[a]? = some (ci, ds)) (hc : ci < 100) (hcl : cl[ci]? = some (y.cls, T, N)) (K : ∀ (r : R2) (N : Mem), J mt wr (pc + 3) lv ((wr2 r).toList ++ st) N (k r N)) : J mt wr pc lv (v3 :: v2 :: v1 :: v0 :: .ref a :: st) M (bd F2 k) := j_callV (as := [v0, v1, v2, v3]) hd hct hw hcd hdn rfl hsh hdp hmx hst hnr hs hc hcl K
theorem j_callS4 {R : Type} {mt : Mt} {wr : R → Option Value} {pc : Nat} {lv : List (Nat × Value)} {st : List Value} {M : Mem} {R2 : Type} {wr2 : R2 → Option Value} {mt2 : Mt} {F2 : Option (R2 × Mem)} {k : R2 → Mem → Option (R × Mem)} {y : MethodName} {idx : Nat} {v0 v1 v2 v3 : Value} (hd : decode mt.2.1 pc = .ok (.invokestatic idx, 3)) (hct : Ct y mt2 wr2 [v0, v1, v2, v3] M F2) (hw : CS mt.1 idx y) (hcd : Cond.code y mt2.2.1 mt2.2.2.1 mt2.2.2.2.1 ∈ tbl) (hdn : Dn y 4) (hsh : mt2.2.2.2.2.2 = mt.2.2.2.2.2) (hdp : mt2.2.2.2.2.1 + 1 ≤ mt.2.2.2.2.1) (hmx : mt2.2.2.1 ≤ 40) (hst : (st.map fun v => v.category).sum ≤ 8) (hnr : nr wr2) (K : ∀ (r : R2) (N : Mem), J mt wr (pc + 3) lv ((wr2 r).toList ++ st) N (k r N)) : J mt wr pc lv (v3 :: v2 :: v1 :: v0 :: st) M (bd F2 k) := j_callS (as := [v0, v1, v2, v3]) hd hct hw hcd hdn rfl hsh hdp hmx hst hnr K
theorem j_callSN4 {R : Type} {mt : Mt} {wr : R → Option Value} {pc : Nat} {lv : List (Nat × Value)} {st : List Value} {M : Mem} {R2 : Type} {wr2 : R2 → Option Value} {mt2 : Mt} {F2 : Option (R2 × Mem)} {k : R2 → Mem → Option (R × Mem)} {y : MethodName} {idx : Nat} {v0 v1 v2 v3 : Value} (hd : decode mt.2.1 pc = .ok (.invokestatic idx, 3)) (hct : Ct y mt2 wr2 [v0, v1, v2, v3] M F2) (hw : CSN mt.1 idx y) (hcd : Cond.code y mt2.2.1 mt2.2.2.1 mt2.2.2.2.1 ∈ tbl) (hdn : Dn y 4) (hsh : mt2.2.2.2.2.2 = mt.2.2.2.2.2) (hdp : mt2.2.2.2.2.1 + 1 ≤ mt.2.2.2.2.1) (hmx : mt2.2.2.1 ≤ 40) (hst : (st.map fun v => v.category).sum ≤ 8) (hnr : nr wr2) (K : ∀ (r : R2) (N : Mem), J mt wr (pc + 3) lv ((wr2 r).toList ++ st) N (k r N)) : J mt wr pc lv (v3 :: v2 :: v1 :: v0 :: st) M (bd F2 k) := j_callSN (as := [v0, v1, v2, v3]) hd hct hw hcd hdn rfl hsh hdp hmx hst hnr K
theorem j_callV5 {R : Type} {mt : Mt} {wr : R → Option Value} {pc : Nat} {lv : List (Nat × Value)} {st : List Value} {M : Mem} {R2 : Type} {wr2 : R2 → Option Value} {mt2 : Mt} {F2 : Option (R2 × Mem)} {k : R2 → Mem → Option (R × Mem)} {y : MethodName} {idx : Nat} {v0 v1 v2 v3 v4 : Value} {a ci N : Nat} {ds : List Nat} {T : u_T} (hd : decode mt.2.1 pc = .ok (.invokevirtual idx, 3)) (hct : Ct y mt2 wr2 (.ref a :: [v0, v1, v2, v3, v4]) M F2) (hw : CV mt.1 idx y) (hcd : Cond.code y mt2.2.1 mt2.2.2.1 mt2.2.2.2.1 ∈ tbl) (hdn : Dn y 5) (hsh : mt2.2.2.2.2.2 = mt.2.2.2.2.2) (hdp : mt2.2.2.2.2.1 + 1 ≤ mt.2.2.2.2.1) (hmx : mt2.2.2.1 ≤ 40) (hst : (st.map fun v => v.category).sum ≤ 8) (hnr : nr wr2) (hs : mt.2.2.2.2.2[a]? = some (ci, ds)) (hc : ci < 100) (hcl : cl[ci]? = some (y.cls, T, N)) (K : ∀ (r : R2) (N : Mem), J mt wr (pc + 3) lv ((wr2 r).toList ++ st) N (k r N)) : J mt wr pc lv (v4 :: v3 :: v2 :: v1 :: v0 :: .ref a :: st) M (bd F2 k) := j_callV (as := [v0, v1, v2, v3, v4]) hd hct hw hcd hdn rfl hsh hdp hmx hst hnr hs hc hcl K
theorem j_callS5 {R : Type} {mt : Mt} {wr : R → Option Value} {pc : Nat} {lv : List (Nat × Value)} {st : List Value} {M : Mem} {R2 : Type} {wr2 : R2 → Option Value} {mt2 : Mt} {F2 : Option (R2 × Mem)} {k : R2 → Mem → Option (R × Mem)} {y : MethodName} {idx : Nat} {v0 v1 v2 v3 v4 : Value} (hd : decode mt.2.1 pc = .ok (.invokestatic idx, 3)) (hct : Ct y mt2 wr2 [v0, v1, v2, v3, v4] M F2) (hw : CS mt.1 idx y) (hcd : Cond.code y mt2.2.1 mt2.2.2.1 mt2.2.2.2.1 ∈ tbl) (hdn : Dn y 5) (hsh : mt2.2.2.2.2.2 = mt.2.2.2.2.2) (hdp : mt2.2.2.2.2.1 + 1 ≤ mt.2.2.2.2.1) (hmx : mt2.2.2.1 ≤ 40) (hst : (st.map fun v => v.category).sum ≤ 8) (hnr : nr wr2) (K : ∀ (r : R2) (N : Mem), J mt wr (pc + 3) lv ((wr2 r).toList ++ st) N (k r N)) : J mt wr pc lv (v4 :: v3 :: v2 :: v1 :: v0 :: st) M (bd F2 k) := j_callS (as := [v0, v1, v2, v3, v4]) hd hct hw hcd hdn rfl hsh hdp hmx hst hnr K
theorem j_callSN5 {R : Type} {mt : Mt} {wr : R → Option Value} {pc : Nat} {lv : List (Nat × Value)} {st : List Value} {M : Mem} {R2 : Type} {wr2 : R2 → Option Value} {mt2 : Mt} {F2 : Option (R2 × Mem)} {k : R2 → Mem → Option (R × Mem)} {y : MethodName} {idx : Nat} {v0 v1 v2 v3 v4 : Value} (hd : decode mt.2.1 pc = .ok (.invokestatic idx, 3)) (hct : Ct y mt2 wr2 [v0, v1, v2, v3, v4] M F2) (hw : CSN mt.1 idx y) (hcd : Cond.code y mt2.2.1 mt2.2.2.1 mt2.2.2.2.1 ∈ tbl) (hdn : Dn y 5) (hsh : mt2.2.2.2.2.2 = mt.2.2.2.2.2) (hdp : mt2.2.2.2.2.1 + 1 ≤ mt.2.2.2.2.1) (hmx : mt2.2.2.1 ≤ 40) (hst : (st.map fun v => v.category).sum ≤ 8) (hnr : nr wr2) (K : ∀ (r : R2) (N : Mem), J mt wr (pc + 3) lv ((wr2 r).toList ++ st) N (k r N)) : J mt wr pc lv (v4 :: v3 :: v2 :: v1 :: v0 :: st) M (bd F2 k) := j_callSN (as := [v0, v1, v2, v3, v4]) hd hct hw hcd hdn rfl hsh hdp hmx hst hnr K
