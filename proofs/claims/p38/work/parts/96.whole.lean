/-! THE WHOLE: the start, the making, the loop (written by wip/gen/whole.py) -/
theorem arr_prim {args : Array Value} {s : State} {ty : FieldType} (h : (Cond.arrayClass ty).before args s = true) (hra : ∀ cA, s.vm.findClass ("[" ++ ty.toString) = some cA → va_RA s cA ty) : ∃ cA, ArrOfT s cA ty ∧ va_RA s cA ty := by
  obtain ⟨cA, kA, comp, h1, h2, h3⟩ := Cond.arrayClass_spec h
  exact ⟨cA, fun N z => ⟨(fun k h => by cases h), kA, h2, comp, h3⟩, hra cA h1⟩
theorem arr_obj {args : Array Value} {s : State} {C : String} (h : (Cond.arrayOver (.object C)).before args s = true) : ∃ cA, ArrOfT s cA (.object C) ∧ va_RA s cA (.object C) := by
  obtain ⟨comp, c, k, h1, h2, h3, h4, h5⟩ := Cond.arrayOver_spec h
  exact ⟨c, fun N z => ⟨(fun k h => by cases h), k, h3, comp, h4⟩, k, comp, h3, h4, h1, h5⟩
theorem arr_arr {args : Array Value} {s : State} {ty : FieldType} (h : (Cond.arrayOver (.array ty)).before args s = true) : ∃ cA, ArrOfT s cA (.array ty) ∧ va_RA s cA (.array ty) := by
  obtain ⟨comp, c, k, h1, h2, h3, h4, h5⟩ := arrayOverA_spec h
  exact ⟨c, fun N z => ⟨(fun k h => by cases h), k, h3, comp, h4⟩, h5⟩
theorem K_start {args : Array Value} {s : State} (hts : ∀ w ∈ lw_tbl, w.before args s = true) : ∃ (D : va_G) (dA : Nat → ClassId), va_K D cl (tysOf dA) s := by
  have ht2 : ∀ w ∈ tbl, w.before args s = true := fun w h => hts w (List.mem_filter.mp h).1
  obtain ⟨c0, s0, k0⟩ := u_known (C := R_Circle) (T := F_Circle) (N := 9) (n := 9) ht2 i_Circle (ht2 _ in_Circle)
  obtain ⟨c1, s1, k1⟩ := u_known (C := R_Habit) (T := F_Habit) (N := 4) (n := 4) ht2 i_Habit (ht2 _ in_Habit)
  obtain ⟨c2, s2, k2⟩ := u_known (C := R_Minds) (T := F_Minds) (N := 4) (n := 4) ht2 i_Minds (ht2 _ in_Minds)
  obtain ⟨c3, s3, k3⟩ := u_known (C := R_Row) (T := F_Row) (N := 2) (n := 2) ht2 i_Row (ht2 _ in_Row)
  obtain ⟨c4, s4, k4⟩ := u_known (C := R_Search) (T := F_Search) (N := 13) (n := 13) ht2 i_Search (ht2 _ in_Search)
  obtain ⟨c5, s5, k5⟩ := u_known (C := R_Sheet) (T := F_Sheet) (N := 4) (n := 4) ht2 i_Sheet (ht2 _ in_Sheet)
  obtain ⟨c6, s6, k6⟩ := u_known (C := R_Tape) (T := F_Tape) (N := 2) (n := 2) ht2 i_Tape (ht2 _ in_Tape)
  obtain ⟨c7, s7, k7⟩ := u_known (C := R_Teller) (T := F_Teller) (N := 15) (n := 15) ht2 i_Teller (ht2 _ in_Teller)
  obtain ⟨c8, s8, k8⟩ := u_known (C := R_ShakeHands) (T := F_ShakeHands) (N := 11) (n := 11) ht2 i_ShakeHands (ht2 _ in_ShakeHands)
  obtain ⟨c9, s9, k9⟩ := u_known (C := R_Model) (T := F_Model) (N := 55) (n := 55) ht2 i_Model (ht2 _ in_Model)
  obtain ⟨a0, b0⟩ : ∃ cA, ArrOfT s cA .int ∧ va_RA s cA .int := arr_prim (hts _ (List.mem_append_right _ (List.mem_of_getElem? (i := 70) (by decide +kernel)))) (fun cA h => h)
  obtain ⟨a1, b1⟩ : ∃ cA, ArrOfT s cA .byte ∧ va_RA s cA .byte := arr_prim (hts _ (List.mem_append_right _ (List.mem_of_getElem? (i := 42) (by decide +kernel)))) (fun cA h => h)
  obtain ⟨a2, b2⟩ : ∃ cA, ArrOfT s cA .boolean ∧ va_RA s cA .boolean := arr_prim (hts _ (List.mem_append_right _ (List.mem_of_getElem? (i := 1063) (by decide +kernel)))) (fun cA h => h)
  obtain ⟨a3, b3⟩ : ∃ cA, ArrOfT s cA .long ∧ va_RA s cA .long := arr_prim (hts _ (List.mem_append_right _ (List.mem_of_getElem? (i := 168) (by decide +kernel)))) (fun cA h => h)
  obtain ⟨a4, b4⟩ : ∃ cA, ArrOfT s cA (.object "ShakeHands$Minds") ∧ va_RA s cA (.object "ShakeHands$Minds") := arr_obj (hts _ (List.mem_append_right _ (List.mem_of_getElem? (i := 200) (by decide +kernel))))
  obtain ⟨a5, b5⟩ : ∃ cA, ArrOfT s cA (.object "ShakeHands$Sheet") ∧ va_RA s cA (.object "ShakeHands$Sheet") := arr_obj (hts _ (List.mem_append_right _ (List.mem_of_getElem? (i := 274) (by decide +kernel))))
  obtain ⟨a6, b6⟩ : ∃ cA, ArrOfT s cA (.array .long) ∧ va_RA s cA (.array .long) := arr_arr (hts _ (List.mem_append_right _ (List.mem_of_getElem? (i := 208) (by decide +kernel))))
  refine ⟨(fun k => [c0, c1, c2, c3, c4, c5, c6, c7, c8, c9].getD k c0, fun k => [s0, s1, s2, s3, s4, s5, s6, s7, s8, s9].getD k s0), fun k => [a0, a1, a2, a3, a4, a5, a6].getD k a0, fun k q hq => ?_, fun k q hq => ?_⟩
  · match k, hq with
    | 0, hq => cases hq; exact k0
    | 1, hq => cases hq; exact k1
    | 2, hq => cases hq; exact k2
    | 3, hq => cases hq; exact k3
    | 4, hq => cases hq; exact k4
    | 5, hq => cases hq; exact k5
    | 6, hq => cases hq; exact k6
    | 7, hq => cases hq; exact k7
    | 8, hq => cases hq; exact k8
    | 9, hq => cases hq; exact k9
    | k + 10, hq => simp [cl] at hq
  · match k, hq with
    | 0, hq => cases hq; exact b0
    | 1, hq => cases hq; exact b1
    | 2, hq => cases hq; exact b2
    | 3, hq => cases hq; exact b3
    | 4, hq => cases hq; exact b4
    | 5, hq => cases hq; exact b5
    | 6, hq => cases hq; exact b6
    | k + 7, hq => simp [tysOf] at hq
theorem Term_string_args {args : Array Value} {s : State} {own : String} {k : Nat} {v : Option Value} (h : (Term.string own k).eval args s none [] s = v) : (Term.string own k).eval args s none [] s = v := h
set_option maxRecDepth 20000 in
set_option maxHeartbeats 8000000 in
theorem Cx_start {args : Array Value} {s : State} {D : va_G} {dA : Nat → ClassId} (hts : ∀ w ∈ lw_tbl, w.before args s = true) (hg : (Jvm.Cond.and given_1 narrow_1).before args s = true) (hK : va_K D cl (tysOf dA) s) : ∃ stt : Nat → Nat, Cx D (adB s.heap.size stt) dA (fun q => s.heap.size ≤ q) s s.heap := by
  have hs := flat_of_before _ hg
  have hA : ∀ a : Nat, a < s.heap.size → ¬ (s.heap.size ≤ a) := fun a h => Nat.not_le.mpr h
  have hw : ∀ (i : Nat) (w : Cond), tables_1[i]? = some w → w.before args s = true := fun i w h => hts w (List.mem_append_right _ (List.mem_of_getElem? h))
  obtain ⟨tLESSER, eLESSER, TLESSER⟩ := va_Tof (tm := .static "ShakeHands" "LESSER" "[I") (ty := .int) (N := 15) (f := fun j => .int (lsr j)) (A := fun q => s.heap.size ≤ q) (by decide) (hs _ (by decide +kernel)) (va_eqt (z := 15) (hs _ (by decide +kernel))) (fun j hj => by
    match j, hj with
    | 0, _ => exact va_eqt (hs (Cond.eq (Term.elem (Term.static "ShakeHands" "LESSER" "[I") (Term.int (0 : Int32))) (Term.int (0 : Int32))) (by decide +kernel))
    | 1, _ => exact va_eqt (hs (Cond.eq (Term.elem (Term.static "ShakeHands" "LESSER" "[I") (Term.int (1 : Int32))) (Term.int (0 : Int32))) (by decide +kernel))
    | 2, _ => exact va_eqt (hs (Cond.eq (Term.elem (Term.static "ShakeHands" "LESSER" "[I") (Term.int (2 : Int32))) (Term.int (1 : Int32))) (by decide +kernel))
    | 3, _ => exact va_eqt (hs (Cond.eq (Term.elem (Term.static "ShakeHands" "LESSER" "[I") (Term.int (3 : Int32))) (Term.int (0 : Int32))) (by decide +kernel))
    | 4, _ => exact va_eqt (hs (Cond.eq (Term.elem (Term.static "ShakeHands" "LESSER" "[I") (Term.int (4 : Int32))) (Term.int (1 : Int32))) (by decide +kernel))
    | 5, _ => exact va_eqt (hs (Cond.eq (Term.elem (Term.static "ShakeHands" "LESSER" "[I") (Term.int (5 : Int32))) (Term.int (2 : Int32))) (by decide +kernel))
    | 6, _ => exact va_eqt (hs (Cond.eq (Term.elem (Term.static "ShakeHands" "LESSER" "[I") (Term.int (6 : Int32))) (Term.int (0 : Int32))) (by decide +kernel))
    | 7, _ => exact va_eqt (hs (Cond.eq (Term.elem (Term.static "ShakeHands" "LESSER" "[I") (Term.int (7 : Int32))) (Term.int (1 : Int32))) (by decide +kernel))
    | 8, _ => exact va_eqt (hs (Cond.eq (Term.elem (Term.static "ShakeHands" "LESSER" "[I") (Term.int (8 : Int32))) (Term.int (2 : Int32))) (by decide +kernel))
    | 9, _ => exact va_eqt (hs (Cond.eq (Term.elem (Term.static "ShakeHands" "LESSER" "[I") (Term.int (9 : Int32))) (Term.int (3 : Int32))) (by decide +kernel))
    | 10, _ => exact va_eqt (hs (Cond.eq (Term.elem (Term.static "ShakeHands" "LESSER" "[I") (Term.int (10 : Int32))) (Term.int (0 : Int32))) (by decide +kernel))
    | 11, _ => exact va_eqt (hs (Cond.eq (Term.elem (Term.static "ShakeHands" "LESSER" "[I") (Term.int (11 : Int32))) (Term.int (1 : Int32))) (by decide +kernel))
    | 12, _ => exact va_eqt (hs (Cond.eq (Term.elem (Term.static "ShakeHands" "LESSER" "[I") (Term.int (12 : Int32))) (Term.int (2 : Int32))) (by decide +kernel))
    | 13, _ => exact va_eqt (hs (Cond.eq (Term.elem (Term.static "ShakeHands" "LESSER" "[I") (Term.int (13 : Int32))) (Term.int (3 : Int32))) (by decide +kernel))
    | 14, _ => exact va_eqt (hs (Cond.eq (Term.elem (Term.static "ShakeHands" "LESSER" "[I") (Term.int (14 : Int32))) (Term.int (4 : Int32))) (by decide +kernel))
    | j + 15, h => exact absurd h (by omega)) hA
  have ZLESSER := va_Zof (hw 623 (.laysStatic "ShakeHands" "LESSER" "[I") (by decide +kernel)) (hw 1 (.initialized "ShakeHands") (by decide +kernel)) eLESSER hA
  obtain ⟨tGREATER, eGREATER, TGREATER⟩ := va_Tof (tm := .static "ShakeHands" "GREATER" "[I") (ty := .int) (N := 15) (f := fun j => .int (grt j)) (A := fun q => s.heap.size ≤ q) (by decide) (hs _ (by decide +kernel)) (va_eqt (z := 15) (hs _ (by decide +kernel))) (fun j hj => by
    match j, hj with
    | 0, _ => exact va_eqt (hs (Cond.eq (Term.elem (Term.static "ShakeHands" "GREATER" "[I") (Term.int (0 : Int32))) (Term.int (1 : Int32))) (by decide +kernel))
    | 1, _ => exact va_eqt (hs (Cond.eq (Term.elem (Term.static "ShakeHands" "GREATER" "[I") (Term.int (1 : Int32))) (Term.int (2 : Int32))) (by decide +kernel))
    | 2, _ => exact va_eqt (hs (Cond.eq (Term.elem (Term.static "ShakeHands" "GREATER" "[I") (Term.int (2 : Int32))) (Term.int (2 : Int32))) (by decide +kernel))
    | 3, _ => exact va_eqt (hs (Cond.eq (Term.elem (Term.static "ShakeHands" "GREATER" "[I") (Term.int (3 : Int32))) (Term.int (3 : Int32))) (by decide +kernel))
    | 4, _ => exact va_eqt (hs (Cond.eq (Term.elem (Term.static "ShakeHands" "GREATER" "[I") (Term.int (4 : Int32))) (Term.int (3 : Int32))) (by decide +kernel))
    | 5, _ => exact va_eqt (hs (Cond.eq (Term.elem (Term.static "ShakeHands" "GREATER" "[I") (Term.int (5 : Int32))) (Term.int (3 : Int32))) (by decide +kernel))
    | 6, _ => exact va_eqt (hs (Cond.eq (Term.elem (Term.static "ShakeHands" "GREATER" "[I") (Term.int (6 : Int32))) (Term.int (4 : Int32))) (by decide +kernel))
    | 7, _ => exact va_eqt (hs (Cond.eq (Term.elem (Term.static "ShakeHands" "GREATER" "[I") (Term.int (7 : Int32))) (Term.int (4 : Int32))) (by decide +kernel))
    | 8, _ => exact va_eqt (hs (Cond.eq (Term.elem (Term.static "ShakeHands" "GREATER" "[I") (Term.int (8 : Int32))) (Term.int (4 : Int32))) (by decide +kernel))
    | 9, _ => exact va_eqt (hs (Cond.eq (Term.elem (Term.static "ShakeHands" "GREATER" "[I") (Term.int (9 : Int32))) (Term.int (4 : Int32))) (by decide +kernel))
    | 10, _ => exact va_eqt (hs (Cond.eq (Term.elem (Term.static "ShakeHands" "GREATER" "[I") (Term.int (10 : Int32))) (Term.int (5 : Int32))) (by decide +kernel))
    | 11, _ => exact va_eqt (hs (Cond.eq (Term.elem (Term.static "ShakeHands" "GREATER" "[I") (Term.int (11 : Int32))) (Term.int (5 : Int32))) (by decide +kernel))
    | 12, _ => exact va_eqt (hs (Cond.eq (Term.elem (Term.static "ShakeHands" "GREATER" "[I") (Term.int (12 : Int32))) (Term.int (5 : Int32))) (by decide +kernel))
    | 13, _ => exact va_eqt (hs (Cond.eq (Term.elem (Term.static "ShakeHands" "GREATER" "[I") (Term.int (13 : Int32))) (Term.int (5 : Int32))) (by decide +kernel))
    | 14, _ => exact va_eqt (hs (Cond.eq (Term.elem (Term.static "ShakeHands" "GREATER" "[I") (Term.int (14 : Int32))) (Term.int (5 : Int32))) (by decide +kernel))
    | j + 15, h => exact absurd h (by omega)) hA
  have ZGREATER := va_Zof (hw 625 (.laysStatic "ShakeHands" "GREATER" "[I") (by decide +kernel)) (hw 1 (.initialized "ShakeHands") (by decide +kernel)) eGREATER hA
  have ZC := va_Zof (hw 387 (.laysStatic "java/lang/String" "COMPACT_STRINGS" "Z") (by decide +kernel)) (hw 11 (.initialized "java/lang/String") (by decide +kernel)) (va_eqi (z := 1) (hs _ (by decide +kernel))) hA
  have ZF := va_Zqof (hw 403 (.laysStatic "jdk/internal/util/Preconditions" "SIOOBE_FORMATTER" "Ljava/util/function/BiFunction;") (by decide +kernel)) (hw 13 (.initialized "jdk/internal/util/Preconditions") (by decide +kernel)) (hs _ (by decide +kernel)) hA
  let tm : Nat → Term := fun i => .string "ShakeHands$Teller" ([115, 123, 127, 132, 137, 150, 157].getD i 0)
  obtain ⟨adK, adV, hSt, hStE⟩ := vk_Sof (N := 7) (tm := tm) (len := stLen) (byt := stByt) (A := fun q => s.heap.size ≤ q) (fun i hi => by
    match i, hi with
    | 0, _ => decide
    | 1, _ => decide
    | 2, _ => decide
    | 3, _ => decide
    | 4, _ => decide
    | 5, _ => decide
    | 6, _ => decide
    | i + 7, h => exact absurd h (by omega)) (fun i hi => by
    match i, hi with
    | 0, _ => exact hs (Cond.exactly (Term.string "ShakeHands$Teller" 115) "java/lang/String") (by decide +kernel)
    | 1, _ => exact hs (Cond.exactly (Term.string "ShakeHands$Teller" 123) "java/lang/String") (by decide +kernel)
    | 2, _ => exact hs (Cond.exactly (Term.string "ShakeHands$Teller" 127) "java/lang/String") (by decide +kernel)
    | 3, _ => exact hs (Cond.exactly (Term.string "ShakeHands$Teller" 132) "java/lang/String") (by decide +kernel)
    | 4, _ => exact hs (Cond.exactly (Term.string "ShakeHands$Teller" 137) "java/lang/String") (by decide +kernel)
    | 5, _ => exact hs (Cond.exactly (Term.string "ShakeHands$Teller" 150) "java/lang/String") (by decide +kernel)
    | 6, _ => exact hs (Cond.exactly (Term.string "ShakeHands$Teller" 157) "java/lang/String") (by decide +kernel)
    | i + 7, h => exact absurd h (by omega)) (fun i hi => by
    match i, hi with
    | 0, _ => exact hs (Cond.eq (Term.field (Term.string "ShakeHands$Teller" 115) "java/lang/String" "coder" "B") (Term.int (0 : Int32))) (by decide +kernel)
    | 1, _ => exact hs (Cond.eq (Term.field (Term.string "ShakeHands$Teller" 123) "java/lang/String" "coder" "B") (Term.int (0 : Int32))) (by decide +kernel)
    | 2, _ => exact hs (Cond.eq (Term.field (Term.string "ShakeHands$Teller" 127) "java/lang/String" "coder" "B") (Term.int (0 : Int32))) (by decide +kernel)
    | 3, _ => exact hs (Cond.eq (Term.field (Term.string "ShakeHands$Teller" 132) "java/lang/String" "coder" "B") (Term.int (0 : Int32))) (by decide +kernel)
    | 4, _ => exact hs (Cond.eq (Term.field (Term.string "ShakeHands$Teller" 137) "java/lang/String" "coder" "B") (Term.int (0 : Int32))) (by decide +kernel)
    | 5, _ => exact hs (Cond.eq (Term.field (Term.string "ShakeHands$Teller" 150) "java/lang/String" "coder" "B") (Term.int (0 : Int32))) (by decide +kernel)
    | 6, _ => exact hs (Cond.eq (Term.field (Term.string "ShakeHands$Teller" 157) "java/lang/String" "coder" "B") (Term.int (0 : Int32))) (by decide +kernel)
    | i + 7, h => exact absurd h (by omega)) (fun i hi => by
    match i, hi with
    | 0, _ => exact hs (Cond.arrayOf (Term.field (Term.string "ShakeHands$Teller" 115) "java/lang/String" "value" "[B") FieldType.byte) (by decide +kernel)
    | 1, _ => exact hs (Cond.arrayOf (Term.field (Term.string "ShakeHands$Teller" 123) "java/lang/String" "value" "[B") FieldType.byte) (by decide +kernel)
    | 2, _ => exact hs (Cond.arrayOf (Term.field (Term.string "ShakeHands$Teller" 127) "java/lang/String" "value" "[B") FieldType.byte) (by decide +kernel)
    | 3, _ => exact hs (Cond.arrayOf (Term.field (Term.string "ShakeHands$Teller" 132) "java/lang/String" "value" "[B") FieldType.byte) (by decide +kernel)
    | 4, _ => exact hs (Cond.arrayOf (Term.field (Term.string "ShakeHands$Teller" 137) "java/lang/String" "value" "[B") FieldType.byte) (by decide +kernel)
    | 5, _ => exact hs (Cond.arrayOf (Term.field (Term.string "ShakeHands$Teller" 150) "java/lang/String" "value" "[B") FieldType.byte) (by decide +kernel)
    | 6, _ => exact hs (Cond.arrayOf (Term.field (Term.string "ShakeHands$Teller" 157) "java/lang/String" "value" "[B") FieldType.byte) (by decide +kernel)
    | i + 7, h => exact absurd h (by omega)) (fun i hi => by
    match i, hi with
    | 0, _ => exact hs (Cond.eq (Term.length (Term.field (Term.string "ShakeHands$Teller" 115) "java/lang/String" "value" "[B")) (Term.int (6 : Int32))) (by decide +kernel)
    | 1, _ => exact hs (Cond.eq (Term.length (Term.field (Term.string "ShakeHands$Teller" 123) "java/lang/String" "value" "[B")) (Term.int (4 : Int32))) (by decide +kernel)
    | 2, _ => exact hs (Cond.eq (Term.length (Term.field (Term.string "ShakeHands$Teller" 127) "java/lang/String" "value" "[B")) (Term.int (5 : Int32))) (by decide +kernel)
    | 3, _ => exact hs (Cond.eq (Term.length (Term.field (Term.string "ShakeHands$Teller" 132) "java/lang/String" "value" "[B")) (Term.int (4 : Int32))) (by decide +kernel)
    | 4, _ => exact hs (Cond.eq (Term.length (Term.field (Term.string "ShakeHands$Teller" 137) "java/lang/String" "value" "[B")) (Term.int (4 : Int32))) (by decide +kernel)
    | 5, _ => exact hs (Cond.eq (Term.length (Term.field (Term.string "ShakeHands$Teller" 150) "java/lang/String" "value" "[B")) (Term.int (5 : Int32))) (by decide +kernel)
    | 6, _ => exact hs (Cond.eq (Term.length (Term.field (Term.string "ShakeHands$Teller" 157) "java/lang/String" "value" "[B")) (Term.int (5 : Int32))) (by decide +kernel)
    | i + 7, h => exact absurd h (by omega)) (fun i hi j hj => by
    match i, hi, j, hj with
    | 0, _, 0, _ => exact hs (Cond.eq (Term.elem (Term.field (Term.string "ShakeHands$Teller" 115) "java/lang/String" "value" "[B") (Term.int (0 : Int32))) (Term.int (112 : Int32))) (by decide +kernel)
    | 0, _, 1, _ => exact hs (Cond.eq (Term.elem (Term.field (Term.string "ShakeHands$Teller" 115) "java/lang/String" "value" "[B") (Term.int (1 : Int32))) (Term.int (101 : Int32))) (by decide +kernel)
    | 0, _, 2, _ => exact hs (Cond.eq (Term.elem (Term.field (Term.string "ShakeHands$Teller" 115) "java/lang/String" "value" "[B") (Term.int (2 : Int32))) (Term.int (111 : Int32))) (by decide +kernel)
    | 0, _, 3, _ => exact hs (Cond.eq (Term.elem (Term.field (Term.string "ShakeHands$Teller" 115) "java/lang/String" "value" "[B") (Term.int (3 : Int32))) (Term.int (112 : Int32))) (by decide +kernel)
    | 0, _, 4, _ => exact hs (Cond.eq (Term.elem (Term.field (Term.string "ShakeHands$Teller" 115) "java/lang/String" "value" "[B") (Term.int (4 : Int32))) (Term.int (108 : Int32))) (by decide +kernel)
    | 0, _, 5, _ => exact hs (Cond.eq (Term.elem (Term.field (Term.string "ShakeHands$Teller" 115) "java/lang/String" "value" "[B") (Term.int (5 : Int32))) (Term.int (101 : Int32))) (by decide +kernel)
    | 1, _, 0, _ => exact hs (Cond.eq (Term.elem (Term.field (Term.string "ShakeHands$Teller" 123) "java/lang/String" "value" "[B") (Term.int (0 : Int32))) (Term.int (104 : Int32))) (by decide +kernel)
    | 1, _, 1, _ => exact hs (Cond.eq (Term.elem (Term.field (Term.string "ShakeHands$Teller" 123) "java/lang/String" "value" "[B") (Term.int (1 : Int32))) (Term.int (111 : Int32))) (by decide +kernel)
    | 1, _, 2, _ => exact hs (Cond.eq (Term.elem (Term.field (Term.string "ShakeHands$Teller" 123) "java/lang/String" "value" "[B") (Term.int (2 : Int32))) (Term.int (108 : Int32))) (by decide +kernel)
    | 1, _, 3, _ => exact hs (Cond.eq (Term.elem (Term.field (Term.string "ShakeHands$Teller" 123) "java/lang/String" "value" "[B") (Term.int (3 : Int32))) (Term.int (100 : Int32))) (by decide +kernel)
    | 2, _, 0, _ => exact hs (Cond.eq (Term.elem (Term.field (Term.string "ShakeHands$Teller" 127) "java/lang/String" "value" "[B") (Term.int (0 : Int32))) (Term.int (107 : Int32))) (by decide +kernel)
    | 2, _, 1, _ => exact hs (Cond.eq (Term.elem (Term.field (Term.string "ShakeHands$Teller" 127) "java/lang/String" "value" "[B") (Term.int (1 : Int32))) (Term.int (110 : Int32))) (by decide +kernel)
    | 2, _, 2, _ => exact hs (Cond.eq (Term.elem (Term.field (Term.string "ShakeHands$Teller" 127) "java/lang/String" "value" "[B") (Term.int (2 : Int32))) (Term.int (111 : Int32))) (by decide +kernel)
    | 2, _, 3, _ => exact hs (Cond.eq (Term.elem (Term.field (Term.string "ShakeHands$Teller" 127) "java/lang/String" "value" "[B") (Term.int (3 : Int32))) (Term.int (119 : Int32))) (by decide +kernel)
    | 2, _, 4, _ => exact hs (Cond.eq (Term.elem (Term.field (Term.string "ShakeHands$Teller" 127) "java/lang/String" "value" "[B") (Term.int (4 : Int32))) (Term.int (115 : Int32))) (by decide +kernel)
    | 3, _, 0, _ => exact hs (Cond.eq (Term.elem (Term.field (Term.string "ShakeHands$Teller" 132) "java/lang/String" "value" "[B") (Term.int (0 : Int32))) (Term.int (106 : Int32))) (by decide +kernel)
    | 3, _, 1, _ => exact hs (Cond.eq (Term.elem (Term.field (Term.string "ShakeHands$Teller" 132) "java/lang/String" "value" "[B") (Term.int (1 : Int32))) (Term.int (111 : Int32))) (by decide +kernel)
    | 3, _, 2, _ => exact hs (Cond.eq (Term.elem (Term.field (Term.string "ShakeHands$Teller" 132) "java/lang/String" "value" "[B") (Term.int (2 : Int32))) (Term.int (105 : Int32))) (by decide +kernel)
    | 3, _, 3, _ => exact hs (Cond.eq (Term.elem (Term.field (Term.string "ShakeHands$Teller" 132) "java/lang/String" "value" "[B") (Term.int (3 : Int32))) (Term.int (110 : Int32))) (by decide +kernel)
    | 4, _, 0, _ => exact hs (Cond.eq (Term.elem (Term.field (Term.string "ShakeHands$Teller" 137) "java/lang/String" "value" "[B") (Term.int (0 : Int32))) (Term.int (104 : Int32))) (by decide +kernel)
    | 4, _, 1, _ => exact hs (Cond.eq (Term.elem (Term.field (Term.string "ShakeHands$Teller" 137) "java/lang/String" "value" "[B") (Term.int (1 : Int32))) (Term.int (97 : Int32))) (by decide +kernel)
    | 4, _, 2, _ => exact hs (Cond.eq (Term.elem (Term.field (Term.string "ShakeHands$Teller" 137) "java/lang/String" "value" "[B") (Term.int (2 : Int32))) (Term.int (110 : Int32))) (by decide +kernel)
    | 4, _, 3, _ => exact hs (Cond.eq (Term.elem (Term.field (Term.string "ShakeHands$Teller" 137) "java/lang/String" "value" "[B") (Term.int (3 : Int32))) (Term.int (100 : Int32))) (by decide +kernel)
    | 5, _, 0, _ => exact hs (Cond.eq (Term.elem (Term.field (Term.string "ShakeHands$Teller" 150) "java/lang/String" "value" "[B") (Term.int (0 : Int32))) (Term.int (100 : Int32))) (by decide +kernel)
    | 5, _, 1, _ => exact hs (Cond.eq (Term.elem (Term.field (Term.string "ShakeHands$Teller" 150) "java/lang/String" "value" "[B") (Term.int (1 : Int32))) (Term.int (97 : Int32))) (by decide +kernel)
    | 5, _, 2, _ => exact hs (Cond.eq (Term.elem (Term.field (Term.string "ShakeHands$Teller" 150) "java/lang/String" "value" "[B") (Term.int (2 : Int32))) (Term.int (105 : Int32))) (by decide +kernel)
    | 5, _, 3, _ => exact hs (Cond.eq (Term.elem (Term.field (Term.string "ShakeHands$Teller" 150) "java/lang/String" "value" "[B") (Term.int (3 : Int32))) (Term.int (108 : Int32))) (by decide +kernel)
    | 5, _, 4, _ => exact hs (Cond.eq (Term.elem (Term.field (Term.string "ShakeHands$Teller" 150) "java/lang/String" "value" "[B") (Term.int (4 : Int32))) (Term.int (121 : Int32))) (by decide +kernel)
    | 6, _, 0, _ => exact hs (Cond.eq (Term.elem (Term.field (Term.string "ShakeHands$Teller" 157) "java/lang/String" "value" "[B") (Term.int (0 : Int32))) (Term.int (103 : Int32))) (by decide +kernel)
    | 6, _, 1, _ => exact hs (Cond.eq (Term.elem (Term.field (Term.string "ShakeHands$Teller" 157) "java/lang/String" "value" "[B") (Term.int (1 : Int32))) (Term.int (108 : Int32))) (by decide +kernel)
    | 6, _, 2, _ => exact hs (Cond.eq (Term.elem (Term.field (Term.string "ShakeHands$Teller" 157) "java/lang/String" "value" "[B") (Term.int (2 : Int32))) (Term.int (111 : Int32))) (by decide +kernel)
    | 6, _, 3, _ => exact hs (Cond.eq (Term.elem (Term.field (Term.string "ShakeHands$Teller" 157) "java/lang/String" "value" "[B") (Term.int (3 : Int32))) (Term.int (118 : Int32))) (by decide +kernel)
    | 6, _, 4, _ => exact hs (Cond.eq (Term.elem (Term.field (Term.string "ShakeHands$Teller" 157) "java/lang/String" "value" "[B") (Term.int (4 : Int32))) (Term.int (101 : Int32))) (by decide +kernel)
    | 0, _, j + 6, h => exact absurd h (Nat.not_lt.mpr (Nat.le_add_left _ _))
    | 1, _, j + 4, h => exact absurd h (Nat.not_lt.mpr (Nat.le_add_left _ _))
    | 2, _, j + 5, h => exact absurd h (Nat.not_lt.mpr (Nat.le_add_left _ _))
    | 3, _, j + 4, h => exact absurd h (Nat.not_lt.mpr (Nat.le_add_left _ _))
    | 4, _, j + 4, h => exact absurd h (Nat.not_lt.mpr (Nat.le_add_left _ _))
    | 5, _, j + 5, h => exact absurd h (Nat.not_lt.mpr (Nat.le_add_left _ _))
    | 6, _, j + 5, h => exact absurd h (Nat.not_lt.mpr (Nat.le_add_left _ _))
    | i + 7, h, _, _ => exact absurd h (by omega)) (fun i j hi hj hij => by
    match i, j, hi, hj, hij with
    | 0, 0, _, _, h => exact absurd rfl h
    | 0, 1, _, _, _ => exact Or.inl (hs (Cond.not (Cond.eq (Term.string "ShakeHands$Teller" 115) (Term.string "ShakeHands$Teller" 123))) (by decide +kernel))
    | 0, 2, _, _, _ => exact Or.inl (hs (Cond.not (Cond.eq (Term.string "ShakeHands$Teller" 115) (Term.string "ShakeHands$Teller" 127))) (by decide +kernel))
    | 0, 3, _, _, _ => exact Or.inl (hs (Cond.not (Cond.eq (Term.string "ShakeHands$Teller" 115) (Term.string "ShakeHands$Teller" 132))) (by decide +kernel))
    | 0, 4, _, _, _ => exact Or.inl (hs (Cond.not (Cond.eq (Term.string "ShakeHands$Teller" 115) (Term.string "ShakeHands$Teller" 137))) (by decide +kernel))
    | 0, 5, _, _, _ => exact Or.inl (hs (Cond.not (Cond.eq (Term.string "ShakeHands$Teller" 115) (Term.string "ShakeHands$Teller" 150))) (by decide +kernel))
    | 0, 6, _, _, _ => exact Or.inl (hs (Cond.not (Cond.eq (Term.string "ShakeHands$Teller" 115) (Term.string "ShakeHands$Teller" 157))) (by decide +kernel))
    | 1, 0, _, _, _ => exact Or.inr (hs (Cond.not (Cond.eq (Term.string "ShakeHands$Teller" 115) (Term.string "ShakeHands$Teller" 123))) (by decide +kernel))
    | 1, 1, _, _, h => exact absurd rfl h
    | 1, 2, _, _, _ => exact Or.inl (hs (Cond.not (Cond.eq (Term.string "ShakeHands$Teller" 123) (Term.string "ShakeHands$Teller" 127))) (by decide +kernel))
    | 1, 3, _, _, _ => exact Or.inl (hs (Cond.not (Cond.eq (Term.string "ShakeHands$Teller" 123) (Term.string "ShakeHands$Teller" 132))) (by decide +kernel))
    | 1, 4, _, _, _ => exact Or.inl (hs (Cond.not (Cond.eq (Term.string "ShakeHands$Teller" 123) (Term.string "ShakeHands$Teller" 137))) (by decide +kernel))
    | 1, 5, _, _, _ => exact Or.inl (hs (Cond.not (Cond.eq (Term.string "ShakeHands$Teller" 123) (Term.string "ShakeHands$Teller" 150))) (by decide +kernel))
    | 1, 6, _, _, _ => exact Or.inl (hs (Cond.not (Cond.eq (Term.string "ShakeHands$Teller" 123) (Term.string "ShakeHands$Teller" 157))) (by decide +kernel))
    | 2, 0, _, _, _ => exact Or.inr (hs (Cond.not (Cond.eq (Term.string "ShakeHands$Teller" 115) (Term.string "ShakeHands$Teller" 127))) (by decide +kernel))
    | 2, 1, _, _, _ => exact Or.inr (hs (Cond.not (Cond.eq (Term.string "ShakeHands$Teller" 123) (Term.string "ShakeHands$Teller" 127))) (by decide +kernel))
    | 2, 2, _, _, h => exact absurd rfl h
    | 2, 3, _, _, _ => exact Or.inl (hs (Cond.not (Cond.eq (Term.string "ShakeHands$Teller" 127) (Term.string "ShakeHands$Teller" 132))) (by decide +kernel))
    | 2, 4, _, _, _ => exact Or.inl (hs (Cond.not (Cond.eq (Term.string "ShakeHands$Teller" 127) (Term.string "ShakeHands$Teller" 137))) (by decide +kernel))
    | 2, 5, _, _, _ => exact Or.inl (hs (Cond.not (Cond.eq (Term.string "ShakeHands$Teller" 127) (Term.string "ShakeHands$Teller" 150))) (by decide +kernel))
    | 2, 6, _, _, _ => exact Or.inl (hs (Cond.not (Cond.eq (Term.string "ShakeHands$Teller" 127) (Term.string "ShakeHands$Teller" 157))) (by decide +kernel))
    | 3, 0, _, _, _ => exact Or.inr (hs (Cond.not (Cond.eq (Term.string "ShakeHands$Teller" 115) (Term.string "ShakeHands$Teller" 132))) (by decide +kernel))
    | 3, 1, _, _, _ => exact Or.inr (hs (Cond.not (Cond.eq (Term.string "ShakeHands$Teller" 123) (Term.string "ShakeHands$Teller" 132))) (by decide +kernel))
    | 3, 2, _, _, _ => exact Or.inr (hs (Cond.not (Cond.eq (Term.string "ShakeHands$Teller" 127) (Term.string "ShakeHands$Teller" 132))) (by decide +kernel))
    | 3, 3, _, _, h => exact absurd rfl h
    | 3, 4, _, _, _ => exact Or.inl (hs (Cond.not (Cond.eq (Term.string "ShakeHands$Teller" 132) (Term.string "ShakeHands$Teller" 137))) (by decide +kernel))
    | 3, 5, _, _, _ => exact Or.inl (hs (Cond.not (Cond.eq (Term.string "ShakeHands$Teller" 132) (Term.string "ShakeHands$Teller" 150))) (by decide +kernel))
    | 3, 6, _, _, _ => exact Or.inl (hs (Cond.not (Cond.eq (Term.string "ShakeHands$Teller" 132) (Term.string "ShakeHands$Teller" 157))) (by decide +kernel))
    | 4, 0, _, _, _ => exact Or.inr (hs (Cond.not (Cond.eq (Term.string "ShakeHands$Teller" 115) (Term.string "ShakeHands$Teller" 137))) (by decide +kernel))
    | 4, 1, _, _, _ => exact Or.inr (hs (Cond.not (Cond.eq (Term.string "ShakeHands$Teller" 123) (Term.string "ShakeHands$Teller" 137))) (by decide +kernel))
    | 4, 2, _, _, _ => exact Or.inr (hs (Cond.not (Cond.eq (Term.string "ShakeHands$Teller" 127) (Term.string "ShakeHands$Teller" 137))) (by decide +kernel))
    | 4, 3, _, _, _ => exact Or.inr (hs (Cond.not (Cond.eq (Term.string "ShakeHands$Teller" 132) (Term.string "ShakeHands$Teller" 137))) (by decide +kernel))
    | 4, 4, _, _, h => exact absurd rfl h
    | 4, 5, _, _, _ => exact Or.inl (hs (Cond.not (Cond.eq (Term.string "ShakeHands$Teller" 137) (Term.string "ShakeHands$Teller" 150))) (by decide +kernel))
    | 4, 6, _, _, _ => exact Or.inl (hs (Cond.not (Cond.eq (Term.string "ShakeHands$Teller" 137) (Term.string "ShakeHands$Teller" 157))) (by decide +kernel))
    | 5, 0, _, _, _ => exact Or.inr (hs (Cond.not (Cond.eq (Term.string "ShakeHands$Teller" 115) (Term.string "ShakeHands$Teller" 150))) (by decide +kernel))
    | 5, 1, _, _, _ => exact Or.inr (hs (Cond.not (Cond.eq (Term.string "ShakeHands$Teller" 123) (Term.string "ShakeHands$Teller" 150))) (by decide +kernel))
    | 5, 2, _, _, _ => exact Or.inr (hs (Cond.not (Cond.eq (Term.string "ShakeHands$Teller" 127) (Term.string "ShakeHands$Teller" 150))) (by decide +kernel))
    | 5, 3, _, _, _ => exact Or.inr (hs (Cond.not (Cond.eq (Term.string "ShakeHands$Teller" 132) (Term.string "ShakeHands$Teller" 150))) (by decide +kernel))
    | 5, 4, _, _, _ => exact Or.inr (hs (Cond.not (Cond.eq (Term.string "ShakeHands$Teller" 137) (Term.string "ShakeHands$Teller" 150))) (by decide +kernel))
    | 5, 5, _, _, h => exact absurd rfl h
    | 5, 6, _, _, _ => exact Or.inl (hs (Cond.not (Cond.eq (Term.string "ShakeHands$Teller" 150) (Term.string "ShakeHands$Teller" 157))) (by decide +kernel))
    | 6, 0, _, _, _ => exact Or.inr (hs (Cond.not (Cond.eq (Term.string "ShakeHands$Teller" 115) (Term.string "ShakeHands$Teller" 157))) (by decide +kernel))
    | 6, 1, _, _, _ => exact Or.inr (hs (Cond.not (Cond.eq (Term.string "ShakeHands$Teller" 123) (Term.string "ShakeHands$Teller" 157))) (by decide +kernel))
    | 6, 2, _, _, _ => exact Or.inr (hs (Cond.not (Cond.eq (Term.string "ShakeHands$Teller" 127) (Term.string "ShakeHands$Teller" 157))) (by decide +kernel))
    | 6, 3, _, _, _ => exact Or.inr (hs (Cond.not (Cond.eq (Term.string "ShakeHands$Teller" 132) (Term.string "ShakeHands$Teller" 157))) (by decide +kernel))
    | 6, 4, _, _, _ => exact Or.inr (hs (Cond.not (Cond.eq (Term.string "ShakeHands$Teller" 137) (Term.string "ShakeHands$Teller" 157))) (by decide +kernel))
    | 6, 5, _, _, _ => exact Or.inr (hs (Cond.not (Cond.eq (Term.string "ShakeHands$Teller" 150) (Term.string "ShakeHands$Teller" 157))) (by decide +kernel))
    | 6, 6, _, _, h => exact absurd rfl h
    | i + 7, _, h, _, _ => exact absurd h (by omega)
    | _, j + 7, _, h, _ => exact absurd h (by omega)) hA
  obtain ⟨f, hf⟩ : ∃ f : Nat, va_Z "jdk/internal/util/Preconditions" "SIOOBE_FORMATTER" "Ljava/util/function/BiFunction;" .null (fun q => s.heap.size ≤ q) s s.heap ∨ va_Z "jdk/internal/util/Preconditions" "SIOOBE_FORMATTER" "Ljava/util/function/BiFunction;" (.ref f) (fun q => s.heap.size ≤ q) s s.heap := by
    rcases ZF with h | ⟨t, h⟩
    · exact ⟨0, Or.inl h⟩
    · exact ⟨t, Or.inr h⟩
  let stt : Nat → Nat := fun k => if k = 200 then tLESSER else if k = 201 then tGREATER else if k = 230 then f else if k < 220 then adK (k - 210) else adV (k - 220)
  have g0 : adB s.heap.size stt 200 = tLESSER := (adB_hi (by omega)).trans rfl
  have g1 : adB s.heap.size stt 201 = tGREATER := (adB_hi (by omega)).trans rfl
  have g2 : adB s.heap.size stt 230 = f := (adB_hi (by omega)).trans rfl
  have k1 : ∀ i, i < 7 → adB s.heap.size stt (210 + i) = adK i := fun i hi => by
    rw [adB_hi (by omega)]
    show (if 210 + i = 200 then tLESSER else if 210 + i = 201 then tGREATER else if 210 + i = 230 then f else if 210 + i < 220 then adK (210 + i - 210) else adV (210 + i - 220)) = adK i
    rw [if_neg (by omega), if_neg (by omega), if_neg (by omega), if_pos (by omega), show 210 + i - 210 = i by omega]
  have k2 : ∀ i, i < 7 → adB s.heap.size stt (220 + i) = adV i := fun i hi => by
    rw [adB_hi (by omega)]
    show (if 220 + i = 200 then tLESSER else if 220 + i = 201 then tGREATER else if 220 + i = 230 then f else if 220 + i < 220 then adK (220 + i - 210) else adV (220 + i - 220)) = adV i
    rw [if_neg (by omega), if_neg (by omega), if_neg (by omega), if_neg (by omega), show 220 + i - 220 = i by omega]
  refine ⟨stt, hK, by rw [g0]; exact ZLESSER, by rw [g0]; exact TLESSER, by rw [g1]; exact ZGREATER, by rw [g1]; exact TGREATER, ?_, ?_, ZC, by rw [g2]; exact hf, ?_, ?_⟩
  · refine ⟨fun i hi => ?_, fun i j hi hj he => ?_⟩
    · dsimp only
      rw [k1 i hi, k2 i hi]
      exact hSt.1 i hi
    · dsimp only at he
      rw [k1 i hi, k1 j hj] at he
      exact hSt.2 i j hi hj he
  · intro i q hq
    match i, hq with
    | 0, hq => cases hq; rw [k1 0 (by decide)]; exact vk_R.of (hw 373 (.stringRef "ShakeHands$Teller" 115 "people") (by decide +kernel)) ((Term_string_args (hStE 0 (by decide))))
    | 1, hq => cases hq; rw [k1 1 (by decide)]; exact vk_R.of (hw 442 (.stringRef "ShakeHands$Teller" 123 "hold") (by decide +kernel)) ((Term_string_args (hStE 1 (by decide))))
    | 2, hq => cases hq; rw [k1 2 (by decide)]; exact vk_R.of (hw 447 (.stringRef "ShakeHands$Teller" 127 "knows") (by decide +kernel)) ((Term_string_args (hStE 2 (by decide))))
    | 3, hq => cases hq; rw [k1 3 (by decide)]; exact vk_R.of (hw 479 (.stringRef "ShakeHands$Teller" 132 "join") (by decide +kernel)) ((Term_string_args (hStE 3 (by decide))))
    | 4, hq => cases hq; rw [k1 4 (by decide)]; exact vk_R.of (hw 484 (.stringRef "ShakeHands$Teller" 137 "hand") (by decide +kernel)) ((Term_string_args (hStE 4 (by decide))))
    | 5, hq => cases hq; rw [k1 5 (by decide)]; exact vk_R.of (hw 496 (.stringRef "ShakeHands$Teller" 150 "daily") (by decide +kernel)) ((Term_string_args (hStE 5 (by decide))))
    | 6, hq => cases hq; rw [k1 6 (by decide)]; exact vk_R.of (hw 497 (.stringRef "ShakeHands$Teller" 157 "glove") (by decide +kernel)) ((Term_string_args (hStE 6 (by decide))))
    | i + 7, hq => simp [stTxt] at hq
  · intro q hq
    simp only [nestF, List.mem_cons, List.mem_nil_iff, or_false] at hq
    rcases hq with rfl | rfl | rfl | rfl
    · exact va_Nw.of rfl (hw 622 (.fieldLinkNest "ShakeHands$Circle" 50 "ShakeHands" "LESSER" "[I" "ShakeHands") (by decide +kernel))
    · exact va_Nw.of rfl (hw 624 (.fieldLinkNest "ShakeHands$Circle" 53 "ShakeHands" "GREATER" "[I" "ShakeHands") (by decide +kernel))
    · exact va_Nw.of rfl (hw 703 (.fieldLinkNest "ShakeHands$Search" 113 "ShakeHands" "LESSER" "[I" "ShakeHands") (by decide +kernel))
    · exact va_Nw.of rfl (hw 704 (.fieldLinkNest "ShakeHands$Search" 116 "ShakeHands" "GREATER" "[I" "ShakeHands") (by decide +kernel))
  · intro q hq
    simp only [nestM, List.mem_cons, List.mem_nil_iff, or_false] at hq
    rcases hq with rfl | rfl
    · exact va_Nw.of rfl (hw 800 (.methodLinkNest "ShakeHands$Search" 146 y_ShakeHands_pairOf "ShakeHands") (by decide +kernel))
    · exact va_Nw.of rfl (hw 489 (.methodLinkNest "ShakeHands$Teller" 206 y_ShakeHands_pairOf "ShakeHands") (by decide +kernel))
theorem KC_start {args : Array Value} {s : State} {D : va_G} {dA : Nat → ClassId} {stt : Nat → Nat} (hts : ∀ w ∈ lw_tbl, w.before args s = true) (hK : va_K D cl (tysOf dA) s) (hC : Cx D (adB s.heap.size stt) dA (fun q => s.heap.size ≤ q) s s.heap) : KC D s.heap.size stt dA s s.heap := by
  have hw : ∀ (i : Nat) (w : Cond), tables_1[i]? = some w → w.before args s = true := fun i w h => hts w (List.mem_append_right _ (List.mem_of_getElem? h))
  refine ⟨hK, ?_, va_AO.of (hw 200 _ (by decide +kernel)), va_AO.of (hw 274 _ (by decide +kernel)), (hw 208 (.arrayOver (.array .long)) (by decide +kernel)), hC⟩
  · intro q hq
    simp only [nestI, List.mem_cons, List.mem_nil_iff, or_false] at hq
    rcases hq with rfl | rfl | rfl | rfl | rfl | rfl | rfl
    · exact va_Nw.of rfl (hw 28 (.methodLinkNest "ShakeHands" 9 y_Tape_init "ShakeHands") (by decide +kernel))
    · exact va_Nw.of rfl (hw 51 (.methodLinkNest "ShakeHands$Teller" 11 y_Circle_init "ShakeHands") (by decide +kernel))
    · exact va_Nw.of rfl (hw 57 (.methodLinkNest "ShakeHands$Circle" 30 y_Row_init "ShakeHands") (by decide +kernel))
    · exact va_Nw.of rfl (hw 117 (.methodLinkNest "ShakeHands$Teller" 24 y_Row_init "ShakeHands") (by decide +kernel))
    · exact va_Nw.of rfl (hw 170 (.methodLinkNest "ShakeHands" 27 y_Circle_init "ShakeHands") (by decide +kernel))
    · exact va_Nw.of rfl (hw 173 (.methodLinkNest "ShakeHands" 34 y_Minds_init "ShakeHands") (by decide +kernel))
    · exact va_Nw.of rfl (hw 276 (.methodLinkNest "ShakeHands" 65 y_Sheet_init "ShakeHands") (by decide +kernel))
section WNEW
variable {p : Program} {l : Launch} {e : Env} {R : Room} {s : State} {m : MethodId} {args : Array Value} {below : List Frame} {meth : Method} {c : Code} {H : Heap} {locs : List Loc} {cells slots : Nat} {Q : State → Prop} {pc : Nat} {ls : Array Slot} {rest : List Value}
theorem w_new {own C : String} {T : u_T} {N ci i : Nat} {ty : Nat → FieldType} {ds : List Nat} {D : va_G} {dA : Nat → ClassId} {cc : ByteArray} {base : Nat} {stt : Nat → Nat} (hx : p.tables.exec = Jvm.exec) (hb : c.code = cc) (hd : decode cc pc = .ok (.new i, 3)) (hown : s.vm.findClass own = some m.cls) (hK : va_K D cl (tysOf dA) s) (hts : ∀ w ∈ tbl, w.before args s = true) (hcl : cl[ci]? = some (C, T, N)) (hc : ci < 100) (hin9 : ∀ w ∈ u_ws C T N, w ∈ tbl) (hty : ∀ k, k < N → parseFieldDescriptor (T k).2.2.1 = some (ty k)) (hwl : Cond.classLink own i C ∈ tbl) (hwi : Cond.instantiable C N ∈ tbl) (hwn : Cond.initialized C ∈ tbl) (hds : ∀ ad : Nat → Nat, ∀ j, j < N → defaultValue (ty j) = vp_V (ds.mapIdx (fun i kd => fldC ad zM 0 i kd)) j) (hk : cells + 1 ≤ R.cells) (hn : slots + N ≤ R.slots) (hz : H.size = base) (hS : va_S (fun q => s.heap.size ≤ q) s.heap H locs)
    (kk : ∀ H1 : Heap, va_P D cl (layC (adB base stt) dA [(ci, ds)] zM) H1 → H1.size = base + 1 → (∀ q, q < base → H1[q]? = H[q]?) → va_S (fun q => s.heap.size ≤ q) s.heap H1 locs → W p l e R s m args below meth c H1 locs (cells + 1) (slots + N) Q (F0 m (pc + 3) ls (.ref base :: rest))) : W p l e R s m args below meth c H locs cells slots Q (F0 m pc ls rest) := by
  have hKn := hK.1 ci _ hcl
  refine W.newcK hx hb hown (hts _ hwl) (hts _ hwi) (hts _ hwn) rfl hd hk hn hKn.2.1 rfl fun H1 kC hkC e1 z1 o1 => ?_
  rw [hz] at e1 z1 o1 ⊢
  refine kk H1 (fun k x hx => ?_) z1 o1 ⟨by have := hS.1; omega, fun x h1 h2 => (o1 x (by have := hS.1; omega)).trans (hS.2.1 x h1 h2), hS.2.2⟩
  have hz1 : k < 1 := (List.getElem?_eq_some_iff.mp hx).1
  rw [show k = 0 by omega] at hx
  have ec : cellC (adB base stt) dA zM 0 (ci, ds) = .inr (ci, ds.mapIdx (fun i kd => fldC (adB base stt) zM 0 i kd)) := by simp [cellC, hc]
  have hx : some (adB base stt 0, cellC (adB base stt) dA zM 0 (ci, ds)) = some x := hx
  rw [ec] at hx
  cases hx
  have ea : adB base stt 0 = base := rfl
  rw [ea]
  exact ⟨_, hcl, (u_born ty hts hin9 hKn hkC e1 hty).to (hds _)⟩
end WNEW
theorem conv_x (ad : Nat → Nat) (dA : Nat → ClassId) (M : Mem) : layC ad dA [(8, [4, 6, 14, 19, 22, 29, 40, 43, 52, 0, 0]), (6, [5, 0]), (101, [320]), (7, [7, 12, 0, 0, 4, 13, 0, 0, 0, 0, 0, 0, 0, 0, 0]), (0, [0, 0, 8, 0, 9, 0, 10, 0, 11]), (100, [12]), (100, [16]), (100, [8]), (3, [1, 0]), (103, [6]), (3, [1, 0]), (0, [0, 0, 15, 0, 16, 0, 17, 0, 18]), (100, [12]), (100, [16]), (100, [8]), (3, [1, 0]), (2, [20, 0, 0, 21]), (103, [6]), (100, [6]), (104, [21, 24]), (2, [24, 0, 0, 25]), (103, [6]), (100, [6]), (2, [27, 0, 0, 28]), (103, [6]), (100, [6]), (4, [30, 31, 0, 0, 0, 32, 14, 19, 0, 0, 0, 0, 0]), (100, [6]), (100, [6]), (106, [31, 32, 33, 34, 35, 36, 37]), (103, [6]), (103, [6]), (103, [6]), (103, [6]), (103, [6]), (103, [6]), (103, [6]), (1, [41, 42, 14, 19]), (103, [1206]), (103, [6]), (105, [42, 44, 46, 48]), (5, [0, 0, 0, 45]), (100, [40]), (5, [0, 0, 0, 47]), (100, [40]), (5, [0, 0, 0, 49]), (100, [40]), (5, [0, 0, 0, 51]), (100, [40]), (103, [6])] M = lay ad dA SHx M := by
  have e2 : rfC ad [21, 24] = fun j => (([20, 23] : List Nat)[j]?).map ad := by
    funext j
    match j with
    | 0 => rfl
    | 1 => rfl
    | j + 2 => rfl
  have e4 : rfC ad [42, 44, 46, 48] = fun j => (([41, 43, 45, 47] : List Nat)[j]?).map ad := by
    funext j
    match j with
    | 0 => rfl
    | 1 => rfl
    | 2 => rfl
    | 3 => rfl
    | j + 4 => rfl
  have e7 : rfC ad [31, 32, 33, 34, 35, 36, 37] = fun j => (([30, 31, 32, 33, 34, 35, 36] : List Nat)[j]?).map ad := by
    funext j
    match j with
    | 0 => rfl
    | 1 => rfl
    | 2 => rfl
    | 3 => rfl
    | 4 => rfl
    | 5 => rfl
    | 6 => rfl
    | j + 7 => rfl
  show List.mapIdx _ _ = List.mapIdx _ SHx
  unfold SHx
  simp only [List.mapIdx_cons, List.mapIdx_nil, Function.comp_def]
  simp only [cellC, cellOf, e2, e4, e7]
  rfl
theorem cwl_Law_7 : Cond.classLink R_law 7 "ShakeHands" ∈ tbl := tb_1 18 (by decide +kernel) rfl
theorem cwl_Law_10 : Cond.classLink R_law 10 "ShakeHandsModel" ∈ tbl := tb_4 157 (by decide +kernel) rfl
theorem cI_Law_9 : Cond.methodLink R_law 9 y_ShakeHands_init ∈ tbl := tb_1 20 (by decide +kernel) rfl
theorem cI_Law_12 : Cond.methodLink R_law 12 y_Model_init ∈ tbl := tb_4 159 (by decide +kernel) rfl
theorem dn_ShakeHands_init : Dn y_ShakeHands_init 0 := ⟨by decide +kernel, by decide +kernel, by decide +kernel⟩
theorem dn_Model_init : Dn y_Model_init 0 := ⟨by decide +kernel, by decide +kernel, by decide +kernel⟩
def M0x : Mem := si (si (si (si zM 4 0 3) 4 1 9) 11 0 3) 11 1 9
theorem law_step {L : Nat} {xs : Nat → Int32} {i : Int32} (h0 : vp_in i L) (h1 : vp_in (i + 1) L) (h2 : vp_in (i + 2) L) (h3 : vp_in (i + 3) L) (h4 : vp_in (i + 4) L) {Mx Mm : Mem} (hR : Rel Mx Mm) (hend : ∀ Mx2 Mm2, Rel Mx2 Mm2 → JL L xs 1329 [(0, .ref 301), (1, .ref 0), (2, .ref 300), (3, .int i)] [] Mx2 Mm2) : JL L xs 26 [(0, .ref 301), (1, .ref 0), (2, .ref 300), (3, .int i)] [] Mx Mm := by
  refine l_aload_n (pc := 26) (q := 0) d_law_26 rfl rfl ?_
  refine l_iload_n (pc := 27) (q := 3) d_law_27 rfl rfl ?_
  refine l_ald (pc := 28) d_law_28 h0 ?_
  refine l_bipush (pc := 29) d_law_29 k_b_63 ?_
  refine l_iand (pc := 31) d_law_31 ?_
  generalize xs i.toNatClampNeg &&& 63 = v
  by_cases g0 : v = 0
  · exact l_tableIn (pc := 32) (tgt := 196) d_law_32 0 g0 (by decide) (by decide) rfl (by decide) (law_case_0 h0 h1 h2 h3 h4 hR hend)
  by_cases g1 : v = 1
  · exact l_tableIn (pc := 32) (tgt := 249) d_law_32 1 g1 (by decide) (by decide) rfl (by decide) (law_case_1 h0 h1 h2 h3 h4 hR hend)
  by_cases g2 : v = 2
  · exact l_tableIn (pc := 32) (tgt := 272) d_law_32 2 g2 (by decide) (by decide) rfl (by decide) (law_case_2 h0 h1 h2 h3 h4 hR hend)
  by_cases g3 : v = 3
  · exact l_tableIn (pc := 32) (tgt := 285) d_law_32 3 g3 (by decide) (by decide) rfl (by decide) (law_case_3 h0 h1 h2 h3 h4 hR hend)
  by_cases g4 : v = 4
  · exact l_tableIn (pc := 32) (tgt := 298) d_law_32 4 g4 (by decide) (by decide) rfl (by decide) (law_case_4 h0 h1 h2 h3 h4 hR hend)
  by_cases g5 : v = 5
  · exact l_tableIn (pc := 32) (tgt := 321) d_law_32 5 g5 (by decide) (by decide) rfl (by decide) (law_case_5 h0 h1 h2 h3 h4 hR hend)
  by_cases g6 : v = 6
  · exact l_tableIn (pc := 32) (tgt := 370) d_law_32 6 g6 (by decide) (by decide) rfl (by decide) (law_case_6 h0 h1 h2 h3 h4 hR hend)
  by_cases g7 : v = 7
  · exact l_tableIn (pc := 32) (tgt := 403) d_law_32 7 g7 (by decide) (by decide) rfl (by decide) (law_case_7 h0 h1 h2 h3 h4 hR hend)
  by_cases g8 : v = 8
  · exact l_tableIn (pc := 32) (tgt := 426) d_law_32 8 g8 (by decide) (by decide) rfl (by decide) (law_case_8 h0 h1 h2 h3 h4 hR hend)
  by_cases g9 : v = 9
  · exact l_tableIn (pc := 32) (tgt := 459) d_law_32 9 g9 (by decide) (by decide) rfl (by decide) (law_case_9 h0 h1 h2 h3 h4 hR hend)
  by_cases g10 : v = 10
  · exact l_tableIn (pc := 32) (tgt := 482) d_law_32 10 g10 (by decide) (by decide) rfl (by decide) (law_case_10 h0 h1 h2 h3 h4 hR hend)
  by_cases g11 : v = 11
  · exact l_tableIn (pc := 32) (tgt := 515) d_law_32 11 g11 (by decide) (by decide) rfl (by decide) (law_case_11 h0 h1 h2 h3 h4 hR hend)
  by_cases g12 : v = 12
  · exact l_tableIn (pc := 32) (tgt := 548) d_law_32 12 g12 (by decide) (by decide) rfl (by decide) (law_case_12 h0 h1 h2 h3 h4 hR hend)
  by_cases g13 : v = 13
  · exact l_tableIn (pc := 32) (tgt := 597) d_law_32 13 g13 (by decide) (by decide) rfl (by decide) (law_case_13 h0 h1 h2 h3 h4 hR hend)
  by_cases g14 : v = 14
  · exact l_tableIn (pc := 32) (tgt := 630) d_law_32 14 g14 (by decide) (by decide) rfl (by decide) (law_case_14 h0 h1 h2 h3 h4 hR hend)
  by_cases g15 : v = 15
  · exact l_tableIn (pc := 32) (tgt := 653) d_law_32 15 g15 (by decide) (by decide) rfl (by decide) (law_case_15 h0 h1 h2 h3 h4 hR hend)
  by_cases g16 : v = 16
  · exact l_tableIn (pc := 32) (tgt := 686) d_law_32 16 g16 (by decide) (by decide) rfl (by decide) (law_case_16 h0 h1 h2 h3 h4 hR hend)
  by_cases g17 : v = 17
  · exact l_tableIn (pc := 32) (tgt := 709) d_law_32 17 g17 (by decide) (by decide) rfl (by decide) (law_case_17 h0 h1 h2 h3 h4 hR hend)
  by_cases g18 : v = 18
  · exact l_tableIn (pc := 32) (tgt := 742) d_law_32 18 g18 (by decide) (by decide) rfl (by decide) (law_case_18 h0 h1 h2 h3 h4 hR hend)
  by_cases g19 : v = 19
  · exact l_tableIn (pc := 32) (tgt := 795) d_law_32 19 g19 (by decide) (by decide) rfl (by decide) (law_case_19 h0 h1 h2 h3 h4 hR hend)
  by_cases g20 : v = 20
  · exact l_tableIn (pc := 32) (tgt := 838) d_law_32 20 g20 (by decide) (by decide) rfl (by decide) (law_case_20 h0 h1 h2 h3 h4 hR hend)
  by_cases g21 : v = 21
  · exact l_tableIn (pc := 32) (tgt := 861) d_law_32 21 g21 (by decide) (by decide) rfl (by decide) (law_case_21 h0 h1 h2 h3 h4 hR hend)
  by_cases g22 : v = 22
  · exact l_tableIn (pc := 32) (tgt := 884) d_law_32 22 g22 (by decide) (by decide) rfl (by decide) (law_case_22 h0 h1 h2 h3 h4 hR hend)
  by_cases g23 : v = 23
  · exact l_tableIn (pc := 32) (tgt := 907) d_law_32 23 g23 (by decide) (by decide) rfl (by decide) (law_case_23 h0 h1 h2 h3 h4 hR hend)
  by_cases g24 : v = 24
  · exact l_tableIn (pc := 32) (tgt := 930) d_law_32 24 g24 (by decide) (by decide) rfl (by decide) (law_case_24 h0 h1 h2 h3 h4 hR hend)
  by_cases g25 : v = 25
  · exact l_tableIn (pc := 32) (tgt := 963) d_law_32 25 g25 (by decide) (by decide) rfl (by decide) (law_case_25 h0 h1 h2 h3 h4 hR hend)
  by_cases g26 : v = 26
  · exact l_tableIn (pc := 32) (tgt := 976) d_law_32 26 g26 (by decide) (by decide) rfl (by decide) (law_case_26 h0 h1 h2 h3 h4 hR hend)
  by_cases g27 : v = 27
  · exact l_tableIn (pc := 32) (tgt := 1009) d_law_32 27 g27 (by decide) (by decide) rfl (by decide) (law_case_27 h0 h1 h2 h3 h4 hR hend)
  by_cases g28 : v = 28
  · exact l_tableIn (pc := 32) (tgt := 1022) d_law_32 28 g28 (by decide) (by decide) rfl (by decide) (law_case_28 h0 h1 h2 h3 h4 hR hend)
  by_cases g29 : v = 29
  · exact l_tableIn (pc := 32) (tgt := 1065) d_law_32 29 g29 (by decide) (by decide) rfl (by decide) (law_case_29 h0 h1 h2 h3 h4 hR hend)
  by_cases g30 : v = 30
  · exact l_tableIn (pc := 32) (tgt := 1108) d_law_32 30 g30 (by decide) (by decide) rfl (by decide) (law_case_30 h0 h1 h2 h3 h4 hR hend)
  by_cases g31 : v = 31
  · exact l_tableIn (pc := 32) (tgt := 1131) d_law_32 31 g31 (by decide) (by decide) rfl (by decide) (law_case_31 h0 h1 h2 h3 h4 hR hend)
  by_cases g32 : v = 32
  · exact l_tableIn (pc := 32) (tgt := 1154) d_law_32 32 g32 (by decide) (by decide) rfl (by decide) (law_case_32 h0 h1 h2 h3 h4 hR hend)
  by_cases g33 : v = 33
  · exact l_tableIn (pc := 32) (tgt := 1197) d_law_32 33 g33 (by decide) (by decide) rfl (by decide) (law_case_33 h0 h1 h2 h3 h4 hR hend)
  by_cases g34 : v = 34
  · exact l_tableIn (pc := 32) (tgt := 1240) d_law_32 34 g34 (by decide) (by decide) rfl (by decide) (law_case_34 h0 h1 h2 h3 h4 hR hend)
  by_cases g35 : v = 35
  · exact l_tableIn (pc := 32) (tgt := 1293) d_law_32 35 g35 (by decide) (by decide) rfl (by decide) (law_case_35 h0 h1 h2 h3 h4 hR hend)
  by_cases g36 : v = 36
  · exact l_tableIn (pc := 32) (tgt := 1306) d_law_32 36 g36 (by decide) (by decide) rfl (by decide) (law_case_36 h0 h1 h2 h3 h4 hR hend)
  refine l_tableOut (pc := 32) (tgt := 1329) d_law_32 ?_ (by decide) (hend _ _ hR)
  have e0 : ¬ v.toInt = 0 := sw_ne g0
  have e1 : ¬ v.toInt = 1 := sw_ne g1
  have e2 : ¬ v.toInt = 2 := sw_ne g2
  have e3 : ¬ v.toInt = 3 := sw_ne g3
  have e4 : ¬ v.toInt = 4 := sw_ne g4
  have e5 : ¬ v.toInt = 5 := sw_ne g5
  have e6 : ¬ v.toInt = 6 := sw_ne g6
  have e7 : ¬ v.toInt = 7 := sw_ne g7
  have e8 : ¬ v.toInt = 8 := sw_ne g8
  have e9 : ¬ v.toInt = 9 := sw_ne g9
  have e10 : ¬ v.toInt = 10 := sw_ne g10
  have e11 : ¬ v.toInt = 11 := sw_ne g11
  have e12 : ¬ v.toInt = 12 := sw_ne g12
  have e13 : ¬ v.toInt = 13 := sw_ne g13
  have e14 : ¬ v.toInt = 14 := sw_ne g14
  have e15 : ¬ v.toInt = 15 := sw_ne g15
  have e16 : ¬ v.toInt = 16 := sw_ne g16
  have e17 : ¬ v.toInt = 17 := sw_ne g17
  have e18 : ¬ v.toInt = 18 := sw_ne g18
  have e19 : ¬ v.toInt = 19 := sw_ne g19
  have e20 : ¬ v.toInt = 20 := sw_ne g20
  have e21 : ¬ v.toInt = 21 := sw_ne g21
  have e22 : ¬ v.toInt = 22 := sw_ne g22
  have e23 : ¬ v.toInt = 23 := sw_ne g23
  have e24 : ¬ v.toInt = 24 := sw_ne g24
  have e25 : ¬ v.toInt = 25 := sw_ne g25
  have e26 : ¬ v.toInt = 26 := sw_ne g26
  have e27 : ¬ v.toInt = 27 := sw_ne g27
  have e28 : ¬ v.toInt = 28 := sw_ne g28
  have e29 : ¬ v.toInt = 29 := sw_ne g29
  have e30 : ¬ v.toInt = 30 := sw_ne g30
  have e31 : ¬ v.toInt = 31 := sw_ne g31
  have e32 : ¬ v.toInt = 32 := sw_ne g32
  have e33 : ¬ v.toInt = 33 := sw_ne g33
  have e34 : ¬ v.toInt = 34 := sw_ne g34
  have e35 : ¬ v.toInt = 35 := sw_ne g35
  have e36 : ¬ v.toInt = 36 := sw_ne g36
  omega
theorem law_loop {L : Nat} {xs : Nat → Int32} (hL : L ≤ 2560) : ∀ (k j : Nat), L < 5 * j + k → 5 * j ≤ L → ∀ (Mx Mm : Mem), Rel Mx Mm → JL L xs 18 [(0, .ref 301), (1, .ref 0), (2, .ref 300), (3, .int (nI (5 * j)))] [] Mx Mm := by
  intro k
  induction k with
  | zero => intro j h1 h2; omega
  | succ k ih =>
    intro j hj hj2 Mx Mm hR
    refine l_iload_n (pc := 18) (q := 3) d_law_18 rfl rfl ?_
    refine l_aload_n (pc := 19) (q := 0) d_law_19 rfl rfl ?_
    refine l_alen (pc := 20) d_law_20 ?_
    refine l_iconst (pc := 21) d_law_21 k_i_5 ?_
    refine l_isub (pc := 22) d_law_22 ?_
    have e5 : (nI L - 5).toInt = (L : Int) - 5 := pk_sub_toInt (a := L) (b := 5) (by omega) (by decide)
    have ej : (nI (5 * j)).toInt = ((5 * j : Nat) : Int) := nI_toInt (by omega)
    refine l_gt_split (pc := 23) (tgt := 1335) d_law_23 (by decide) (fun h => ?_) (fun h => ?_)
    · refine l_iconst (pc := 1335) d_law_1335 k_i_1 ?_
      exact l_end (st := []) d_law_1336
    · have hlt : 5 * j + 5 ≤ L := by
        have h' : ¬ (nI L - 5).toInt < (nI (5 * j)).toInt := fun q => h (Int32.lt_iff_toInt_lt.mpr q)
        rw [e5, ej] at h'
        omega
      have hin : ∀ c : Nat, c < 5 → vp_in (nI (5 * j) + nI c) L := fun c hc => by
        rw [nI_add]
        exact vp_in_nI (by omega) (by omega)
      refine law_step (by have := hin 0 (by decide); rw [nI_add] at this; exact this) (hin 1 (by decide)) (hin 2 (by decide)) (hin 3 (by decide)) (hin 4 (by decide)) hR (fun Mx2 Mm2 hR2 => ?_)
      refine l_iinc (pc := 1329) (q := 3) (v := nI (5 * (j + 1))) d_law_1329 rfl (by
        show nI (5 * j) + nI 5 = nI (5 * (j + 1))
        rw [nI_add]; rfl) (by decide) rfl ?_
      refine l_goto (pc := 1332) (tgt := 18) d_law_1332 (by decide) ?_
      refine l_lv [1, 2, 3, 0] rfl ?_
      exact ih (j + 1) (by omega) (by omega) Mx2 Mm2 hR2
theorem lay_Dn {base n : Nat} {stt : Nat → Nat} {dA : Nat → ClassId} {sh : Shp} {M : Mem} (hn : sh.length = n) (h : n ≤ 200 := by decide) : va_D (fun q => base ≤ q ∧ q < base + n) (lay (adB base stt) dA sh M) := by
  have key : ∀ (i : Nat) (p : Nat × va_E), (lay (adB base stt) dA sh M)[i]? = some p → i < n ∧ p.1 = base + i := by
    intro i p hi
    have hl : i < sh.length := by
      have := (List.getElem?_eq_some_iff.mp hi).1
      simpa [lay] using this
    obtain ⟨q, hq⟩ : ∃ q, sh[i]? = some q := ⟨_, List.getElem?_eq_getElem hl⟩
    rw [lay_get hq] at hi
    cases hi
    refine ⟨by omega, ?_⟩
    show adB base stt i = base + i
    unfold adB
    rw [if_pos (by omega)]
  refine ⟨fun i j p q hi hj he => ?_, fun i p hi => ?_⟩
  · have := key i p hi
    have := key j q hj
    omega
  · have := key i p hi
    show base ≤ p.1 ∧ p.1 < base + n
    omega
set_option maxHeartbeats 4000000 in
set_option maxRecDepth 100000 in
theorem whole_start {p : Program} {e : Env} {s : State} {m : MethodId} {below : List Frame} {meth : Method} {c : Code} (l : Launch) (hflags : l.flags = flags0) {b L : Nat} {xs : Nat → Int32} (hL : L ≤ 2560) (C0 : lw_At p s m meth c b L xs) : W p l e room_1 s m #[Value.ref b] below meth c s.heap [] 0 0 (lw_Z below #[Value.ref b] s) (entryFrame m ([Value.ref b] : List Value).toArray 4) := by
  obtain ⟨hx, hb, hr, hml, hown, hts0, hX, hbl, hlocks, hgv⟩ := id C0
  have hts : ∀ w ∈ tbl, w.before #[Value.ref b] s = true := fun w h => hts0 w (List.mem_filter.mp h).1
  obtain ⟨D, dA, hK⟩ := K_start hts0
  obtain ⟨stt, hC⟩ := Cx_start hts0 hgv hK
  have hKC := KC_start hts0 hK hC
  obtain ⟨M9, hF9, hR0⟩ := sim_init
  have hS : va_S (fun q => s.heap.size ≤ q) s.heap s.heap [] := va_S.rf
  have hl := lv_entry ([.ref b]) (n := 4) (Nat.le_of_ble_eq_true rfl)
  rw [lg_entry_eq]
  generalize (lg_sl ([.ref b]) ++ List.replicate (4 - (lg_sl ([.ref b])).length) Slot.unset).toArray = ls at hl ⊢
  have hl : lv_has ls 4 [(0, .ref b)] := hl
  refine w_new (ci := 8) (own := R_law) (T := F_ShakeHands) (N := 11) (ds := [2, 2, 2, 2, 2, 2, 2, 2, 2, 0, 0]) (base := s.heap.size) (stt := stt) hx hb d_law_0 hown hK hts rfl (by decide) i_ShakeHands t_ShakeHands_ok cwl_Law_7 in_ShakeHands ini_ShakeHands (fun ad j hj => nu_ShakeHands ad j hj) (Nat.le_of_ble_eq_true rfl) (Nat.le_of_ble_eq_true rfl) rfl hS (fun H hP hz hk hS => ?_)
  refine lv_dup hx hb d_law_3 rfl ?_
  refine wr_callC (wv := none) (rest := [.ref s.heap.size]) (va_runI (As := []) (b := s.heap.size) (Ts := tbl) ⟨hx, hb, hml, hown, hts⟩ (CC_17 l D s.heap.size stt dA) (cwI 0 hts (good_cons cd_ShakeHands_init) rfl rfl rfl (hts _ ini_ShakeHands) (hts _ cI_Law_9) (hts _ im_ShakeHands_init) rfl dn_ShakeHands_init ⟨(Nat.le_of_ble_eq_true rfl), (Nat.le_of_ble_eq_true rfl)⟩) ⟨fun a U g mk q => ⟨q.1, q.2.1, q.2.2.1, q.2.2.2.blind⟩, fun U hU hW => ⟨rfl, by rw [hU]; exact hP, by rw [hU]; exact hz, by rw [hU]; exact KC.next hKC hS hW⟩⟩ rfl rfl hl.1 rfl (lv_room (Nat.le_of_ble_eq_true rfl)) d_law_4 ⟨(Nat.le_of_ble_eq_true rfl), (Nat.le_of_ble_eq_true rfl)⟩) hS (fun t H1 locs1 ht hpost hS1 => ?_)
  obtain ⟨hPx, hzx⟩ := hpost
  rw [ht] at hPx hzx
  rw [conv_x] at hPx
  have hzx : H1.size = s.heap.size + 50 := hzx
  refine lv_astore_n (lv' := [(1, .ref s.heap.size), (0, .ref b)]) hx hb d_law_7 rfl hl (by decide) rfl (fun ls hl => ?_)
  refine w_new (ci := 9) (own := R_law) (T := F_Model) (N := 55) (ds := [2, 2, 0, 0, 0, 0, 0, 2, 2, 2, 2, 2, 0, 0, 0, 0, 0, 0, 2, 2, 2, 2, 2, 2, 0, 2, 0, 0, 0, 0, 0, 0, 0, 2, 2, 0, 2, 2, 0, 0, 0, 0, 0, 0, 0, 0, 2, 0, 2, 2, 2, 2, 2, 2, 0]) (base := s.heap.size + 50) (stt := stt) hx hb d_law_8 hown hK hts rfl (by decide) i_Model t_Model_ok cwl_Law_10 in_Model ini_Model (fun ad j hj => nu_Model ad j hj) (Nat.le_of_ble_eq_true rfl) (Nat.le_of_ble_eq_true rfl) hzx hS1 (fun H2 hP2 hz2 hk2 hS2 => ?_)
  have hPx2 : va_P D cl (lay (adB s.heap.size stt) dA SHx M0x) H2 := hPx.kept (fun k q hq => hk2 _ (by have := (hPx k q hq).lt; omega))
  refine lv_dup hx hb d_law_11 rfl ?_
  have hKC2 : ∀ U : State, U.heap = H2 → s.WarmedH U.vm → KC D (s.heap.size + 50) stt dA U H2 := fun U hU hW => by
    obtain ⟨a1, a2, a3, a4, a5, a6⟩ := KC.next hKC hS2 hW
    exact ⟨a1, a2, a3, a4, a5, a6.shift (fun q h => by have h : s.heap.size + 50 ≤ q := h; show s.heap.size ≤ q; omega) (fun k hk => (adB_hi hk).trans (adB_hi hk).symm)⟩
  refine wr_callA (wv := none) (B := fun q => s.heap.size + 50 ≤ q) (rest := [.ref (s.heap.size + 50)]) (va_runI (As := []) (b := s.heap.size + 50) (Ts := tbl) ⟨hx, hb, hml, hown, hts⟩ (CC_Model fuel M9 hF9 l D (s.heap.size + 50) stt dA) (cwI 0 hts (good_cons cd_Model_init) rfl rfl rfl (hts _ ini_Model) (hts _ cI_Law_12) (hts _ im_Model_init) rfl dn_Model_init ⟨(Nat.le_of_ble_eq_true rfl), (Nat.le_of_ble_eq_true rfl)⟩) ⟨fun a U g mk q => ⟨q.1, q.2.1, q.2.2.1, q.2.2.2.blind⟩, fun U hU hW => ⟨rfl, by rw [hU]; exact hP2, by rw [hU]; exact hz2, by rw [hU]; exact hKC2 U hU hW⟩⟩ rfl rfl hl.1 rfl (lv_room (Nat.le_of_ble_eq_true rfl)) d_law_12 ⟨(Nat.le_of_ble_eq_true rfl), (Nat.le_of_ble_eq_true rfl)⟩) hS2 (fun q h => by have h : s.heap.size + 50 ≤ q := h; show s.heap.size ≤ q; omega) (fun t3 H3 locs3 ht3 hpost3 hk3 hS3 => ?_)
  obtain ⟨hPm, hDm⟩ := hpost3
  rw [ht3] at hPm
  have hPx3 : va_P D cl (lay (adB s.heap.size stt) dA SHx M0x) H3 := hPx2.kept (fun k q hq => by
    have hlt := (hPx2 k q hq).lt
    have hq2 : q.1 < s.heap.size + 50 := by have := (hPx k q hq).lt; omega
    exact hk3 _ hlt (fun h => by have h : s.heap.size + 50 ≤ q.1 := h; omega))
  have hDx : va_D (Ax s.heap.size) (lay (adB s.heap.size stt) dA SHx M0x) := lay_Dn (n := 50) rfl
  have hDm : va_D (Am s.heap.size) (lay (adB (s.heap.size + 50) stt) dA SHm M9) := (lay_Dn (n := 26) (base := s.heap.size + 50) rfl).weaken (fun _ _ _ h => ⟨h.1, by have := h.2; omega⟩)
  refine lv_astore_n (lv' := [(2, .ref (s.heap.size + 50)), (1, .ref s.heap.size), (0, .ref b)]) hx hb d_law_15 rfl hl (by decide) rfl (fun ls hl => ?_)
  refine lv_iconst (v := 0) hx hb d_law_16 (by decide) ?_
  refine lv_istore_n (lv' := [(3, .int 0), (2, .ref (s.heap.size + 50)), (1, .ref s.heap.size), (0, .ref b)]) hx hb d_law_17 rfl hl (by decide) rfl (fun ls hl => ?_)
  have hl : lv_has ls 4 ([(0, Value.ref 301), (1, .ref 0), (2, .ref 300), (3, .int (nI (5 * 0)))].map (rvp (adL s.heap.size b))) := lv_sub hl [3, 2, 1, 0] rfl
  exact law_loop hL (L + 1) 0 (by omega) (by omega) M0x M9 hR0 p l e s m #[Value.ref b] below meth c D stt dA b ⟨hx, hb, hr, hml, hown, hts, hlocks, rfl, hX, hbl, hC⟩ H3 locs3 ls ⟨hPx3, hDx⟩ ⟨hPm, hDm⟩ hS3 hl
