/-! new long[n][k]: the outer array and its rows -/
theorem layC_apps {ad : Nat → Nat} {dA : Nat → ClassId} {sh ws : Shp} {M : Mem} : layC ad dA (sh ++ ws) M = layC ad dA sh M ++ ws.mapIdx (fun i q => (ad (sh.length + i), cellC ad dA M (sh.length + i) q)) := by
  simp [layC, List.mapIdx_append, Nat.add_comm]
theorem mna_outer (c : ClassId) (N h0 : Nat) : ∀ i : Nat, Jvm.Free.Multi.outerC c N h0 i = arrV c N (fun j => if j < i then .ref (h0 + 1 + j) else .null)
  | 0 => by
    show ({ cls := c, slots := Array.replicate N .null, vm := .none } : Cell) = _
    rw [arrV_new]
    refine congrArg (arrV c N) (funext fun j => ?_)
    simp
  | i + 1 => by
    show (Jvm.Free.Multi.outerC c N h0 i).setSlot i (.ref (h0 + 1 + i)) = _
    rw [mna_outer c N h0 i, arrV_store]
    refine congrArg (arrV c N) (funext fun j => ?_)
    by_cases e : j = i
    · subst e
      simp [updV]
    · by_cases h : j < i
      · simp [updV, e, h, Nat.lt_succ_of_lt h]
      · simp [updV, e, h, show ¬ j < i + 1 by omega]
theorem c_mna {mt : Mc} {pc : Nat} {lv : List (Nat × Value)} {st : List Value} {sh : Shp} {M : Mem} {P9 : PostT} {k n mc ms : Nat} {i j : Int32} {idx : Nat} (hd : decode mt.2.1 pc = .ok (.multianewarray idx 2, 4)) (hw : Cond.classLink mt.1 idx "[[J" ∈ tbl) (hwl : Cond.arrayClass .long ∈ tbl) (hij : i = 7 ∧ j = 6) (hk : k + 8 ≤ mc) (hn : n + 49 ≤ ms) (h2 : sh.length + 8 ≤ 200) (hM : ∀ r, r < 7 → M.2 (sh.length + 1 + r) = fun _ => 0) {a9 : Nat} {sh8 : Shp} (ha9 : sh.length = a9) (hs8 : sh ++ ((106, [a9 + 2, a9 + 3, a9 + 4, a9 + 5, a9 + 6, a9 + 7, a9 + 8]) :: List.replicate 7 (103, [6])) = sh8) (K : JC mt (pc + 4) lv (.ref a9 :: st) sh8 M (k + 8) (n + 49) P9 mc ms) : JC mt pc lv (.int j :: .int i :: st) sh M k n P9 mc ms := by
  subst ha9
  subst hs8
  obtain ⟨rfl, rfl⟩ := hij
  intro p l e s m args below meth c D base stt dA hp H locs ls hP hz hS hbs hl
  obtain ⟨hx, hb, hr, hml, hown, hts, hlk, hin, hK, hNi, hOM, hOS, hOL, hCx⟩ := id hp
  intro T hT Xs
  have e7 : (7 : Int32).toNatClampNeg = 7 := by decide
  have e6 : (6 : Int32).toNatClampNeg = 6 := by decide
  obtain ⟨vm₁, cA, comp, -, fA, fC, -, -, X', step⟩ := Xs.multianewarray2F (ty := .long) hx hown (hts _ hw) hOL (hts _ hwl) (g := F0 m pc ls ((Value.int 6 :: Value.int 7 :: st).map (rv (adB base stt)))) rfl (by rw [hb]; exact hd) (n := 7) (k := 6) rfl (by decide) (by decide) (by decide) (by decide) (by decide) rfl rfl (by rw [e7]; show k + 8 ≤ mc; exact hk) (by rw [e7, e6]; show n + 49 ≤ ms; exact hn)
  rw [e7, e6] at X' step
  generalize hF : Jvm.Free.Multi.fill (T.setVm vm₁) cA comp 7 6 (defaultValue .long) 7 = F at X' step
  have hTh : (T.setVm vm₁).heap = H := hT
  obtain ⟨f1, f2, -, -⟩ := Jvm.Free.Multi.fill_facts (T.setVm vm₁) cA comp 7 6 (defaultValue .long) 7
  rw [hF, hTh] at f1 f2
  have hold : ∀ x : Nat, x < H.size → F.heap[x]? = H[x]? := fun x hx => by
    have := Jvm.Free.Multi.fill_old (T.setVm vm₁) cA comp 7 6 (defaultValue .long) (a := x) (by rw [hTh]; exact hx) 7
    rw [hF, hTh] at this
    exact this
  have hrow : ∀ r : Nat, r < 7 → F.heap[H.size + 1 + r]? = some (arrV comp 6 (fun _ => .long 0)) := fun r hr => by
    have := Jvm.Free.Multi.fill_inner (T.setVm vm₁) cA comp 7 6 (defaultValue .long) 7 r hr
    rw [hF, hTh] at this
    rw [this, ← arrV_new]
    rfl
  rw [mna_outer] at f2
  have eA : cA = dA 6 := Option.some.inj (fA.symm.trans (hK.2 6 _ rfl).2)
  have eC : comp = dA 3 := Option.some.inj (fC.symm.trans (hK.2 3 _ rfl).2)
  subst eA
  subst eC
  have ea : ∀ r, r < 8 → adB base stt (sh.length + r) = H.size + r := fun r hr => by
    unfold adB
    rw [if_pos (by omega), hz, Nat.add_assoc]
  have hk9 : ∀ (k : Nat) (x : Nat × va_E), (layC (adB base stt) dA sh M)[k]? = some x → F.heap[x.1]? = H[x.1]? := fun k x hx => hold x.1 ((hP k x hx).lt)
  have hP1 : va_P D cl (layC (adB base stt) dA (sh ++ ((106, [sh.length + 2, sh.length + 3, sh.length + 4, sh.length + 5, sh.length + 6, sh.length + 7, sh.length + 8]) :: List.replicate 7 (103, [6]))) M) F.heap := by
    rw [layC_apps]
    refine (hP.kept hk9).app (fun q x hx => ?_)
    have hq : q < 8 := by
      have := (List.getElem?_eq_some_iff.mp hx).1
      rw [List.length_mapIdx] at this
      exact this
    rcases Nat.eq_zero_or_pos q with e0 | e0
    · subst e0
      cases hx
      show F.heap[adB base stt (sh.length + 0)]? = some (vp_cell (dA 6) (7, .inr (.inr (.inr (.inr (rfC (adB base stt) [sh.length + 2, sh.length + 3, sh.length + 4, sh.length + 5, sh.length + 6, sh.length + 7, sh.length + 8]))))))
      rw [ea 0 (by decide), vp_cell_q, Nat.add_zero, f2]
      congr 2
      funext r
      by_cases hr : r < 7
      · rw [if_pos hr]
        have er : rfC (adB base stt) [sh.length + 2, sh.length + 3, sh.length + 4, sh.length + 5, sh.length + 6, sh.length + 7, sh.length + 8] r = some (adB base stt (sh.length + (r + 1))) := by
          match r, hr with
          | 0, _ => rfl
          | 1, _ => rfl
          | 2, _ => rfl
          | 3, _ => rfl
          | 4, _ => rfl
          | 5, _ => rfl
          | 6, _ => rfl
        rw [er, ea (r + 1) (by omega)]
        show Value.ref (H.size + 1 + r) = Value.ref (H.size + (r + 1))
        rw [Nat.add_assoc, Nat.add_comm 1 r]
      · rw [if_neg hr]
        have er : rfC (adB base stt) [sh.length + 2, sh.length + 3, sh.length + 4, sh.length + 5, sh.length + 6, sh.length + 7, sh.length + 8] r = none := by
          unfold rfC
          rw [List.getElem?_eq_none (by show 7 ≤ r; omega)]
        rw [er]
        rfl
    · obtain ⟨r, rfl⟩ : ∃ r, q = r + 1 := ⟨q - 1, by omega⟩
      have hr : r < 7 := by omega
      have hx' : x = (adB base stt (sh.length + (r + 1)), cellC (adB base stt) dA M (sh.length + (r + 1)) (103, [6])) := by
        rw [List.getElem?_mapIdx, List.getElem?_cons_succ, List.getElem?_replicate, if_pos hr] at hx
        exact (Option.some.inj hx).symm
      subst hx'
      show F.heap[adB base stt (sh.length + (r + 1))]? = some (arrV (dA 3) 6 (fun j => .long (M.2 (sh.length + (r + 1)) j)))
      rw [ea (r + 1) (by omega), show H.size + (r + 1) = H.size + 1 + r by omega, hrow r hr, show sh.length + (r + 1) = sh.length + 1 + r by omega, hM r hr]
  have hk2 := K p l e s m args below meth c D base stt dA hp F.heap locs ls hP1 (by rw [f1, hz, List.length_append]; simp; omega) ⟨by rw [f1]; have := hS.1; omega, fun x h1 h2 => (hold x (Nat.lt_of_lt_of_le h1 hS.1)).trans (hS.2.1 x h1 h2), hS.2.2⟩ hbs hl
  obtain ⟨t, a1, b1⟩ := hk2 F rfl X'
  refine ⟨t, step t ?_, b1⟩
  have eT : T.heap.size = adB base stt sh.length := by
    rw [hT]
    have := ea 0 (by decide)
    rw [Nat.add_zero, Nat.add_zero] at this
    exact this.symm
  rw [eT]
  exact a1
