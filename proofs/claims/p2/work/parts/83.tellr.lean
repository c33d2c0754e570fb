/-! THE TEXT: join, knows, in the class -/
def joA (tp : List Nat) (s : Tk) : Tk := tkN tp 0 15 s
def joB (tp : List Nat) (s : Tk) : Tk := tkN tp 0 15 (joA tp s)
def joC (tp : List Nat) (s : Tk) : Tk := tkN tp 0 15 (rfs (decide (vaN 0 (joB tp s) = vaN 0 (joA tp s))) 4 (joB tp s))
def joS (tp : List Nat) (s : Tk) : Tk := tkS tp (rfs (decide (vaN 0 (joC tp s) = vaN 0 (joA tp s) ∨ vaN 0 (joC tp s) = vaN 0 (joB tp s))) 4 (joC tp s))
def joD (tp : List Nat) (s : Tk) (D : Dr) : Dr := ((D.R.1, D.R.2.1, D.R.2.2.1 ++ [(vaN 0 (joA tp s), vaN 0 (joB tp s), vaN 0 (joC tp s))], D.R.2.2.2), D.2)
theorem joins_snoc {c : Nat} {M M' : Mem} {js : List Jn} {x y z : Nat} (h : ∀ j q, js[j]? = some q → M.1 c (3 * j) = nI q.1 ∧ M.1 c (3 * j + 1) = nI q.2.1 ∧ M.1 c (3 * j + 2) = nI q.2.2) (he : ∀ k, k < 3 * js.length → M'.1 c k = M.1 c k) (v0 : M'.1 c (3 * js.length) = nI x) (v1 : M'.1 c (3 * js.length + 1) = nI y) (v2 : M'.1 c (3 * js.length + 2) = nI z) : ∀ j q, (js ++ [(x, y, z)])[j]? = some q → M'.1 c (3 * j) = nI q.1 ∧ M'.1 c (3 * j + 1) = nI q.2.1 ∧ M'.1 c (3 * j + 2) = nI q.2.2 := fun j q hq => by
  have hl := (List.getElem?_eq_some_iff.mp hq).1
  rw [List.length_append, List.length_singleton] at hl
  by_cases e : j < js.length
  · rw [List.getElem?_append_left (by omega)] at hq
    rw [he _ (by omega), he _ (by omega), he _ (by omega)]
    exact h j q hq
  · have ej : j = js.length := by omega
    subst ej
    rw [List.getElem?_append_right (by omega), Nat.sub_self] at hq
    have hq : q = (x, y, z) := (Option.some.inj hq).symm
    rw [hq]
    exact ⟨v0, v1, v2⟩
theorem x_join (n : Nat) (hn : 400 ≤ n) {M : Mem} {tp : List Nat} {s : Tk} {D : Dr} (h : XS M tp s D) (hj : D.R.2.2.1.length < 4) : ∃ M', X_Teller_tellJoin n M = some ((), M') ∧ XS M' tp (joS tp s) (joD tp s D) ∧ Fr xd M M' := by
  obtain ⟨M2, a1, a2, a3⟩ := h.num n hn 0 15 (by decide) (by decide)
  obtain ⟨M4, b1, b2, b3⟩ := a2.num n hn 0 15 (by decide) (by decide)
  have va : vaN 0 (joA tp s) ≤ 15 := (vaN_le (tp := tp) (s := s) (show 0 ≤ 15 by decide)).2
  have vb : vaN 0 (joB tp s) ≤ 15 := (vaN_le (tp := tp) (s := joA tp s) (show 0 ≤ 15 by decide)).2
  have vc : vaN 0 (joC tp s) ≤ 15 := (vaN_le (tp := tp) (s := rfs (decide (vaN 0 (joB tp s) = vaN 0 (joA tp s))) 4 (joB tp s)) (show 0 ≤ 15 by decide)).2
  have a1 : X_Teller_takeNumber n 0 15 M = some (nI (vaN 0 (joA tp s)), M2) := a1
  have b1 : X_Teller_takeNumber n 0 15 M2 = some (nI (vaN 0 (joB tp s)), M4) := b1
  have b2 : XS M4 tp (joB tp s) D := b2
  have f4 := (xt_xd a3).trans (xt_xd b3)
  have h43 := h.2.2.2.1.2.2.1
  have k66 : ∀ (N : Mem) (s2 : Tk), XS N tp s2 D → Fr xd M N → tkS tp s2 = joS tp s → ∃ M', (bd (X_Teller_takeSign n N) fun _ M10 => nm ((3 : Int32) * (M10.1 4 3)) fun x11 => gd x11 12 (gd (x11 + 1) 12 (gd (x11 + 2) 12 (nm (si (si (si M10 5 (x11.toNatClampNeg) (nI (vaN 0 (joA tp s)))) 5 ((x11 + 1).toNatClampNeg) (nI (vaN 0 (joB tp s)))) 5 ((x11 + 2).toNatClampNeg) (nI (vaN 0 (joC tp s)))) fun N12 => some ((), si N12 4 3 ((N12.1 4 3) + 1)))))) = some ((), M') ∧ XS M' tp (joS tp s) (joD tp s D) ∧ Fr xd M M' := by
    intro N s2 g1 g2 g3
    obtain ⟨M10, c1, c2, c3⟩ := g1.sign n hn
    rw [g3] at c2
    have e43 := c2.2.2.2.1.2.2.1
    rw [c1, bd_ret, nm_eq, e43, show (3 : Int32) = nI 3 from rfl, pk_mul, nI_1, show (2 : Int32) = nI 2 from rfl, nI_add]
    generalize hL : D.R.2.2.1.length = L at hj e43
    rw [gd_in (vp_in_nI (n := 3 * L) (by omega) (by decide)), gd_in (vp_in_nI (n := 3 * L + 1) (by omega) (by decide)), gd_in (vp_in_nI (n := 3 * L + 2) (by omega) (by decide)), nI_clamp (show 3 * L < 2 ^ 31 by omega), nI_clamp (show 3 * L + 1 < 2 ^ 31 by omega), nI_clamp (show 3 * L + 2 < 2 ^ 31 by omega), nm_eq, si_ne (Or.inl (by decide)), si_ne (Or.inl (by decide)), si_ne (Or.inl (by decide)), e43, nI_1]
    generalize hN : si (si (si M10 5 (3 * L) (nI (vaN 0 (joA tp s)))) 5 (3 * L + 1) (nI (vaN 0 (joB tp s)))) 5 (3 * L + 2) (nI (vaN 0 (joC tp s))) = N12
    have f12 : Fr (fun c k => c = 5 ∧ 3 * L ≤ k) M10 N12 := by rw [← hN]; exact ((Fr.si ⟨rfl, by omega⟩).trans (Fr.si ⟨rfl, by omega⟩)).trans (Fr.si ⟨rfl, by omega⟩)
    have f13 : Fr (fun c k => (c = 5 ∧ 3 * L ≤ k) ∨ (c = 4 ∧ k = 3)) M10 (si N12 4 3 (nI (L + 1))) := (f12.mono (fun c k q => Or.inl q)).trans (Fr.si (Or.inr ⟨rfl, rfl⟩))
    have x4 := c2.2.2.2.1
    have e9 : ∀ a k, ¬ ((a = 5 ∧ 3 * L ≤ k) ∨ (a = 4 ∧ k = 3)) → (si N12 4 3 (nI (L + 1))).1 a k = M10.1 a k := fun a k q => (f13 a k q).1
    have v0 : (si N12 4 3 (nI (L + 1))).1 5 (3 * L) = nI (vaN 0 (joA tp s)) := by rw [si_ne (Or.inl (by decide)), ← hN, si_ne (Or.inr (by omega)), si_ne (Or.inr (by omega)), si_at]
    have v1 : (si N12 4 3 (nI (L + 1))).1 5 (3 * L + 1) = nI (vaN 0 (joB tp s)) := by rw [si_ne (Or.inl (by decide)), ← hN, si_ne (Or.inr (by omega)), si_at]
    have v2 : (si N12 4 3 (nI (L + 1))).1 5 (3 * L + 2) = nI (vaN 0 (joC tp s)) := by rw [si_ne (Or.inl (by decide)), ← hN, si_at]
    refine ⟨_, rfl, c2.wr f13 (fun a k q => by omega) ⟨⟨by rw [e9 _ _ (by omega)]; exact x4.1, by rw [e9 _ _ (by omega)]; exact x4.2.1, ?_, by rw [e9 _ _ (by omega)]; exact x4.2.2.2.1, by rw [e9 _ _ (by omega)]; exact x4.2.2.2.2.1, joins_snoc x4.2.2.2.2.2.1 (fun k hk => e9 5 k (by omega)) (by rw [hL]; exact v0) (by rw [hL]; exact v1) (by rw [hL]; exact v2), fun i h hi => by rw [e9 _ _ (by omega)]; exact x4.2.2.2.2.2.2.1 i h hi, fun i h hi => by rw [e9 _ _ (by omega)]; exact x4.2.2.2.2.2.2.2 i h hi⟩, c2.2.2.2.2.1.fr f13 (fun k q => by omega), c2.2.2.2.2.2.fr f13 (fun k q => by omega)⟩, (g2.trans (xt_xd c3)).trans (f13.mono (fun a k q => by unfold xd; omega))⟩
    · rw [si_at]
      show nI (L + 1) = nI (D.R.2.2.1 ++ [(vaN 0 (joA tp s), vaN 0 (joB tp s), vaN 0 (joC tp s))]).length
      rw [List.length_append, hL]; rfl
  have k43 : ∀ (N : Mem) (s2 : Tk), XS N tp s2 D → Fr xd M N → s2 = rfs (decide (vaN 0 (joB tp s) = vaN 0 (joA tp s))) 4 (joB tp s) → ∃ M', (bd (X_Teller_takeNumber n 0 15 N) fun r6 M7 => nm (fun (M8 : Mem) => (bd (X_Teller_takeSign n M8) fun _ M10 => nm ((3 : Int32) * (M10.1 4 3)) fun x11 => gd x11 12 (gd (x11 + 1) 12 (gd (x11 + 2) 12 (nm (si (si (si M10 5 (x11.toNatClampNeg) (nI (vaN 0 (joA tp s)))) 5 ((x11 + 1).toNatClampNeg) (nI (vaN 0 (joB tp s)))) 5 ((x11 + 2).toNatClampNeg) r6) fun N12 => some ((), si N12 4 3 ((N12.1 4 3) + 1))))) : Option (Unit × Mem))) fun k66 => nm (bd (X_Teller_refuse n 4 M7) fun _ M14 => k66 M14 : Option (Unit × Mem)) fun k61 => (if r6 = nI (vaN 0 (joA tp s)) then k61 else (if r6 = nI (vaN 0 (joB tp s)) then k61 else k66 M7))) = some ((), M') ∧ XS M' tp (joS tp s) (joD tp s D) ∧ Fr xd M M' := by
    intro N s2 g1 g2 g3
    obtain ⟨M7, c1, c2, c3⟩ := g1.num n hn 0 15 (by decide) (by decide)
    have es : tkN tp 0 15 s2 = joC tp s := by rw [g3]; rfl
    rw [es] at c1 c2
    rw [show X_Teller_takeNumber n 0 15 N = _ from c1, bd_ret, nm_eq, nm_eq]
    have f7 := g2.trans (xt_xd c3)
    have bad : vaN 0 (joC tp s) = vaN 0 (joA tp s) ∨ vaN 0 (joC tp s) = vaN 0 (joB tp s) → ∃ M', (bd (X_Teller_refuse n 4 M7) fun _ M14 => (bd (X_Teller_takeSign n M14) fun _ M10 => nm ((3 : Int32) * (M10.1 4 3)) fun x11 => gd x11 12 (gd (x11 + 1) 12 (gd (x11 + 2) 12 (nm (si (si (si M10 5 (x11.toNatClampNeg) (nI (vaN 0 (joA tp s)))) 5 ((x11 + 1).toNatClampNeg) (nI (vaN 0 (joB tp s)))) 5 ((x11 + 2).toNatClampNeg) (nI (vaN 0 (joC tp s)))) fun N12 => some ((), si N12 4 3 ((N12.1 4 3) + 1))))))) = some ((), M') ∧ XS M' tp (joS tp s) (joD tp s D) ∧ Fr xd M M' := fun q => by
      obtain ⟨M14, d1, d2, d3⟩ := c2.rf n 4 (by decide)
      rw [show X_Teller_refuse n 4 M7 = _ from d1, bd_ret]
      exact k66 M14 _ d2 (f7.trans (xt_xd d3)) (by unfold joS; rw [decide_eq_true q])
    by_cases e1 : vaN 0 (joC tp s) = vaN 0 (joA tp s)
    · rw [if_pos (by rw [e1])]
      exact bad (Or.inl e1)
    · rw [if_neg (fun q => e1 ((nI_eq (by omega) (by omega)).mp q))]
      by_cases e2 : vaN 0 (joC tp s) = vaN 0 (joB tp s)
      · rw [if_pos (by rw [e2])]
        exact bad (Or.inr e2)
      · rw [if_neg (fun q => e2 ((nI_eq (by omega) (by omega)).mp q))]
        exact k66 M7 _ c2 f7 (by unfold joS; rw [decide_eq_false (fun q => q.elim e1 e2), rfs_f])
  unfold X_Teller_tellJoin
  rw [h43, if_pos (show nI D.R.2.2.1.length < 4 from nI_lt (b := 4) hj (by decide)), a1, bd_ret, b1, bd_ret, nm_eq]
  by_cases e : vaN 0 (joB tp s) = vaN 0 (joA tp s)
  · obtain ⟨M14, c1, c2, c3⟩ := b2.rf n 4 (by decide)
    rw [if_pos (by rw [e]), show X_Teller_refuse n 4 M4 = _ from c1, bd_ret]
    exact k43 M14 _ c2 (f4.trans (xt_xd c3)) (by rw [decide_eq_true e])
  · rw [if_neg (fun q => e ((nI_eq (by omega) (by omega)).mp q))]
    exact k43 M4 _ b2 f4 (by rw [decide_eq_false e, rfs_f])
-- knows
def thL (l : List Nat) (t : Nat) : List Nat := if t ∈ l then l else if l.length < 9 then l ++ [t] else l
def thS (l : List Nat) (t : Nat) (s : Tk) : Tk := rfs (decide (t ∈ l)) 4 (rfs (decide (t ∉ l ∧ 9 ≤ l.length)) 5 s)
theorem thL_ok {l : List Nat} {t : Nat} (h : Ro l) (h9 : l.length ≤ 9) (ht : t < 16) : Ro (thL l t) ∧ (thL l t).length ≤ 9 := by
  unfold thL
  split
  · exact ⟨h, h9⟩
  · rename_i e
    split
    · have := h.addT ht
      unfold addT at this
      rw [if_neg e] at this
      refine ⟨this, ?_⟩
      rw [List.length_append, List.length_singleton]
      omega
    · exact ⟨h, h9⟩
theorem XS.st (M : Mem) {tp : List Nat} {s : Tk} {D : Dr} (h : XS M tp s D) (l : List Nat) : XS (stR M 10 l) tp s D ∧ Fr xd M (stR M 10 l) := by
  have f : Fr (fun c _ => c = 10) M (stR M 10 l) := fun a k ha => by
    have := stR_off (M := M) (l := l) (show a ≠ 10 from ha)
    rw [this.1, this.2]
    exact ⟨rfl, rfl⟩
  exact ⟨h.wr f (fun c k q => by omega) ⟨h.2.2.2.1.fr f (fun c k q => by omega), h.2.2.2.2.1.fr f (fun k q => by omega), h.2.2.2.2.2.fr f (fun k q => by omega)⟩, f.mono (fun c k q => by unfold xd; omega)⟩
theorem x_thing (n : Nat) {M : Mem} {tp : List Nat} {s : Tk} {D : Dr} (h : XS M tp s D) {l : List Nat} {t : Nat} (hM : RowAt M 10 l) (hr : Ro l) (h9 : l.length ≤ 9) (ht : t < 16) : ∃ M', X_Teller_tellThing n (nI t) M = some ((), M') ∧ XS M' tp (thS l t s) D ∧ RowAt M' 10 (thL l t) ∧ Fr xd M M' := by
  have hk := knN_lt hr.2
  have rowx : ∀ M', Fr xt M M' → RowAt M' 10 l := fun M' f => ⟨by rw [(f 10 0 (fun q => by unfold xt at q; omega)).2]; exact hM.1, by rw [(f 10 1 (fun q => by unfold xt at q; omega)).1]; exact hM.2⟩
  unfold X_Teller_tellThing thS thL
  rw [hM.2, b_iu (by omega) (by omega), knN_bit]
  by_cases e : t ∈ l
  · rw [decide_eq_true e, if_neg (show ¬ nI (if true = true then 1 else 0) = 0 by decide), if_pos e, decide_eq_false (fun q => q.1 e)]
    obtain ⟨M', b1, b2, b3⟩ := h.rf n 4 (by decide)
    rw [show X_Teller_refuse n 4 M = _ from b1, bd_ret]
    exact ⟨M', rfl, b2, rowx M' b3, xt_xd b3⟩
  · rw [decide_eq_false e, if_pos (show nI (if false = true then 1 else 0) = 0 from rfl), bitCount_eq n hk, pop_knN hr, bd_ret, if_neg e]
    by_cases e9 : l.length < 9
    · rw [if_pos (show nI l.length < 9 from nI_lt (b := 9) e9 (by decide)), row_add n hM hr ht, bd_ret, if_pos e9, decide_eq_false (fun q => by omega)]
      have ea : addT l t = l ++ [t] := if_neg e
      rw [ea]
      obtain ⟨g1, g2⟩ := h.st M (l ++ [t])
      exact ⟨_, rfl, g1, stR_at _ _ _, g2⟩
    · rw [if_neg (show ¬ nI l.length < 9 from Int32.not_lt.mpr (nI_le (a := 9) (by omega) (by omega))), if_neg e9, decide_eq_true ⟨e, by omega⟩]
      obtain ⟨M', b1, b2, b3⟩ := h.rf n 5 (by decide)
      rw [show X_Teller_refuse n 5 M = _ from b1, bd_ret]
      exact ⟨M', rfl, b2, rowx M' b3, xt_xd b3⟩
