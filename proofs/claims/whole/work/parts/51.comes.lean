/-! CALLS: comes -/
theorem daysF_succ (R : Rl) (g : Nat) : ∀ (d : Nat) (W : Nat → List Nat), daysF R g (d + 1) W = dayF R g (daysF R g d W)
  | 0, _ => rfl
  | d + 1, W => by
    show daysF R g (d + 1) (dayF R g W) = dayF R g (daysF R g d (dayF R g W))
    exact daysF_succ R g d (dayF R g W)
def eqW (A B : Nat → List Nat) : Bool := (List.range 6).all (fun p => decide (A p = B p))
theorem eqW_iff {A B : Nat → List Nat} : eqW A B = true ↔ ∀ p, p < 6 → A p = B p := by
  unfold eqW
  rw [List.all_eq_true]
  constructor
  · intro h p hp
    have := h p (List.mem_range.mpr hp)
    simpa using this
  · intro h p hp
    have := h p (List.mem_range.mp hp)
    simpa using this
def sFd (q : Nat → Nat → List Nat) (d : Nat) : Nat → Nat → Option Nat
  | 0, _ => none
  | k + 1, i => if eqW (q i) (q d) then some i else sFd q d k (i + 1)
def comF (q : Nat → Nat → List Nat) (a : Int32) : Nat → Nat → Int32
  | 0, _ => -4
  | k + 1, d => match sFd q d d 0 with
    | some e => if a = 0 then nI e else nI d - nI e
    | none => comF q a k (d + 1)
theorem sFd_lt (q : Nat → Nat → List Nat) (d : Nat) : ∀ k i e, sFd q d k i = some e → e < i + k
  | 0, i, e, h => by cases h
  | k + 1, i, e, h => by
    unfold sFd at h
    split at h
    · cases h; omega
    · have := sFd_lt q d k (i + 1) e h
      omega
-- the class
theorem x_same_in {M : Mem} {A B : Nat → List Nat} {a1 : Int32} {e : Nat} (he : e < 201) (hA : OkW A) (hB : OkW B) (h1 : ∀ p, p < 6 → M.2 38 (e * 6 + p) = enc (A p)) (h2 : rowsAt M 39 B) (kx : Int32 → Option (Int32 × Mem)) : ∃ v, v ≤ 6 ∧ (v = 6 ↔ eqW A B = true) ∧ X_Habit_sameDay_L9 fuel a1 (nI e) kx M fuel (nI 0) = kx (nI v) := by
  have key : ∀ (d i g : Nat), 6 - i = d → i ≤ 6 → d < g → (∀ p, p < i → A p = B p) → ∃ v, v ≤ 6 ∧ (v = 6 ↔ eqW A B = true) ∧ X_Habit_sameDay_L9 fuel a1 (nI e) kx M g (nI i) = kx (nI v) := by
    intro d
    induction d with
    | zero =>
      intro i g g1 g2 g3 g4
      obtain ⟨g, rfl⟩ : ∃ e, g = e + 1 := ⟨g - 1, by omega⟩
      have e6 : i = 6 := by omega
      subst e6
      refine ⟨6, Nat.le_refl _, ⟨fun _ => eqW_iff.mpr g4, fun _ => rfl⟩, ?_⟩
      show (if (6 : Int32) ≤ nI 6 then kx (nI 6) else _) = _
      rw [if_pos (by decide)]
    | succ d ih =>
      intro i g g1 g2 g3 g4
      obtain ⟨g, rfl⟩ : ∃ e, g = e + 1 := ⟨g - 1, by omega⟩
      have hi : i < 6 := by omega
      have un : X_Habit_sameDay_L9 fuel a1 (nI e) kx M (g + 1) (nI i) = if A i = B i then X_Habit_sameDay_L9 fuel a1 (nI e) kx M g (nI (i + 1)) else kx (nI i) := by
        show (if (6 : Int32) ≤ nI i then _ else gd ((nI e * 6) + nI i) 1206 (gd (nI i) 6 (if (lg_cmp (M.2 38 ((nI e * 6) + nI i).toNatClampNeg) (M.2 39 (nI i).toNatClampNeg)) = 0 then X_Habit_sameDay_L9 fuel a1 (nI e) kx M g (nI i + 1) else kx (nI i)))) = _
        rw [if_neg (show ¬ (6 : Int32) ≤ nI i from nI_ge (b := 6) hi (by decide)), show (6 : Int32) = nI 6 from rfl, pk_mul, nI_add, gd_in (vp_in_nI (by omega) (by decide)), gd_in (vp_in_nI (by omega) (by decide)), nI_clamp (by omega), nI_clamp (by omega), h1 i hi, h2 i hi, nI_1]
        by_cases e2 : A i = B i
        · rw [if_pos e2, if_pos (by rw [l_cmp0, e2])]
        · rw [if_neg e2, if_neg (by rw [l_cmp0, enc_inj (hA i).1 (hB i).1 (hA i).2 (hB i).2]; exact e2)]
      rw [un]
      by_cases e2 : A i = B i
      · rw [if_pos e2]
        exact ih (i + 1) g (by omega) (by omega) (by omega) (fun p hp => by
          by_cases e3 : p = i
          · rw [e3]; exact e2
          · exact g4 p (by omega))
      · rw [if_neg e2]
        exact ⟨i, by omega, ⟨fun h => by omega, fun h => absurd (eqW_iff.mp h i hi) e2⟩, rfl⟩
  exact key 6 0 fuel rfl (by decide) (by decide) (fun p hp => by omega)
theorem x_same {M : Mem} {q : Nat → Nat → List Nat} {d : Nat} (hd : d < 202) (hq : ∀ e, OkW (q e)) (h1 : ∀ e, e < d → e < 201 → ∀ p, p < 6 → M.2 38 (e * 6 + p) = enc (q e p)) (h2 : rowsAt M 39 (q d)) : X_Habit_sameDay fuel (nI d) M = some (match sFd q d d 0 with | some e => nI e | none => -1, M) := by
  have key : ∀ (k i g : Nat), d - i = k → i ≤ d → k < g → X_Habit_sameDay_L2 fuel (nI d) M g (nI i) = some (match sFd q d k i with | some e => nI e | none => -1, M) := by
    intro k
    induction k with
    | zero =>
      intro i g g1 g2 g3
      obtain ⟨g, rfl⟩ : ∃ e, g = e + 1 := ⟨g - 1, by omega⟩
      show (if nI d ≤ nI i then _ else _) = _
      rw [if_pos (nI_le (by omega) (by omega))]
      rfl
    | succ k ih =>
      intro i g g1 g2 g3
      obtain ⟨g, rfl⟩ : ∃ e, g = e + 1 := ⟨g - 1, by omega⟩
      obtain ⟨v, v1, v2, v3⟩ := x_same_in (M := M) (A := q i) (B := q d) (a1 := nI d) (e := i) (by omega) (hq i) (hq d) (h1 i (by omega) (by omega)) h2 (fun y1 => (if y1 = 6 then some (nI i, M) else X_Habit_sameDay_L2 fuel (nI d) M g (nI i + 1)))
      show (if nI d ≤ nI i then _ else X_Habit_sameDay_L9 fuel (nI d) (nI i) (fun y1 => (if y1 = 6 then some (nI i, M) else X_Habit_sameDay_L2 fuel (nI d) M g (nI i + 1))) M fuel (nI 0)) = _
      rw [if_neg (nI_ge (by omega) (by omega)), v3]
      unfold sFd
      by_cases e : eqW (q i) (q d) = true
      · rw [if_pos e, v2.mpr e]
        show (if (nI 6 : Int32) = 6 then some (nI i, M) else _) = _
        rw [if_pos rfl]
      · rw [if_neg e]
        show (if nI v = 6 then some (nI i, M) else X_Habit_sameDay_L2 fuel (nI d) M g (nI i + 1)) = _
        rw [if_neg (fun h => e (v2.mp ((nI_eq (b := 6) (by omega) (by decide)).mp h))), nI_1]
        exact ih (i + 1) g (by omega) (by omega) (by omega)
  exact key d 0 fuel rfl (Nat.zero_le _) (by have := fu; omega)
