/-! CALLS: comes -/
theorem daysF_succ (R : Rl) (g : Nat) : ∀ (d : Nat) (W : Nat → List Nat), daysF R g (d + 1) W = dayF R g (daysF R g d W)
  | 0, _ => rfl
  | d + 1, W => by
    show daysF R g (d + 1) (dayF R g W) = dayF R g (daysF R g d (dayF R g W))
    exact daysF_succ R g d (dayF R g W)
def eqW (A B : Nat → List Nat) : Bool := (List.range 6).all (fun p => decide (A p = B p))
theorem eqW_iff {A B : Nat → List Nat} : eqW A B = true ↔ ∀ p, p < 6 → A p = B p := by
  unfold eqW
  rw [List.all_eq_true]
  constructor
  · intro h p hp
    have := h p (List.mem_range.mpr hp)
    simpa using this
  · intro h p hp
    have := h p (List.mem_range.mp hp)
    simpa using this
def sFd (q : Nat → Nat → List Nat) (d : Nat) : Nat → Nat → Option Nat
  | 0, _ => none
  | k + 1, i => if eqW (q i) (q d) then some i else sFd q d k (i + 1)
def comF (q : Nat → Nat → List Nat) (a : Int32) : Nat → Nat → Int32
  | 0, _ => -4
  | k + 1, d => match sFd q d d 0 with
    | some e => if a = 0 then nI e else nI d - nI e
    | none => comF q a k (d + 1)
theorem sFd_lt (q : Nat → Nat → List Nat) (d : Nat) : ∀ k i e, sFd q d k i = some e → e < i + k
  | 0, i, e, h => by cases h
  | k + 1, i, e, h => by
    unfold sFd at h
    split at h
    · cases h; omega
    · have := sFd_lt q d k (i + 1) e h
      omega
theorem i_6 {k : Nat} (h : k < 2 ^ 31) : nI k = 6 ↔ k = 6 := nI_eq (b := 6) h (by decide)
-- the class
theorem x_same_in {M : Mem} {A B : Nat → List Nat} {a1 : Int32} {e : Nat} (he : e < 201) (hA : OkW A) (hB : OkW B) (h1 : ∀ p, p < 6 → M.2 38 (e * 6 + p) = enc (A p)) (h2 : rowsAt M 39 B) (kx : Int32 → Option (Int32 × Mem)) : ∃ v, v ≤ 6 ∧ (v = 6 ↔ eqW A B = true) ∧ X_Habit_sameDay_L9 fuel a1 (nI e) kx M fuel (nI 0) = kx (nI v) := by
  have key : ∀ (d i g : Nat), 6 - i = d → i ≤ 6 → d < g → (∀ p, p < i → A p = B p) → ∃ v, v ≤ 6 ∧ (v = 6 ↔ eqW A B = true) ∧ X_Habit_sameDay_L9 fuel a1 (nI e) kx M g (nI i) = kx (nI v) := by
    intro d
    induction d with
    | zero =>
      intro i g g1 g2 g3 g4
      obtain ⟨g, rfl⟩ : ∃ e, g = e + 1 := ⟨g - 1, by omega⟩
      have e6 : i = 6 := by omega
      subst e6
      refine ⟨6, Nat.le_refl _, ⟨fun _ => eqW_iff.mpr g4, fun _ => rfl⟩, ?_⟩
      show (if (6 : Int32) ≤ nI 6 then kx (nI 6) else _) = _
      rw [if_pos (by decide)]
    | succ d ih =>
      intro i g g1 g2 g3 g4
      obtain ⟨g, rfl⟩ : ∃ e, g = e + 1 := ⟨g - 1, by omega⟩
      have hi : i < 6 := by omega
      have un : X_Habit_sameDay_L9 fuel a1 (nI e) kx M (g + 1) (nI i) = if A i = B i then X_Habit_sameDay_L9 fuel a1 (nI e) kx M g (nI (i + 1)) else kx (nI i) := by
        show (if (6 : Int32) ≤ nI i then _ else gd ((nI e * 6) + nI i) 1206 (gd (nI i) 6 (if (lg_cmp (M.2 38 ((nI e * 6) + nI i).toNatClampNeg) (M.2 39 (nI i).toNatClampNeg)) = 0 then X_Habit_sameDay_L9 fuel a1 (nI e) kx M g (nI i + 1) else kx (nI i)))) = _
        rw [if_neg (show ¬ (6 : Int32) ≤ nI i from nI_ge (b := 6) hi (by decide)), show (6 : Int32) = nI 6 from rfl, pk_mul, nI_add, gd_in (vp_in_nI (by omega) (by decide)), gd_in (vp_in_nI (by omega) (by decide)), nI_clamp (by omega), nI_clamp (by omega), h1 i hi, h2 i hi, nI_1]
        by_cases e2 : A i = B i
        · rw [if_pos e2, if_pos (by rw [l_cmp0, e2])]
        · rw [if_neg e2, if_neg (by rw [l_cmp0, enc_inj (hA i).1 (hB i).1 (hA i).2 (hB i).2]; exact e2)]
      rw [un]
      by_cases e2 : A i = B i
      · rw [if_pos e2]
        exact ih (i + 1) g (by omega) (by omega) (by omega) (fun p hp => by
          by_cases e3 : p = i
          · rw [e3]; exact e2
          · exact g4 p (by omega))
      · rw [if_neg e2]
        exact ⟨i, by omega, ⟨fun h => by omega, fun h => absurd (eqW_iff.mp h i hi) e2⟩, rfl⟩
  exact key 6 0 fuel rfl (by decide) (by decide) (fun p hp => by omega)
theorem x_same {M : Mem} {q : Nat → Nat → List Nat} {d : Nat} (hd : d < 202) (hq : ∀ e, OkW (q e)) (h1 : ∀ e, e < d → e < 201 → ∀ p, p < 6 → M.2 38 (e * 6 + p) = enc (q e p)) (h2 : rowsAt M 39 (q d)) : X_Habit_sameDay fuel (nI d) M = some (match sFd q d d 0 with | some e => nI e | none => -1, M) := by
  have key : ∀ (k i g : Nat), d - i = k → i ≤ d → k < g → X_Habit_sameDay_L2 fuel (nI d) M g (nI i) = some (match sFd q d k i with | some e => nI e | none => -1, M) := by
    intro k
    induction k with
    | zero =>
      intro i g g1 g2 g3
      obtain ⟨g, rfl⟩ : ∃ e, g = e + 1 := ⟨g - 1, by omega⟩
      show (if nI d ≤ nI i then _ else _) = _
      rw [if_pos (nI_le (by omega) (by omega))]
      rfl
    | succ k ih =>
      intro i g g1 g2 g3
      obtain ⟨g, rfl⟩ : ∃ e, g = e + 1 := ⟨g - 1, by omega⟩
      obtain ⟨v, v1, v2, v3⟩ := x_same_in (M := M) (A := q i) (B := q d) (a1 := nI d) (e := i) (by omega) (hq i) (hq d) (h1 i (by omega) (by omega)) h2 (fun y1 => (if y1 = 6 then some (nI i, M) else X_Habit_sameDay_L2 fuel (nI d) M g (nI i + 1)))
      show (if nI d ≤ nI i then _ else X_Habit_sameDay_L9 fuel (nI d) (nI i) (fun y1 => (if y1 = 6 then some (nI i, M) else X_Habit_sameDay_L2 fuel (nI d) M g (nI i + 1))) M fuel (nI 0)) = _
      rw [if_neg (nI_ge (by omega) (by omega)), v3]
      unfold sFd
      by_cases e : eqW (q i) (q d) = true
      · rw [if_pos e, v2.mpr e]
        show (if (nI 6 : Int32) = 6 then some (nI i, M) else _) = _
        rw [if_pos (show nI 6 = 6 from rfl)]
      · rw [if_neg e]
        show (if nI v = 6 then some (nI i, M) else X_Habit_sameDay_L2 fuel (nI d) M g (nI i + 1)) = _
        rw [if_neg (fun h => e (v2.mp ((i_6 (by omega)).mp h))), nI_1]
        exact ih (i + 1) g (by omega) (by omega) (by omega)
  exact key d 0 fuel rfl (Nat.zero_le _) (by have := fu; omega)
theorem x_comes_L {S : Ab} (hS : Ok S) (a : Int32) : ∀ (k d g : Nat) (N : Mem), 201 - d = k → d ≤ 201 → k < g → XA N S → (∀ e, e < d → e < 201 → ∀ p, p < 6 → N.2 38 (e * 6 + p) = enc (daysF S.R S.A.gl e S.A.W p)) → rowsAt N 39 (daysF S.R S.A.gl d S.A.W) → ∃ M', X_Habit_comesBack_L20 fuel a (fun y6 y7 M8 => (if a = 0 then some (y7, M8) else some ((y6 - y7), M8))) g (nI d) N = some (comF (fun e => daysF S.R S.A.gl e S.A.W) a k d, M') ∧ Off xS N M' := by
  have hg := hS.gl
  have ok : ∀ e, OkW (daysF S.R S.A.gl e S.A.W) := fun e => (daysF_ok hS.hR e hS.hA.1 hS.hA.2.1).1
  intro k
  induction k with
  | zero =>
    intro d g N g1 g2 g3 hN h1 h2
    obtain ⟨g, rfl⟩ : ∃ e, g = e + 1 := ⟨g - 1, by omega⟩
    have e : d = 201 := by omega
    subst e
    refine ⟨N, ?_, Off.rf⟩
    show (if (200 : Int32) < nI 201 then _ else _) = _
    rw [if_pos (by decide)]
    rfl
  | succ k ih =>
    intro d g N g1 g2 g3 hN h1 h2
    obtain ⟨g, rfl⟩ : ∃ e, g = e + 1 := ⟨g - 1, by omega⟩
    have lt200 : ¬ (200 : Int32) < nI d := Int32.not_lt.mpr (nI_le (b := 200) (by omega) (by decide))
    have un : X_Habit_comesBack_L20 fuel a (fun y6 y7 M8 => (if a = 0 then some (y7, M8) else some ((y6 - y7), M8))) (g + 1) (nI d) N = (if (match sFd (fun e => daysF S.R S.A.gl e S.A.W) d d 0 with | some e => nI e | none => -1 : Int32) < 0 then bd (X_Circle_liveDay fuel 39 (N.1 16 1) (cpL N 39 0 38 (d * 6) 6)) (fun _ M5 => X_Habit_comesBack_L20 fuel a (fun y6 y7 M8 => (if a = 0 then some (y7, M8) else some ((y6 - y7), M8))) g (nI (d + 1)) M5) else (if a = 0 then some ((match sFd (fun e => daysF S.R S.A.gl e S.A.W) d d 0 with | some e => nI e | none => -1 : Int32), N) else some (nI d - (match sFd (fun e => daysF S.R S.A.gl e S.A.W) d d 0 with | some e => nI e | none => -1 : Int32), N))) := by
      show (if (200 : Int32) < nI d then _ else bd (X_Habit_sameDay fuel (nI d) N) _) = _
      rw [if_neg lt200, x_same (q := fun e => daysF S.R S.A.gl e S.A.W) (by omega) ok h1 h2, bd_ret]
      unfold gc nm
      dsimp only
      rw [show (6 : Int32) = nI 6 from rfl, pk_mul, nI_clamp (by omega), nI_clamp (by omega), show (0 : Int32).toNatClampNeg = 0 from rfl, if_neg (c := _ ∨ _) (by
        rintro (h | h | h | h | h)
        · exact absurd h (by decide)
        · exact nI_pos (by omega) h
        · exact absurd h (by decide)
        · omega
        · omega), nI_1]
      rfl
    rw [un]
    unfold comF
    cases hs : sFd (fun e => daysF S.R S.A.gl e S.A.W) d d 0 with
    | some e =>
      have := sFd_lt _ _ _ _ _ hs
      refine ⟨N, ?_, Off.rf⟩
      show (if nI e < 0 then _ else if a = 0 then some (nI e, N) else some (nI d - nI e, N)) = some ((if a = 0 then nI e else nI d - nI e), N)
      rw [if_neg (nI_pos (by omega))]
      split <;> rfl
    | none =>
      show ∃ M', (if (-1 : Int32) < 0 then _ else _) = some (comF (fun e => daysF S.R S.A.gl e S.A.W) a k (d + 1), M') ∧ _
      rw [if_pos (by decide), hN.a.1]
      have c1 : Off [38] N (cpL N 39 0 38 (d * 6) 6) := Off.cpL (by simp)
      have hN1 := hN.off (xS_of c1 (by decide))
      have r1 : rowsAt (cpL N 39 0 38 (d * 6) 6) 39 (daysF S.R S.A.gl d S.A.W) := h2.off c1 (by decide)
      obtain ⟨M1, k1, k2, k3⟩ := circ_liveDay fuel (by decide) hS.hR (rows := 39) (by decide) (show S.A.gl < 2 ^ 31 by omega) hN1.c (ok d) r1
      have k4 : Off xS N M1 := (xS_of c1 (by decide)).trans (xS_of k2 (by decide))
      obtain ⟨M2, q1, q2⟩ := ih (d + 1) g M1 (by omega) (by omega) (by omega) (hN.off k4) (fun e he he2 p hp => by
        rw [(k2 38 (by decide)).2]
        show (if 38 = 38 ∧ d * 6 ≤ e * 6 + p ∧ e * 6 + p < d * 6 + 6 then N.2 39 (0 + (e * 6 + p - d * 6)) else N.2 38 (e * 6 + p)) = _
        by_cases e2 : e = d
        · rw [if_pos ⟨rfl, by omega, by omega⟩, e2, show 0 + (d * 6 + p - d * 6) = p by omega]
          exact h2 p hp
        · rw [if_neg (by omega)]
          exact h1 e (by omega) he2 p hp) (by rw [daysF_succ]; exact k3)
      rw [k1, bd_ret]
      exact ⟨M2, q1, k4.trans q2⟩
