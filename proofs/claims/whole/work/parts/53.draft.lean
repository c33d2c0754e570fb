/-! THE REFERENCE: its draft -/
def DM (M : Mem) (R : Rl) (W : Nat → List Nat) (g : Nat) : Prop := M.1 0 12 = nI R.1 ∧ M.1 0 13 = nI R.2.1 ∧ M.1 0 14 = nI R.2.2.1.length ∧ M.1 0 15 = nI R.2.2.2.1.length ∧ M.1 0 16 = nI R.2.2.2.2.length ∧
  (∀ j q, R.2.2.1[j]? = some q → M.1 8 (3 * j) = nI q.1 ∧ M.1 8 (3 * j + 1) = nI q.2.1 ∧ M.1 8 (3 * j + 2) = nI q.2.2) ∧ (∀ i h, R.2.2.2.1[i]? = some h → M.1 9 i = nI h) ∧ (∀ i h, R.2.2.2.2[i]? = some h → M.1 10 i = nI h) ∧
  LyM M 11 0 W ∧ ∀ p, p < 6 → M.1 12 p = nI (if g.testBit p then 1 else 0)
def kd (a k : Nat) : Prop := (2 ≤ a ∧ a ≤ 5) ∨ (a = 1 ∧ k < 78) ∨ (a = 0 ∧ 2 ≤ k ∧ k ≤ 6)
theorem m_kd42 (n : Nat) (hn : 100 ≤ n) (kx : Mem → Option (Unit × Mem)) (N : Mem) : X_Model_keepDraft_L42 n kx n (nI 0) N = kx (cpI N 8 0 3 0 12) := by
  have key : ∀ (d i f : Nat), 12 - i = d → i ≤ 12 → d < f → X_Model_keepDraft_L42 n kx f (nI i) (cpI N 8 0 3 0 i) = kx (cpI N 8 0 3 0 12) := by
    intro d
    induction d with
    | zero =>
      intro i f h1 h2 h3
      obtain ⟨f, rfl⟩ : ∃ g, f = g + 1 := ⟨f - 1, by omega⟩
      have e : i = 12 := by omega
      subst e
      show (if (12 : Int32) ≤ nI 12 then _ else _) = _
      rw [if_pos (by decide)]
    | succ d ih =>
      intro i f h1 h2 h3
      obtain ⟨f, rfl⟩ : ∃ g, f = g + 1 := ⟨f - 1, by omega⟩
      generalize hN : cpI N 8 0 3 0 i = P
      show (if (12 : Int32) ≤ nI i then _ else gd (nI i) 12 (gd (nI i) 12 (X_Model_keepDraft_L42 n kx f (nI i + 1) (si P 3 ((nI i).toNatClampNeg) (P.1 8 (nI i).toNatClampNeg))))) = _
      rw [if_neg (show ¬ (12 : Int32) ≤ nI i from nI_ge (b := 12) (by omega) (by decide)), gd_in (vp_in_nI (by omega) (by decide)), gd_in (vp_in_nI (by omega) (by decide)), nI_clamp (by omega), nI_1, ← hN]
      have := cp_step (M := N) (a := 8) (sp := 0) (b := 3) (dp := 0) (i := i) (Or.inl (by decide))
      rw [Nat.zero_add] at this
      rw [this]
      exact ih (i + 1) f (by omega) (by omega) (by omega)
  have := key 12 0 n rfl (by decide) (by omega)
  rw [cp_0] at this
  exact this
theorem m_kd68 (n : Nat) (hn : 100 ≤ n) (kx : Mem → Option (Unit × Mem)) (N : Mem) : X_Model_keepDraft_L68 n kx n (nI 0) N = kx (cpI N 9 0 4 0 16) := by
  have key : ∀ (d i f : Nat), 16 - i = d → i ≤ 16 → d < f → X_Model_keepDraft_L68 n kx f (nI i) (cpI N 9 0 4 0 i) = kx (cpI N 9 0 4 0 16) := by
    intro d
    induction d with
    | zero =>
      intro i f h1 h2 h3
      obtain ⟨f, rfl⟩ : ∃ g, f = g + 1 := ⟨f - 1, by omega⟩
      have e : i = 16 := by omega
      subst e
      show (if (16 : Int32) ≤ nI 16 then _ else _) = _
      rw [if_pos (by decide)]
    | succ d ih =>
      intro i f h1 h2 h3
      obtain ⟨f, rfl⟩ : ∃ g, f = g + 1 := ⟨f - 1, by omega⟩
      generalize hN : cpI N 9 0 4 0 i = P
      show (if (16 : Int32) ≤ nI i then _ else gd (nI i) 16 (gd (nI i) 16 (X_Model_keepDraft_L68 n kx f (nI i + 1) (si P 4 ((nI i).toNatClampNeg) (P.1 9 (nI i).toNatClampNeg))))) = _
      rw [if_neg (show ¬ (16 : Int32) ≤ nI i from nI_ge (b := 16) (by omega) (by decide)), gd_in (vp_in_nI (by omega) (by decide)), gd_in (vp_in_nI (by omega) (by decide)), nI_clamp (by omega), nI_1, ← hN]
      have := cp_step (M := N) (a := 9) (sp := 0) (b := 4) (dp := 0) (i := i) (Or.inl (by decide))
      rw [Nat.zero_add] at this
      rw [this]
      exact ih (i + 1) f (by omega) (by omega) (by omega)
  have := key 16 0 n rfl (by decide) (by omega)
  rw [cp_0] at this
  exact this
theorem m_kd94 (n : Nat) (hn : 100 ≤ n) (kx : Mem → Option (Unit × Mem)) (N : Mem) : X_Model_keepDraft_L94 n kx n (nI 0) N = kx (cpI N 10 0 5 0 8) := by
  have key : ∀ (d i f : Nat), 8 - i = d → i ≤ 8 → d < f → X_Model_keepDraft_L94 n kx f (nI i) (cpI N 10 0 5 0 i) = kx (cpI N 10 0 5 0 8) := by
    intro d
    induction d with
    | zero =>
      intro i f h1 h2 h3
      obtain ⟨f, rfl⟩ : ∃ g, f = g + 1 := ⟨f - 1, by omega⟩
      have e : i = 8 := by omega
      subst e
      show (if (8 : Int32) ≤ nI 8 then _ else _) = _
      rw [if_pos (by decide)]
    | succ d ih =>
      intro i f h1 h2 h3
      obtain ⟨f, rfl⟩ : ∃ g, f = g + 1 := ⟨f - 1, by omega⟩
      generalize hN : cpI N 10 0 5 0 i = P
      show (if (8 : Int32) ≤ nI i then _ else gd (nI i) 8 (gd (nI i) 8 (X_Model_keepDraft_L94 n kx f (nI i + 1) (si P 5 ((nI i).toNatClampNeg) (P.1 10 (nI i).toNatClampNeg))))) = _
      rw [if_neg (show ¬ (8 : Int32) ≤ nI i from nI_ge (b := 8) (by omega) (by decide)), gd_in (vp_in_nI (by omega) (by decide)), gd_in (vp_in_nI (by omega) (by decide)), nI_clamp (by omega), nI_1, ← hN]
      have := cp_step (M := N) (a := 10) (sp := 0) (b := 5) (dp := 0) (i := i) (Or.inl (by decide))
      rw [Nat.zero_add] at this
      rw [this]
      exact ih (i + 1) f (by omega) (by omega) (by omega)
  have := key 8 0 n rfl (by decide) (by omega)
  rw [cp_0] at this
  exact this
theorem m_kd120 (n : Nat) (hn : 100 ≤ n) (kx : Mem → Option (Unit × Mem)) {N : Mem} {g : Nat} (hG : ∀ p, p < 6 → N.1 12 p = nI (if g.testBit p then 1 else 0)) : ∃ M', X_Model_keepDraft_L120 n kx n (nI 0) N = kx M' ∧ Fr (rg 1 0 78) N M' ∧ (∀ j, j < 60 → M'.1 1 j = N.1 11 j) ∧ GlM M' 60 g ∧ GlM M' 66 0 := by
  have key : ∀ (d i f : Nat) (Q : Mem), 78 - i = d → i ≤ 78 → d < f → Fr (rg 1 0 78) N Q → (∀ j, j < 60 → j < i → Q.1 1 j = N.1 11 j) → (∀ p, p < 6 → 60 + p < i → Q.1 1 (60 + p) = nI (if g.testBit p then 1 else 0)) → (∀ p, p < 6 → 66 + p < i → Q.1 1 (66 + p) = 0) → ∃ M', X_Model_keepDraft_L120 n kx f (nI i) Q = kx M' ∧ Fr (rg 1 0 78) N M' ∧ (∀ j, j < 60 → M'.1 1 j = N.1 11 j) ∧ GlM M' 60 g ∧ GlM M' 66 0 := by
    intro d
    induction d with
    | zero =>
      intro i f Q h1 h2 h3 h4 h5 h6 h7
      obtain ⟨f, rfl⟩ : ∃ g, f = g + 1 := ⟨f - 1, by omega⟩
      have e : i = 78 := by omega
      subst e
      refine ⟨Q, ?_, h4, fun j hj => h5 j hj (by omega), fun p hp => h6 p hp (by omega), fun p hp => ?_⟩
      · show (if (78 : Int32) ≤ nI 78 then _ else _) = _
        rw [if_pos (by decide)]
      · rw [h7 p hp (by omega)]
        simp
        rfl
    | succ d ih =>
      intro i f Q h1 h2 h3 h4 h5 h6 h7
      obtain ⟨f, rfl⟩ : ∃ g, f = g + 1 := ⟨f - 1, by omega⟩
      have hi : i < 78 := by omega
      have step : ∀ v : Int32, (i < 60 → v = N.1 11 i) → (∀ p, p < 6 → i = 60 + p → v = nI (if g.testBit p then 1 else 0)) → (66 ≤ i → v = 0) → ∃ M', X_Model_keepDraft_L120 n kx f (nI i + 1) (si Q 1 i v) = kx M' ∧ Fr (rg 1 0 78) N M' ∧ (∀ j, j < 60 → M'.1 1 j = N.1 11 j) ∧ GlM M' 60 g ∧ GlM M' 66 0 := by
        intro v v1 v2 v3
        rw [nI_1]
        refine ih (i + 1) f (si Q 1 i v) (by omega) (by omega) (by omega) (h4.trans (Fr.si ⟨rfl, by omega, by omega⟩)) (fun j hj hj2 => ?_) (fun p hp hp2 => ?_) (fun p hp hp2 => ?_)
        · by_cases e : j = i
          · rw [e, si_at]; exact v1 (by omega)
          · rw [si_ne (Or.inr e)]; exact h5 j hj (by omega)
        · by_cases e : 60 + p = i
          · rw [e, si_at]; exact v2 p hp e.symm
          · rw [si_ne (Or.inr e)]; exact h6 p hp (by omega)
        · by_cases e : 66 + p = i
          · rw [e, si_at]; exact v3 (by omega)
          · rw [si_ne (Or.inr e)]; exact h7 p hp (by omega)
      have un : X_Model_keepDraft_L120 n kx (f + 1) (nI i) Q = if 60 ≤ nI i then (if 66 ≤ nI i then X_Model_keepDraft_L120 n kx f (nI i + 1) (si Q 1 i 0) else gd (nI i - 60) 6 (bd (X_Model_flag n (Q.1 12 (nI i - 60).toNatClampNeg) Q) fun r10 M11 => X_Model_keepDraft_L120 n kx f (nI i + 1) (si M11 1 i r10))) else X_Model_keepDraft_L120 n kx f (nI i + 1) (si Q 1 i (Q.1 11 i)) := by
        show (if (78 : Int32) ≤ nI i then kx Q else _) = _
        rw [if_neg (show ¬ (78 : Int32) ≤ nI i from nI_ge (b := 78) (by omega) (by decide))]
        have hv : vp_in (nI i) 234 := vp_in_nI (by omega) (by decide)
        simp only [nm, gd_in hv]
        rw [nI_clamp (by omega)]
        by_cases e : 60 ≤ nI i
        · rw [if_pos e, if_pos e]
        · rw [if_neg e, if_neg e]
          have : i < 60 := by
            by_cases h : i < 60
            · exact h
            · exact absurd (nI_le (a := 60) (by omega) (by omega)) e
          rw [gd_in (vp_in_nI (by omega) (by decide))]
      rw [un]
      by_cases c1 : i < 60
      · rw [if_neg (show ¬ (60 : Int32) ≤ nI i from nI_ge (b := 60) c1 (by decide)), (h4 11 i (by unfold rg; omega)).1]
        exact step _ (fun _ => rfl) (fun p hp e => by omega) (fun h => by omega)
      · rw [if_pos (show (60 : Int32) ≤ nI i from nI_le (a := 60) (by omega) (by omega))]
        by_cases c2 : i < 66
        · rw [if_neg (show ¬ (66 : Int32) ≤ nI i from nI_ge (b := 66) c2 (by decide)), show (60 : Int32) = nI 60 from rfl, pk_sub (by omega), gd_in (vp_in_nI (by omega) (by decide)), nI_clamp (by omega), (h4 12 _ (by unfold rg; omega)).1, hG (i - 60) (by omega)]
          have fl : ∀ (c : Bool) (N : Mem), X_Model_flag n (nI (if c then 1 else 0)) N = some (nI (if c then 1 else 0), N) := fun c N => by cases c <;> rfl
          rw [fl, bd_ret]
          exact step _ (fun h => by omega) (fun p hp e => by rw [show p = i - 60 by omega]) (fun h => by omega)
        · rw [if_pos (show (66 : Int32) ≤ nI i from nI_le (a := 66) (by omega) (by omega))]
          exact step _ (fun h => by omega) (fun p hp e => by omega) (fun _ => rfl)
  exact key 78 0 n N rfl (by decide) (by omega) Fr.rf (fun j _ h => by omega) (fun p _ h => by omega) (fun p _ h => by omega)
