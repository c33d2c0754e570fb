/-! BOTH OBJECTS MADE -/
def fd (a k : Nat) : Prop := (11 ≤ a ∧ a ≤ 13) ∨ (a = 0 ∧ ((12 ≤ k ∧ k ≤ 17) ∨ k = 24))
def R0 : Rl := (3, 9, [], [], [])
theorem R0_ok : OkR R0 := ⟨by decide, by decide, by decide, by decide, by decide, fun q h => (List.not_mem_nil h).elim, by decide, fun q h => (List.not_mem_nil h).elim, by decide, fun q h => (List.not_mem_nil h).elim⟩
theorem m_firstDraft (n : Nat) (hn : 100 ≤ n) (M : Mem) : ∃ M', X_Model_firstDraft n M = some ((), M') ∧ DM M' R0 (fun _ => []) 0 ∧ M'.1 0 17 = 0 ∧ M'.1 0 24 = 0 ∧ (∀ p, p < 6 → M'.1 13 p = 0) ∧ (∀ j, j < 60 → M'.1 11 j = 0) ∧ Fr fd M M' := by
  have k2 : ∀ (d i f : Nat) (N : Mem), 6 - i = d → i ≤ 6 → d < f → (∀ p, p < i → N.1 12 p = 0 ∧ N.1 13 p = 0) → ∃ M', X_Model_firstDraft_L59 n f (nI i) N = some ((), M') ∧ Fr (fun a _ => a = 12 ∨ a = 13) N M' ∧ ∀ p, p < 6 → M'.1 12 p = 0 ∧ M'.1 13 p = 0 := by
    intro d
    induction d with
    | zero =>
      intro i f N h1 h2 h3 h
      obtain ⟨f, rfl⟩ : ∃ g, f = g + 1 := ⟨f - 1, by omega⟩
      have e : i = 6 := by omega
      subst e
      refine ⟨N, ?_, Fr.rf, h⟩
      show (if (6 : Int32) ≤ nI 6 then _ else _) = _
      rw [if_pos (by decide)]
    | succ d ih =>
      intro i f N h1 h2 h3 h
      obtain ⟨f, rfl⟩ : ∃ g, f = g + 1 := ⟨f - 1, by omega⟩
      have hi : i < 6 := by omega
      obtain ⟨M', q1, q2, q3⟩ := ih (i + 1) f (si (si N 12 i 0) 13 i 0) (by omega) (by omega) (by omega) (fun p hp => by
        constructor
        · rw [si_ne (Or.inl (by decide))]
          by_cases e : p = i
          · rw [e, si_at]
          · rw [si_ne (Or.inr e)]; exact (h p (by omega)).1
        · by_cases e : p = i
          · rw [e, si_at]
          · rw [si_ne (Or.inr e), si_ne (Or.inl (by decide))]; exact (h p (by omega)).2)
      refine ⟨M', ?_, ((Fr.si (Or.inl rfl)).trans (Fr.si (Or.inr rfl))).trans q2, q3⟩
      show (if (6 : Int32) ≤ nI i then _ else gd (nI i) 6 (gd (nI i) 6 (X_Model_firstDraft_L59 n f (nI i + 1) (si (si N 12 (nI i).toNatClampNeg 0) 13 (nI i).toNatClampNeg 0)))) = _
      rw [if_neg (show ¬ (6 : Int32) ≤ nI i from nI_ge (b := 6) hi (by decide)), gd_in (vp_in_nI (by omega) (by decide)), gd_in (vp_in_nI (by omega) (by decide)), nI_clamp (by omega), nI_1]
      exact q1
  have k1 : ∀ (kx : Mem → Option (Unit × Mem)) (d i f : Nat) (N : Mem), 60 - i = d → i ≤ 60 → d < f → (∀ p, p < i → N.1 11 p = 0) → ∃ M', X_Model_firstDraft_L38 n kx f (nI i) N = kx M' ∧ Fr (fun a _ => a = 11) N M' ∧ ∀ p, p < 60 → M'.1 11 p = 0 := by
    intro kx d
    induction d with
    | zero =>
      intro i f N h1 h2 h3 h
      obtain ⟨f, rfl⟩ : ∃ g, f = g + 1 := ⟨f - 1, by omega⟩
      have e : i = 60 := by omega
      subst e
      refine ⟨N, ?_, Fr.rf, h⟩
      show (if (60 : Int32) ≤ nI 60 then _ else _) = _
      rw [if_pos (by decide)]
    | succ d ih =>
      intro i f N h1 h2 h3 h
      obtain ⟨f, rfl⟩ : ∃ g, f = g + 1 := ⟨f - 1, by omega⟩
      have hi : i < 60 := by omega
      obtain ⟨M', q1, q2, q3⟩ := ih (i + 1) f (si N 11 i 0) (by omega) (by omega) (by omega) (fun p hp => by
        by_cases e : p = i
        · rw [e, si_at]
        · rw [si_ne (Or.inr e)]; exact h p (by omega))
      refine ⟨M', ?_, (Fr.si rfl).trans q2, q3⟩
      show (if (60 : Int32) ≤ nI i then _ else gd (nI i) 60 (X_Model_firstDraft_L38 n kx f (nI i + 1) (si N 11 (nI i).toNatClampNeg 0))) = _
      rw [if_neg (show ¬ (60 : Int32) ≤ nI i from nI_ge (b := 60) hi (by decide)), gd_in (vp_in_nI (by omega) (by decide)), nI_clamp (by omega), nI_1]
      exact q1
  generalize hM0 : si (si (si (si (si (si (si M 0 12 3) 0 13 9) 0 14 0) 0 15 0) 0 16 0) 0 17 0) 0 24 0 = M0
  have f0 : Fr fd M M0 := by
    rw [← hM0]
    exact ((((((Fr.si (by unfold fd; omega)).trans (Fr.si (by unfold fd; omega))).trans (Fr.si (by unfold fd; omega))).trans (Fr.si (by unfold fd; omega))).trans (Fr.si (by unfold fd; omega))).trans (Fr.si (by unfold fd; omega))).trans (Fr.si (by unfold fd; omega))
  obtain ⟨M1, a1, a2, a3⟩ := k1 (fun M1 => X_Model_firstDraft_L59 n n 0 M1) 60 0 n M0 rfl (by decide) (by omega) (fun p hp => by omega)
  obtain ⟨M2, b1, b2, b3⟩ := k2 6 0 n M1 rfl (by decide) (by omega) (fun p hp => by omega)
  have un : X_Model_firstDraft n M = X_Model_firstDraft_L38 n (fun M1 => X_Model_firstDraft_L59 n n 0 M1) n (nI 0) M0 := by rw [← hM0]; rfl
  have fr : Fr fd M M2 := (f0.trans (a2.mono (fun a k h => by unfold fd; omega))).trans (b2.mono (fun a k h => by unfold fd; omega))
  have e0 : ∀ k, M2.1 0 k = M0.1 0 k := fun k => by rw [(b2 0 k (by omega)).1, (a2 0 k (by omega)).1]
  have e11 : ∀ j, j < 60 → M2.1 11 j = 0 := fun j hj => by rw [(b2 11 j (by omega)).1]; exact a3 j hj
  refine ⟨M2, by rw [un, a1]; exact b1, ⟨?_, ?_, ?_, ?_, ?_, fun j q hq => ?_, fun i h hi => ?_, fun i h hi => ?_, fun p hp => ⟨?_, fun i t hi => ?_⟩, fun p hp => ?_⟩, ?_, ?_, fun p hp => (b3 p hp).2, e11, fr⟩
  · rw [e0, ← hM0]; rfl
  · rw [e0, ← hM0]; rfl
  · rw [e0, ← hM0]; rfl
  · rw [e0, ← hM0]; rfl
  · rw [e0, ← hM0]; rfl
  · cases hq
  · cases hi
  · cases hi
  · rw [e11 _ (by omega)]; rfl
  · cases hi
  · rw [(b3 p hp).1]; simp; rfl
  · rw [e0, ← hM0]; rfl
  · rw [e0, ← hM0]; rfl
