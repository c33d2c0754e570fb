/-! BOTH OBJECTS MADE -/
def fd (a k : Nat) : Prop := (11 ≤ a ∧ a ≤ 13) ∨ (a = 0 ∧ ((12 ≤ k ∧ k ≤ 17) ∨ k = 24))
def R0 : Rl := (3, 9, [], [], [])
theorem R0_ok : OkR R0 := ⟨by decide, by decide, by decide, by decide, by decide, fun q h => (List.not_mem_nil h).elim, by decide, fun q h => (List.not_mem_nil h).elim, by decide, fun q h => (List.not_mem_nil h).elim⟩
theorem m_firstDraft (n : Nat) (hn : 100 ≤ n) (M : Mem) : ∃ M', X_Model_firstDraft n M = some ((), M') ∧ DM M' R0 (fun _ => []) 0 ∧ M'.1 0 17 = 0 ∧ M'.1 0 24 = 0 ∧ (∀ p, p < 6 → M'.1 13 p = 0) ∧ (∀ j, j < 60 → M'.1 11 j = 0) ∧ Fr fd M M' := by
  have k2 : ∀ (d i f : Nat) (N : Mem), 6 - i = d → i ≤ 6 → d < f → (∀ p, p < i → N.1 12 p = 0 ∧ N.1 13 p = 0) → ∃ M', X_Model_firstDraft_L59 n f (nI i) N = some ((), M') ∧ Fr (fun a _ => a = 12 ∨ a = 13) N M' ∧ ∀ p, p < 6 → M'.1 12 p = 0 ∧ M'.1 13 p = 0 := by
    intro d
    induction d with
    | zero =>
      intro i f N h1 h2 h3 h
      obtain ⟨f, rfl⟩ : ∃ g, f = g + 1 := ⟨f - 1, by omega⟩
      have e : i = 6 := by omega
      subst e
      refine ⟨N, ?_, Fr.rf, h⟩
      show (if (6 : Int32) ≤ nI 6 then _ else _) = _
      rw [if_pos (by decide)]
    | succ d ih =>
      intro i f N h1 h2 h3 h
      obtain ⟨f, rfl⟩ : ∃ g, f = g + 1 := ⟨f - 1, by omega⟩
      have hi : i < 6 := by omega
      obtain ⟨M', q1, q2, q3⟩ := ih (i + 1) f (si (si N 12 i 0) 13 i 0) (by omega) (by omega) (by omega) (fun p hp => by
        constructor
        · rw [si_ne (Or.inl (by decide))]
          by_cases e : p = i
          · rw [e, si_at]
          · rw [si_ne (Or.inr e)]; exact (h p (by omega)).1
        · by_cases e : p = i
          · rw [e, si_at]
          · rw [si_ne (Or.inr e), si_ne (Or.inl (by decide))]; exact (h p (by omega)).2)
      refine ⟨M', ?_, ((Fr.si (Or.inl rfl)).trans (Fr.si (Or.inr rfl))).trans q2, q3⟩
      show (if (6 : Int32) ≤ nI i then _ else gd (nI i) 6 (gd (nI i) 6 (X_Model_firstDraft_L59 n f (nI i + 1) (si (si N 12 (nI i).toNatClampNeg 0) 13 (nI i).toNatClampNeg 0)))) = _
      rw [if_neg (show ¬ (6 : Int32) ≤ nI i from nI_ge (b := 6) hi (by decide)), gd_in (vp_in_nI (by omega) (by decide)), gd_in (vp_in_nI (by omega) (by decide)), nI_clamp (by omega), nI_1]
      exact q1
  have k1 : ∀ (kx : Mem → Option (Unit × Mem)) (d i f : Nat) (N : Mem), 60 - i = d → i ≤ 60 → d < f → (∀ p, p < i → N.1 11 p = 0) → ∃ M', X_Model_firstDraft_L38 n kx f (nI i) N = kx M' ∧ Fr (fun a _ => a = 11) N M' ∧ ∀ p, p < 60 → M'.1 11 p = 0 := by
    intro kx d
    induction d with
    | zero =>
      intro i f N h1 h2 h3 h
      obtain ⟨f, rfl⟩ : ∃ g, f = g + 1 := ⟨f - 1, by omega⟩
      have e : i = 60 := by omega
      subst e
      refine ⟨N, ?_, Fr.rf, h⟩
      show (if (60 : Int32) ≤ nI 60 then _ else _) = _
      rw [if_pos (by decide)]
    | succ d ih =>
      intro i f N h1 h2 h3 h
      obtain ⟨f, rfl⟩ : ∃ g, f = g + 1 := ⟨f - 1, by omega⟩
      have hi : i < 60 := by omega
      obtain ⟨M', q1, q2, q3⟩ := ih (i + 1) f (si N 11 i 0) (by omega) (by omega) (by omega) (fun p hp => by
        by_cases e : p = i
        · rw [e, si_at]
        · rw [si_ne (Or.inr e)]; exact h p (by omega))
      refine ⟨M', ?_, (Fr.si (P := fun a _ => a = 11) rfl).trans q2, q3⟩
      show (if (60 : Int32) ≤ nI i then _ else gd (nI i) 60 (X_Model_firstDraft_L38 n kx f (nI i + 1) (si N 11 (nI i).toNatClampNeg 0))) = _
      rw [if_neg (show ¬ (60 : Int32) ≤ nI i from nI_ge (b := 60) hi (by decide)), gd_in (vp_in_nI (by omega) (by decide)), nI_clamp (by omega), nI_1]
      exact q1
  generalize hM0 : si (si (si (si (si (si (si M 0 12 3) 0 13 9) 0 14 0) 0 15 0) 0 16 0) 0 17 0) 0 24 0 = M0
  have f0 : Fr fd M M0 := by
    rw [← hM0]
    exact ((((((Fr.si (by unfold fd; omega)).trans (Fr.si (by unfold fd; omega))).trans (Fr.si (by unfold fd; omega))).trans (Fr.si (by unfold fd; omega))).trans (Fr.si (by unfold fd; omega))).trans (Fr.si (by unfold fd; omega))).trans (Fr.si (by unfold fd; omega))
  obtain ⟨M1, a1, a2, a3⟩ := k1 (fun M1 => X_Model_firstDraft_L59 n n 0 M1) 60 0 n M0 rfl (by decide) (by omega) (fun p hp => by omega)
  obtain ⟨M2, b1, b2, b3⟩ := k2 6 0 n M1 rfl (by decide) (by omega) (fun p hp => by omega)
  have un : X_Model_firstDraft n M = X_Model_firstDraft_L38 n (fun M1 => X_Model_firstDraft_L59 n n 0 M1) n (nI 0) M0 := by rw [← hM0]; rfl
  have fr : Fr fd M M2 := (f0.trans (a2.mono (fun a k h => by unfold fd; omega))).trans (b2.mono (fun a k h => by unfold fd; omega))
  have e0 : ∀ k, M2.1 0 k = M0.1 0 k := fun k => by rw [(b2 0 k (by omega)).1, (a2 0 k (by omega)).1]
  have e11 : ∀ j, j < 60 → M2.1 11 j = 0 := fun j hj => by rw [(b2 11 j (by omega)).1]; exact a3 j hj
  refine ⟨M2, by rw [un, a1]; exact b1, ⟨?_, ?_, ?_, ?_, ?_, fun j q hq => ?_, fun i h hi => ?_, fun i h hi => ?_, fun p hp => ⟨?_, fun i t hi => ?_⟩, fun p hp => ?_⟩, ?_, ?_, fun p hp => (b3 p hp).2, e11, fr⟩
  · rw [e0, ← hM0]; rfl
  · rw [e0, ← hM0]; rfl
  · rw [e0, ← hM0]; rfl
  · rw [e0, ← hM0]; rfl
  · rw [e0, ← hM0]; rfl
  · cases hq
  · cases hi
  · cases hi
  · rw [e11 _ (by omega)]; rfl
  · cases hi
  · rw [(b3 p hp).1]; simp; rfl
  · rw [e0, ← hM0]; rfl
  · rw [e0, ← hM0]; rfl
def tri (b : Nat) : Nat := b * (b - 1) / 2
theorem tri_pr : ∀ b, b < 6 → ∀ a, a < b → prN a b = tri b + a ∧ les (tri b + a) = a ∧ gre (tri b + a) = b ∧ tri b + a < 15 := by decide +kernel
theorem tri_s : ∀ b, b < 6 → tri b + b = tri (b + 1) := by decide +kernel
def T67 (N : Mem) (c : Nat) : Prop := ∀ h, h < c → N.1 6 h = nI (les h) ∧ N.1 7 h = nI (gre h)
def ta (a _k : Nat) : Prop := a = 6 ∨ a = 7
theorem m_init_in (n : Nat) (hn : 100 ≤ n) {b : Nat} (hb : b < 6) (kx : Mem → Option (Unit × Mem)) : ∀ (d a f : Nat) (N : Mem), b - a = d → a ≤ b → d < f → T67 N (tri b + a) → ∃ M', X_Model_init_L235 n (nI b) kx f (nI a) N = kx M' ∧ Fr ta N M' ∧ T67 M' (tri (b + 1)) := by
  intro d
  induction d with
  | zero =>
    intro a f N h1 h2 h3 h
    obtain ⟨f, rfl⟩ : ∃ g, f = g + 1 := ⟨f - 1, by omega⟩
    have e : a = b := by omega
    subst e
    refine ⟨N, ?_, Fr.rf, by rw [← tri_s a hb]; exact h⟩
    show (if nI a ≤ nI a then kx N else _) = _
    rw [if_pos (nI_le (Nat.le_refl _) (by omega))]
  | succ d ih =>
    intro a f N h1 h2 h3 h
    obtain ⟨f, rfl⟩ : ∃ g, f = g + 1 := ⟨f - 1, by omega⟩
    have hab : a < b := by omega
    obtain ⟨t1, t2, t3, t4⟩ := tri_pr b hb a hab
    obtain ⟨M', q1, q2, q3⟩ := ih (a + 1) f (si (si N 6 (tri b + a) (nI a)) 7 (tri b + a) (nI b)) (by omega) (by omega) (by omega) (fun h2 hh => by
      by_cases e : h2 = tri b + a
      · constructor
        · rw [si_ne (Or.inl (by decide)), e, si_at, t2]
        · rw [e, si_at, t3]
      · constructor
        · rw [si_ne (Or.inl (by decide)), si_ne (Or.inr e)]; exact (h h2 (by omega)).1
        · rw [si_ne (Or.inr e), si_ne (Or.inl (by decide))]; exact (h h2 (by omega)).2)
    refine ⟨M', ?_, ((Fr.si (P := ta) (Or.inl rfl)).trans (Fr.si (P := ta) (Or.inr rfl))).trans q2, q3⟩
    show (if nI b ≤ nI a then kx N else bd (X_Model_pairOf n (nI a) (nI b) N) fun r2 M3 => gd r2 15 (bd (X_Model_pairOf n (nI a) (nI b) (si M3 6 (r2.toNatClampNeg) (nI a))) fun r5 M6 => gd r5 15 (X_Model_init_L235 n (nI b) kx f (nI a + 1) (si M6 7 (r5.toNatClampNeg) (nI b))))) = _
    rw [if_neg (nI_ge hab (by omega)), m_pairOf n (by omega) (by omega) (by omega), bd_ret, t1, gd_in (vp_in_nI t4 (by decide)), nI_clamp (by omega), m_pairOf n (by omega) (by omega) (by omega), bd_ret, t1, gd_in (vp_in_nI t4 (by decide)), nI_clamp (by omega), nI_1]
    exact q1
theorem m_init_tab (n : Nat) (hn : 100 ≤ n) (kx : Mem → Option (Unit × Mem)) : ∀ (d b f : Nat) (N : Mem), 6 - b = d → 1 ≤ b → b ≤ 6 → d < f → T67 N (tri b) → ∃ M', X_Model_init_L227 n kx f (nI b) N = kx M' ∧ Fr ta N M' ∧ T67 M' 15 := by
  intro d
  induction d with
  | zero =>
    intro b f N h1 h0 h2 h3 h
    obtain ⟨f, rfl⟩ : ∃ g, f = g + 1 := ⟨f - 1, by omega⟩
    have e : b = 6 := by omega
    subst e
    refine ⟨N, ?_, Fr.rf, h⟩
    show (if (6 : Int32) ≤ nI 6 then kx N else _) = _
    rw [if_pos (by decide)]
  | succ d ih =>
    intro b f N h1 h0 h2 h3 h
    obtain ⟨f, rfl⟩ : ∃ g, f = g + 1 := ⟨f - 1, by omega⟩
    obtain ⟨M1, a1, a2, a3⟩ := m_init_in n hn (b := b) (by omega) (fun M7 => X_Model_init_L227 n kx f (nI b + 1) M7) b 0 n N rfl (Nat.zero_le _) (by omega) h
    obtain ⟨M2, b1, b2, b3⟩ := ih (b + 1) f M1 (by omega) (by omega) (by omega) (by omega) a3
    refine ⟨M2, ?_, a2.trans b2, b3⟩
    show (if (6 : Int32) ≤ nI b then kx N else X_Model_init_L235 n (nI b) (fun M7 => X_Model_init_L227 n kx f (nI b + 1) M7) n (nI 0) N) = _
    rw [if_neg (show ¬ (6 : Int32) ≤ nI b from nI_ge (b := 6) (by omega) (by decide)), a1, nI_1]
    exact b1
theorem m_init_sh (n : Nat) (kx : Mem → Option (Unit × Mem)) : ∀ (d i f : Nat) (N : Mem), 4 - i = d → i ≤ 4 → d < f → (∀ k, k < i → N.1 23 k = -4) → ∃ M', X_Model_init_L206 n kx f (nI i) N = kx M' ∧ Fr (fun a _ => a = 23) N M' ∧ ∀ k, k < 4 → M'.1 23 k = -4 := by
  intro d
  induction d with
  | zero =>
    intro i f N h1 h2 h3 h
    obtain ⟨f, rfl⟩ : ∃ g, f = g + 1 := ⟨f - 1, by omega⟩
    have e : i = 4 := by omega
    subst e
    refine ⟨N, ?_, Fr.rf, h⟩
    show (if (4 : Int32) ≤ nI 4 then kx N else _) = _
    rw [if_pos (by decide)]
  | succ d ih =>
    intro i f N h1 h2 h3 h
    obtain ⟨f, rfl⟩ : ∃ g, f = g + 1 := ⟨f - 1, by omega⟩
    obtain ⟨M', q1, q2, q3⟩ := ih (i + 1) f (si N 23 i (-4)) (by omega) (by omega) (by omega) (fun p hp => by
      by_cases e : p = i
      · rw [e, si_at]
      · rw [si_ne (Or.inr e)]; exact h p (by omega))
    refine ⟨M', ?_, (Fr.si (P := fun a _ => a = 23) rfl).trans q2, q3⟩
    show (if (4 : Int32) ≤ nI i then _ else gd (nI i) 4 (X_Model_init_L206 n kx f (nI i + 1) (si N 23 (nI i).toNatClampNeg (-4)))) = _
    rw [if_neg (show ¬ (4 : Int32) ≤ nI i from nI_ge (b := 4) (by omega) (by decide)), gd_in (vp_in_nI (by omega) (by decide)), nI_clamp (by omega), nI_1]
    exact q1
def S0 : Ab := (R0, (fun _ => [], 0, 0, fun _ => 0), (fun _ => (fun _ => [], 0, 0, fun _ => 0)), 0, [], 0, 0, fun _ => none, fun _ _ => 0)
theorem S0_ok : Ok S0 := ⟨R0_ok, ⟨fun p => ⟨⟨List.nodup_nil, fun t (h : t ∈ ([] : List Nat)) => (List.not_mem_nil h).elim⟩, Nat.zero_le _⟩, fun p _ => rfl, by decide, by decide, fun p => (by decide : 0 < 65536)⟩, fun k _ h => absurd (show (0 : Nat).testBit k = true from h) (by simp), by decide, by decide, fun x h => (List.not_mem_nil h).elim, by decide, by decide, fun k l z h => (by cases h)⟩
theorem sim_fresh : ∃ M9, X_Model_init fuel zM = some ((), M9) ∧ XA (si (si (si (si zM 4 0 3) 4 1 9) 11 0 3) 11 1 9) S0 ∧ MA M9 S0 := by
  obtain ⟨M1, a1, a2, a3⟩ := m_init_sh fuel (fun M1 => X_Model_init_L227 fuel (fun M8 => bd (X_Model_firstDraft fuel M8) fun _ M10 => bd (X_Model_keepDraft fuel M10) fun _ M12 => some ((), M12)) fuel 1 M1) 4 0 fuel zM rfl (by decide) (by decide) (fun k hk => by omega)
  obtain ⟨M2, b1, b2, b3⟩ := m_init_tab fuel (by decide) (fun M8 => bd (X_Model_firstDraft fuel M8) fun _ M10 => bd (X_Model_keepDraft fuel M10) fun _ M12 => some ((), M12)) 5 1 fuel M1 rfl (by decide) (by decide) (by decide) (fun h hh => absurd hh (by show ¬ h < 0; omega))
  obtain ⟨M3, c1, c2, -, -, -, -, c3⟩ := m_firstDraft fuel (by decide) M2
  have w0 : OkW (fun _ : Nat => ([] : List Nat)) := fun p => ⟨⟨List.nodup_nil, by simp⟩, Nat.zero_le _⟩
  obtain ⟨M4, d1, d2, d3, d4, d5, d6⟩ := m_keepDraft fuel (by decide) R0_ok w0 c2 (fun h hh => by
    rw [(c3 6 h (by unfold fd; omega)).1, (c3 7 h (by unfold fd; omega)).1]
    exact b3 h hh)
  refine ⟨M4, ?_, ?_, ?_⟩
  · have un : X_Model_init fuel zM = X_Model_init_L206 fuel (fun M1 => X_Model_init_L227 fuel (fun M8 => bd (X_Model_firstDraft fuel M8) fun _ M10 => bd (X_Model_keepDraft fuel M10) fun _ M12 => some ((), M12)) fuel 1 M1) fuel (nI 0) zM := rfl
    rw [un, a1]
    refine Eq.trans b1 ?_
    rw [c1, bd_ret, d1, bd_ret]
  · refine ⟨⟨rfl, rfl, rfl, rfl, rfl, fun j q h => (by cases h), fun i h hi => (by cases hi), fun i h hi => (by cases hi)⟩, ⟨rfl, rfl, fun p _ => rfl, fun p _ h => absurd (show (0 : Nat).testBit p = true from h) (by simp)⟩, fun k _ h => absurd (show (0 : Nat).testBit k = true from h) (by simp), rfl, rfl, rfl, fun i x h => (by cases h), rfl, fun k hk => ?_⟩
    show (si (si (si (si zM 4 0 3) 4 1 9) 11 0 3) 11 1 9).1 (41 + 2 * k) 0 = 0
    rw [si_ne (Or.inl (by omega)), si_ne (Or.inl (by omega)), si_ne (Or.inl (by omega)), si_ne (Or.inl (by omega))]
    rfl
  · have z : ∀ a k, ¬ kd a k → ¬ fd a k → ¬ ta a k → a ≠ 23 → M4.1 a k = 0 := fun a k h1 h2 h3 h4 => by
      rw [(d6 a k h1).1, (c3 a k h2).1, (b2 a k h3).1, (a2 a k h4).1]
      rfl
    refine ⟨d2, d3 _, fun k _ h => absurd (show (0 : Nat).testBit k = true from h) (by simp), fun k hk => ?_, ?_, ?_, fun i x h => (by cases h), ?_, fun k hk => ?_⟩
    · show M4.1 2 k = nI (if (0 : Nat).testBit k then 1 else 0)
      rw [Nat.zero_testBit]
      match k, hk with
      | 0, _ => exact d4
      | 1, _ => exact d5
    · exact z 0 54 (by unfold kd; omega) (by unfold fd; omega) (by unfold ta; omega) (by decide)
    · exact z 0 26 (by unfold kd; omega) (by unfold fd; omega) (by unfold ta; omega) (by decide)
    · exact z 0 31 (by unfold kd; omega) (by unfold fd; omega) (by unfold ta; omega) (by decide)
    · show M4.1 23 k = -4
      rw [(d6 23 k (by unfold kd; omega)).1, (c3 23 k (by unfold fd; omega)).1, (b2 23 k (by unfold ta; omega)).1]
      exact a3 k hk
theorem sim_init : ∃ M9, X_Model_init fuel zM = some ((), M9) ∧ Rel (si (si (si (si zM 4 0 3) 4 1 9) 11 0 3) 11 1 9) M9 := by
  obtain ⟨M9, h1, h2, h3⟩ := sim_fresh
  exact ⟨M9, h1, S0, S0_ok, h2, h3⟩
