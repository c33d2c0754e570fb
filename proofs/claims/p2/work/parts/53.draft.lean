/-! THE REFERENCE: its draft -/
def DM (M : Mem) (R : Rl) (W : Nat → List Nat) (g : Nat) : Prop := M.1 0 12 = nI R.1 ∧ M.1 0 13 = nI R.2.1 ∧ M.1 0 14 = nI R.2.2.1.length ∧ M.1 0 15 = nI R.2.2.2.1.length ∧ M.1 0 16 = nI R.2.2.2.2.length ∧
  (∀ j q, R.2.2.1[j]? = some q → M.1 8 (3 * j) = nI q.1 ∧ M.1 8 (3 * j + 1) = nI q.2.1 ∧ M.1 8 (3 * j + 2) = nI q.2.2) ∧ (∀ i h, R.2.2.2.1[i]? = some h → M.1 9 i = nI h) ∧ (∀ i h, R.2.2.2.2[i]? = some h → M.1 10 i = nI h) ∧
  LyM M 11 0 W ∧ ∀ p, p < 6 → M.1 12 p = nI (if g.testBit p then 1 else 0)
def kd (a k : Nat) : Prop := (2 ≤ a ∧ a ≤ 5) ∨ (a = 1 ∧ k < 78) ∨ (a = 0 ∧ 2 ≤ k ∧ k ≤ 6)
theorem m_kd42 (n : Nat) (hn : 100 ≤ n) (kx : Mem → Option (Unit × Mem)) (N : Mem) : X_Model_keepDraft_L42 n kx n (nI 0) N = kx (cpI N 8 0 3 0 12) := by
  have key : ∀ (d i f : Nat), 12 - i = d → i ≤ 12 → d < f → X_Model_keepDraft_L42 n kx f (nI i) (cpI N 8 0 3 0 i) = kx (cpI N 8 0 3 0 12) := by
    intro d
    induction d with
    | zero =>
      intro i f h1 h2 h3
      obtain ⟨f, rfl⟩ : ∃ g, f = g + 1 := ⟨f - 1, by omega⟩
      have e : i = 12 := by omega
      subst e
      show (if (12 : Int32) ≤ nI 12 then _ else _) = _
      rw [if_pos (by decide)]
    | succ d ih =>
      intro i f h1 h2 h3
      obtain ⟨f, rfl⟩ : ∃ g, f = g + 1 := ⟨f - 1, by omega⟩
      generalize hN : cpI N 8 0 3 0 i = P
      show (if (12 : Int32) ≤ nI i then _ else gd (nI i) 12 (gd (nI i) 12 (X_Model_keepDraft_L42 n kx f (nI i + 1) (si P 3 ((nI i).toNatClampNeg) (P.1 8 (nI i).toNatClampNeg))))) = _
      rw [if_neg (show ¬ (12 : Int32) ≤ nI i from nI_ge (b := 12) (by omega) (by decide)), gd_in (vp_in_nI (by omega) (by decide)), gd_in (vp_in_nI (by omega) (by decide)), nI_clamp (by omega), nI_1, ← hN]
      have := cp_step (M := N) (a := 8) (sp := 0) (b := 3) (dp := 0) (i := i) (Or.inl (by decide))
      rw [Nat.zero_add] at this
      rw [this]
      exact ih (i + 1) f (by omega) (by omega) (by omega)
  have := key 12 0 n rfl (by decide) (by omega)
  rw [cp_0] at this
  exact this
theorem m_kd68 (n : Nat) (hn : 100 ≤ n) (kx : Mem → Option (Unit × Mem)) (N : Mem) : X_Model_keepDraft_L68 n kx n (nI 0) N = kx (cpI N 9 0 4 0 16) := by
  have key : ∀ (d i f : Nat), 16 - i = d → i ≤ 16 → d < f → X_Model_keepDraft_L68 n kx f (nI i) (cpI N 9 0 4 0 i) = kx (cpI N 9 0 4 0 16) := by
    intro d
    induction d with
    | zero =>
      intro i f h1 h2 h3
      obtain ⟨f, rfl⟩ : ∃ g, f = g + 1 := ⟨f - 1, by omega⟩
      have e : i = 16 := by omega
      subst e
      show (if (16 : Int32) ≤ nI 16 then _ else _) = _
      rw [if_pos (by decide)]
    | succ d ih =>
      intro i f h1 h2 h3
      obtain ⟨f, rfl⟩ : ∃ g, f = g + 1 := ⟨f - 1, by omega⟩
      generalize hN : cpI N 9 0 4 0 i = P
      show (if (16 : Int32) ≤ nI i then _ else gd (nI i) 16 (gd (nI i) 16 (X_Model_keepDraft_L68 n kx f (nI i + 1) (si P 4 ((nI i).toNatClampNeg) (P.1 9 (nI i).toNatClampNeg))))) = _
      rw [if_neg (show ¬ (16 : Int32) ≤ nI i from nI_ge (b := 16) (by omega) (by decide)), gd_in (vp_in_nI (by omega) (by decide)), gd_in (vp_in_nI (by omega) (by decide)), nI_clamp (by omega), nI_1, ← hN]
      have := cp_step (M := N) (a := 9) (sp := 0) (b := 4) (dp := 0) (i := i) (Or.inl (by decide))
      rw [Nat.zero_add] at this
      rw [this]
      exact ih (i + 1) f (by omega) (by omega) (by omega)
  have := key 16 0 n rfl (by decide) (by omega)
  rw [cp_0] at this
  exact this
theorem m_kd94 (n : Nat) (hn : 100 ≤ n) (kx : Mem → Option (Unit × Mem)) (N : Mem) : X_Model_keepDraft_L94 n kx n (nI 0) N = kx (cpI N 10 0 5 0 8) := by
  have key : ∀ (d i f : Nat), 8 - i = d → i ≤ 8 → d < f → X_Model_keepDraft_L94 n kx f (nI i) (cpI N 10 0 5 0 i) = kx (cpI N 10 0 5 0 8) := by
    intro d
    induction d with
    | zero =>
      intro i f h1 h2 h3
      obtain ⟨f, rfl⟩ : ∃ g, f = g + 1 := ⟨f - 1, by omega⟩
      have e : i = 8 := by omega
      subst e
      show (if (8 : Int32) ≤ nI 8 then _ else _) = _
      rw [if_pos (by decide)]
    | succ d ih =>
      intro i f h1 h2 h3
      obtain ⟨f, rfl⟩ : ∃ g, f = g + 1 := ⟨f - 1, by omega⟩
      generalize hN : cpI N 10 0 5 0 i = P
      show (if (8 : Int32) ≤ nI i then _ else gd (nI i) 8 (gd (nI i) 8 (X_Model_keepDraft_L94 n kx f (nI i + 1) (si P 5 ((nI i).toNatClampNeg) (P.1 10 (nI i).toNatClampNeg))))) = _
      rw [if_neg (show ¬ (8 : Int32) ≤ nI i from nI_ge (b := 8) (by omega) (by decide)), gd_in (vp_in_nI (by omega) (by decide)), gd_in (vp_in_nI (by omega) (by decide)), nI_clamp (by omega), nI_1, ← hN]
      have := cp_step (M := N) (a := 10) (sp := 0) (b := 5) (dp := 0) (i := i) (Or.inl (by decide))
      rw [Nat.zero_add] at this
      rw [this]
      exact ih (i + 1) f (by omega) (by omega) (by omega)
  have := key 8 0 n rfl (by decide) (by omega)
  rw [cp_0] at this
  exact this
theorem m_kd120 (n : Nat) (hn : 100 ≤ n) (kx : Mem → Option (Unit × Mem)) {N : Mem} {g : Nat} (hG : ∀ p, p < 6 → N.1 12 p = nI (if g.testBit p then 1 else 0)) : ∃ M', X_Model_keepDraft_L120 n kx n (nI 0) N = kx M' ∧ Fr (rg 1 0 78) N M' ∧ (∀ j, j < 60 → M'.1 1 j = N.1 11 j) ∧ GlM M' 60 g ∧ GlM M' 66 0 := by
  have key : ∀ (d i f : Nat) (Q : Mem), 78 - i = d → i ≤ 78 → d < f → Fr (rg 1 0 78) N Q → (∀ j, j < 60 → j < i → Q.1 1 j = N.1 11 j) → (∀ p, p < 6 → 60 + p < i → Q.1 1 (60 + p) = nI (if g.testBit p then 1 else 0)) → (∀ p, p < 6 → 66 + p < i → Q.1 1 (66 + p) = 0) → ∃ M', X_Model_keepDraft_L120 n kx f (nI i) Q = kx M' ∧ Fr (rg 1 0 78) N M' ∧ (∀ j, j < 60 → M'.1 1 j = N.1 11 j) ∧ GlM M' 60 g ∧ GlM M' 66 0 := by
    intro d
    induction d with
    | zero =>
      intro i f Q h1 h2 h3 h4 h5 h6 h7
      obtain ⟨f, rfl⟩ : ∃ g, f = g + 1 := ⟨f - 1, by omega⟩
      have e : i = 78 := by omega
      subst e
      refine ⟨Q, ?_, h4, fun j hj => h5 j hj (by omega), fun p hp => h6 p hp (by omega), fun p hp => ?_⟩
      · show (if (78 : Int32) ≤ nI 78 then _ else _) = _
        rw [if_pos (by decide)]
      · rw [h7 p hp (by omega)]
        simp
        rfl
    | succ d ih =>
      intro i f Q h1 h2 h3 h4 h5 h6 h7
      obtain ⟨f, rfl⟩ : ∃ g, f = g + 1 := ⟨f - 1, by omega⟩
      have hi : i < 78 := by omega
      have step : ∀ v : Int32, (i < 60 → v = N.1 11 i) → (∀ p, p < 6 → i = 60 + p → v = nI (if g.testBit p then 1 else 0)) → (66 ≤ i → v = 0) → ∃ M', X_Model_keepDraft_L120 n kx f (nI i + 1) (si Q 1 i v) = kx M' ∧ Fr (rg 1 0 78) N M' ∧ (∀ j, j < 60 → M'.1 1 j = N.1 11 j) ∧ GlM M' 60 g ∧ GlM M' 66 0 := by
        intro v v1 v2 v3
        rw [nI_1]
        refine ih (i + 1) f (si Q 1 i v) (by omega) (by omega) (by omega) (h4.trans (Fr.si ⟨rfl, by omega, by omega⟩)) (fun j hj hj2 => ?_) (fun p hp hp2 => ?_) (fun p hp hp2 => ?_)
        · by_cases e : j = i
          · rw [e, si_at]; exact v1 (by omega)
          · rw [si_ne (Or.inr e)]; exact h5 j hj (by omega)
        · by_cases e : 60 + p = i
          · rw [e, si_at]; exact v2 p hp e.symm
          · rw [si_ne (Or.inr e)]; exact h6 p hp (by omega)
        · by_cases e : 66 + p = i
          · rw [e, si_at]; exact v3 (by omega)
          · rw [si_ne (Or.inr e)]; exact h7 p hp (by omega)
      have un : X_Model_keepDraft_L120 n kx (f + 1) (nI i) Q = if 60 ≤ nI i then (if 66 ≤ nI i then X_Model_keepDraft_L120 n kx f (nI i + 1) (si Q 1 i 0) else gd (nI i - 60) 6 (bd (X_Model_flag n (Q.1 12 (nI i - 60).toNatClampNeg) Q) fun r10 M11 => X_Model_keepDraft_L120 n kx f (nI i + 1) (si M11 1 i r10))) else X_Model_keepDraft_L120 n kx f (nI i + 1) (si Q 1 i (Q.1 11 i)) := by
        show (if (78 : Int32) ≤ nI i then kx Q else _) = _
        rw [if_neg (show ¬ (78 : Int32) ≤ nI i from nI_ge (b := 78) (by omega) (by decide))]
        have hv : vp_in (nI i) 234 := vp_in_nI (by omega) (by decide)
        simp only [nm, gd_in hv]
        rw [nI_clamp (by omega)]
        by_cases e : 60 ≤ nI i
        · rw [if_pos e, if_pos e]
        · rw [if_neg e, if_neg e]
          have : i < 60 := by
            by_cases h : i < 60
            · exact h
            · exact absurd (nI_le (a := 60) (by omega) (by omega)) e
          rw [gd_in (vp_in_nI (by omega) (by decide))]
      rw [un]
      by_cases c1 : i < 60
      · rw [if_neg (show ¬ (60 : Int32) ≤ nI i from nI_ge (b := 60) c1 (by decide)), (h4 11 i (by unfold rg; omega)).1]
        exact step _ (fun _ => rfl) (fun p hp e => by omega) (fun h => by omega)
      · rw [if_pos (show (60 : Int32) ≤ nI i from nI_le (a := 60) (by omega) (by omega))]
        by_cases c2 : i < 66
        · rw [if_neg (show ¬ (66 : Int32) ≤ nI i from nI_ge (b := 66) c2 (by decide)), show (60 : Int32) = nI 60 from rfl, pk_sub (by omega), gd_in (vp_in_nI (by omega) (by decide)), nI_clamp (by omega), (h4 12 _ (by unfold rg; omega)).1, hG (i - 60) (by omega)]
          have fl : ∀ (c : Bool) (N : Mem), X_Model_flag n (nI (if c then 1 else 0)) N = some (nI (if c then 1 else 0), N) := fun c N => by cases c <;> rfl
          rw [fl, bd_ret]
          exact step _ (fun h => by omega) (fun p hp e => by rw [show p = i - 60 by omega]) (fun h => by omega)
        · rw [if_pos (show (66 : Int32) ≤ nI i from nI_le (a := 66) (by omega) (by omega))]
          exact step _ (fun h => by omega) (fun p hp e => by omega) (fun _ => rfl)
  exact key 78 0 n N rfl (by decide) (by omega) Fr.rf (fun j _ h => by omega) (fun p _ h => by omega) (fun p _ h => by omega)
theorem cp_get {M : Mem} {a sp b dp n k j : Nat} (h : dp ≤ k) (h2 : k < dp + n) (hj : sp + (k - dp) = j) : (cpI M a sp b dp n).1 b k = M.1 a j := by
  show (if b = b ∧ dp ≤ k ∧ k < dp + n then M.1 a (sp + (k - dp)) else _) = _
  rw [if_pos ⟨rfl, h, h2⟩, hj]
theorem m_keepDraft (n : Nat) (hn : 100 ≤ n) {M : Mem} {R : Rl} {W : Nat → List Nat} {g : Nat} (hR : OkR R) (hW : OkW W) (hD : DM M R W g) (h67 : ∀ h, h < 15 → M.1 6 h = nI (les h) ∧ M.1 7 h = nI (gre h)) : ∃ M', X_Model_keepDraft n M = some ((), M') ∧ MC M' R ∧ (∀ sg, MMi M' 0 (W, g, 0, sg)) ∧ M'.1 2 0 = 0 ∧ M'.1 2 1 = 0 ∧ Fr kd M M' := by
  obtain ⟨d1, d2, d3, d4, d5, d6, d7, d8, d9, d10⟩ := hD
  have l1 := hR.2.2.2.2.1
  have l2 := hR.2.2.2.2.2.2.1
  have l3 := hR.2.2.2.2.2.2.2.2.1
  generalize hM5 : si (si (si (si (si M 0 2 (nI R.1)) 0 3 (nI R.2.1)) 0 4 (nI R.2.2.1.length)) 0 5 (nI R.2.2.2.1.length)) 0 6 (nI R.2.2.2.2.length) = M5
  have f5 : Fr kd M M5 := by
    rw [← hM5]
    exact ((((Fr.si (by unfold kd; omega)).trans (Fr.si (by unfold kd; omega))).trans (Fr.si (by unfold kd; omega))).trans (Fr.si (by unfold kd; omega))).trans (Fr.si (by unfold kd; omega))
  have un : X_Model_keepDraft n M = X_Model_keepDraft_L42 n (fun M5 => X_Model_keepDraft_L68 n (fun M6 => X_Model_keepDraft_L94 n (fun M7 => X_Model_keepDraft_L120 n (fun M12 => some ((), si (si M12 2 0 0) 2 1 0)) n (nI 0) M7) n (nI 0) M6) n (nI 0) M5) n (nI 0) M5 := by
    rw [← hM5, ← d1, ← d2, ← d3, ← d4, ← d5]
    rfl
  generalize hP : cpI (cpI (cpI M5 8 0 3 0 12) 9 0 4 0 16) 10 0 5 0 8 = P
  have fP : Fr kd M P := by
    rw [← hP]
    exact (((f5.trans (Fr.cpI (fun k _ _ => by unfold kd; omega))).trans (Fr.cpI (fun k _ _ => by unfold kd; omega))).trans (Fr.cpI (fun k _ _ => by unfold kd; omega)))
  obtain ⟨Q, q1, q2, q3, q4, q5⟩ := m_kd120 n hn (fun M12 => some ((), si (si M12 2 0 0) 2 1 0)) (N := P) (g := g) (fun p hp => by rw [(fP 12 p (by unfold kd; omega)).1]; exact d10 p hp)
  have fQ : Fr kd M (si (si Q 2 0 0) 2 1 0) := (fP.trans (q2.mono (fun a k h => by unfold rg at h; unfold kd; omega))).trans ((Fr.si (by unfold kd; omega)).trans (Fr.si (by unfold kd; omega)))
  have offQ : ∀ a k, a ≠ 1 → a ≠ 2 → (si (si Q 2 0 0) 2 1 0).1 a k = P.1 a k := fun a k h1 h2 => by
    rw [si_ne (Or.inl h2), si_ne (Or.inl h2), (q2 a k (by unfold rg; omega)).1]
  have p3 : ∀ k, k < 12 → P.1 3 k = M.1 8 k := fun k hk => by
    rw [← hP, (cpI_off (by decide)).1, (cpI_off (by decide)).1, cp_get (by omega) (by omega) (show 0 + (k - 0) = k by omega), (f5 8 k (by unfold kd; omega)).1]
  have p4 : ∀ k, k < 16 → P.1 4 k = M.1 9 k := fun k hk => by
    rw [← hP, (cpI_off (by decide)).1, cp_get (by omega) (by omega) (show 0 + (k - 0) = k by omega), (cpI_off (by decide)).1, (f5 9 k (by unfold kd; omega)).1]
  have p5 : ∀ k, k < 8 → P.1 5 k = M.1 10 k := fun k hk => by
    rw [← hP, cp_get (by omega) (by omega) (show 0 + (k - 0) = k by omega), (cpI_off (by decide)).1, (cpI_off (by decide)).1, (f5 10 k (by unfold kd; omega)).1]
  have p0 : ∀ k, P.1 0 k = M5.1 0 k := fun k => by rw [← hP, (cpI_off (by decide)).1, (cpI_off (by decide)).1, (cpI_off (by decide)).1]
  refine ⟨_, by rw [un, m_kd42 n hn, m_kd68 n hn, m_kd94 n hn, hP, q1], ⟨?_, ?_, ?_, ?_, ?_, fun j q hq => ?_, fun i h hi => ?_, fun i h hi => ?_, fun h hh => ?_⟩, fun sg => ⟨fun p hp => ?_, fun p hp => ?_, fun p hp => ?_, fun p hp hs => ?_⟩, ?_, ?_, fQ⟩
  · rw [offQ 0 2 (by decide) (by decide), p0, ← hM5, si_ne (Or.inr (by decide)), si_ne (Or.inr (by decide)), si_ne (Or.inr (by decide)), si_ne (Or.inr (by decide)), si_at]
  · rw [offQ 0 3 (by decide) (by decide), p0, ← hM5, si_ne (Or.inr (by decide)), si_ne (Or.inr (by decide)), si_ne (Or.inr (by decide)), si_at]
  · rw [offQ 0 4 (by decide) (by decide), p0, ← hM5, si_ne (Or.inr (by decide)), si_ne (Or.inr (by decide)), si_at]
  · rw [offQ 0 5 (by decide) (by decide), p0, ← hM5, si_ne (Or.inr (by decide)), si_at]
  · rw [offQ 0 6 (by decide) (by decide), p0, ← hM5, si_at]
  · have := (List.getElem?_eq_some_iff.mp hq).1
    rw [offQ 3 _ (by decide) (by decide), offQ 3 _ (by decide) (by decide), offQ 3 _ (by decide) (by decide), p3 _ (by omega), p3 _ (by omega), p3 _ (by omega)]
    exact d6 j q hq
  · have := (List.getElem?_eq_some_iff.mp hi).1
    rw [offQ 4 _ (by decide) (by decide), p4 _ (by omega)]
    exact d7 i h hi
  · have := (List.getElem?_eq_some_iff.mp hi).1
    rw [offQ 5 _ (by decide) (by decide), p5 _ (by omega)]
    exact d8 i h hi
  · rw [(fQ 6 h (by unfold kd; omega)).1, (fQ 7 h (by unfold kd; omega)).1]
    exact h67 h hh
  · have hl := (hW p).2
    have hr := d9 p hp
    have o : ∀ k, k < 60 → (si (si Q 2 0 0) 2 1 0).1 1 k = M.1 11 k := fun k hk => by
      rw [si_ne (Or.inl (by decide)), si_ne (Or.inl (by decide)), q3 k hk, (fP 11 k (by unfold kd; omega)).1]
    refine ⟨by rw [o _ (by omega)]; exact hr.1, fun i t hi => ?_⟩
    have := (List.getElem?_eq_some_iff.mp hi).1
    have hi' : (W p)[i]? = some t := hi
    have : i < (W p).length := this
    rw [o _ (by omega)]
    exact hr.2 i t hi'
  · have := q4 p hp
    rw [si_ne (Or.inl (by decide)), si_ne (Or.inl (by decide)), show 0 + 60 + p = 60 + p by omega]
    exact this
  · have := q5 p hp
    rw [si_ne (Or.inl (by decide)), si_ne (Or.inl (by decide)), show 0 + 66 + p = 66 + p by omega]
    exact this
  · exact absurd (show (0 : Nat).testBit p = true from hs) (by simp)
  · rw [si_ne (Or.inr (by decide)), si_at]
  · rw [si_at]
