/-! THE TEXT: names in the reference; the lines' contents alike -/
def isB (tp : List Nat) (q a len b0 b1 b2 b3 : Nat) : Bool := decide (a - q = len) && (inr tp b0 b0 q && (inr tp b1 b1 (q + 1) && (inr tp b2 b2 (q + 2) && inr tp b3 b3 (q + 3))))
theorem m_is (n : Nat) {M : Mem} {tp : List Nat} {q a : Nat} (hT : MTp M tp) (h27 : M.1 0 27 = nI a) (h28 : M.1 0 28 = nI q) (hq : q ≤ a) (ha : a ≤ tp.length) {len b0 b1 b2 b3 : Nat} (hl : len < 100) (c0 : b0 < 256) (c1 : b1 < 256) (c2 : b2 < 256) (c3 : b3 < 256) : X_Model_is n (nI len) (nI b0) (nI b1) (nI b2) (nI b3) M = some (if isB tp q a len b0 b1 b2 b3 then 1 else 0, M) := by
  have hL := hT.2.2.1
  unfold X_Model_is isB
  rw [h27, h28, pk_sub hq]
  by_cases e : a - q = len
  · rw [if_pos (by rw [e]), decide_eq_true e, Bool.true_and, m_look' n hT (by omega), bd_ret]
    by_cases e0 : inr tp b0 b0 q = true
    · rw [if_pos ((lk_eq hT.2.2.2 c0).mpr e0), e0, Bool.true_and, h28, nI_1, m_look' n hT (by omega), bd_ret]
      by_cases e1 : inr tp b1 b1 (q + 1) = true
      · rw [if_pos ((lk_eq hT.2.2.2 c1).mpr e1), e1, Bool.true_and, h28, show (2 : Int32) = nI 2 from rfl, nI_add, m_look' n hT (by omega), bd_ret]
        by_cases e2 : inr tp b2 b2 (q + 2) = true
        · rw [if_pos ((lk_eq hT.2.2.2 c2).mpr e2), e2, Bool.true_and, h28, show (3 : Int32) = nI 3 from rfl, nI_add, m_look' n hT (by omega), bd_ret]
          by_cases e3 : inr tp b3 b3 (q + 3) = true
          · rw [if_pos ((lk_eq hT.2.2.2 c3).mpr e3), if_pos e3]
          · rw [if_neg (fun r => e3 ((lk_eq hT.2.2.2 c3).mp r)), if_neg e3]
        · rw [if_neg (fun r => e2 ((lk_eq hT.2.2.2 c2).mp r)), Bool.eq_false_iff.mpr e2, Bool.false_and]; rfl
      · rw [if_neg (fun r => e1 ((lk_eq hT.2.2.2 c1).mp r)), Bool.eq_false_iff.mpr e1, Bool.false_and]; rfl
    · rw [if_neg (fun r => e0 ((lk_eq hT.2.2.2 c0).mp r)), Bool.eq_false_iff.mpr e0, Bool.false_and]; rfl
  · rw [if_neg (fun r => e ((nI_eq (by omega) (by omega)).mp r)), decide_eq_false e, Bool.false_and]; rfl
theorem isN_B (tp : List Nat) (q a : Nat) : isN tp 0 q a = (isB tp q a 6 112 101 111 112 && (inr tp 108 108 (q + 4) && inr tp 101 101 (q + 5))) ∧ isN tp 1 q a = isB tp q a 4 104 111 108 100 ∧ isN tp 2 q a = (isB tp q a 5 107 110 111 119 && inr tp 115 115 (q + 4)) ∧ isN tp 3 q a = isB tp q a 4 106 111 105 110 ∧ isN tp 4 q a = isB tp q a 4 104 97 110 100 ∧ isN tp 5 q a = (isB tp q a 5 100 97 105 108 && inr tp 121 121 (q + 4)) ∧ isN tp 6 q a = (isB tp q a 5 103 108 111 118 && inr tp 101 101 (q + 4)) := by
  unfold isN isB
  simp [stN, mtc, Bool.and_assoc]
theorem iteb {α : Type} (B c : Bool) (a K : α) : (if B = true then (if c = true then a else K) else K) = if (B && c) = true then a else K := by cases B <;> cases c <;> rfl
theorem ite1 {α : Type} (B : Bool) (a K : α) : (if (if B = true then (1 : Int32) else 0) = 0 then K else a) = if B = true then a else K := by cases B <;> rfl
def nmC (k : Nat) : Int32 := if k = 7 then -4 else nI k
theorem m_name (n : Nat) {M : Mem} {tp : List Nat} {q a : Nat} (hT : MTp M tp) (h27 : M.1 0 27 = nI a) (h28 : M.1 0 28 = nI q) (hq : q ≤ a) (ha : a ≤ tp.length) : X_Model_nameNow n M = some (nmC (nmI tp q a), M) := by
  have hL := hT.2.2.1
  obtain ⟨i0, i1, i2, i3, i4, i5, i6⟩ := isN_B tp q a
  have l4 : X_Model_look n ((M.1 0 28) + 4) M = some (lk tp (q + 4), M) := by
    rw [h28, show (4 : Int32) = nI 4 from rfl, nI_add]
    exact m_look' n hT (by omega)
  have l5 : X_Model_look n ((M.1 0 28) + 5) M = some (lk tp (q + 5), M) := by
    rw [h28, show (5 : Int32) = nI 5 from rfl, nI_add]
    exact m_look' n hT (by omega)
  have s0 : X_Model_is n 6 112 101 111 112 M = _ := m_is n hT h27 h28 hq ha (len := 6) (b0 := 112) (b1 := 101) (b2 := 111) (b3 := 112) (by decide) (by decide) (by decide) (by decide) (by decide)
  have s1 : X_Model_is n 4 104 111 108 100 M = _ := m_is n hT h27 h28 hq ha (len := 4) (b0 := 104) (b1 := 111) (b2 := 108) (b3 := 100) (by decide) (by decide) (by decide) (by decide) (by decide)
  have s2 : X_Model_is n 5 107 110 111 119 M = _ := m_is n hT h27 h28 hq ha (len := 5) (b0 := 107) (b1 := 110) (b2 := 111) (b3 := 119) (by decide) (by decide) (by decide) (by decide) (by decide)
  have s3 : X_Model_is n 4 106 111 105 110 M = _ := m_is n hT h27 h28 hq ha (len := 4) (b0 := 106) (b1 := 111) (b2 := 105) (b3 := 110) (by decide) (by decide) (by decide) (by decide) (by decide)
  have s4 : X_Model_is n 4 104 97 110 100 M = _ := m_is n hT h27 h28 hq ha (len := 4) (b0 := 104) (b1 := 97) (b2 := 110) (b3 := 100) (by decide) (by decide) (by decide) (by decide) (by decide)
  have s5 : X_Model_is n 5 100 97 105 108 M = _ := m_is n hT h27 h28 hq ha (len := 5) (b0 := 100) (b1 := 97) (b2 := 105) (b3 := 108) (by decide) (by decide) (by decide) (by decide) (by decide)
  have s6 : X_Model_is n 5 103 108 111 118 M = _ := m_is n hT h27 h28 hq ha (len := 5) (b0 := 103) (b1 := 108) (b2 := 111) (b3 := 118) (by decide) (by decide) (by decide) (by decide) (by decide)
  have g1 : (lk tp (q + 4) = 108) ↔ inr tp 108 108 (q + 4) = true := lk_eq hT.2.2.2 (b := 108) (by decide)
  have g2 : (lk tp (q + 5) = 101) ↔ inr tp 101 101 (q + 5) = true := lk_eq hT.2.2.2 (b := 101) (by decide)
  have g3 : (lk tp (q + 4) = 115) ↔ inr tp 115 115 (q + 4) = true := lk_eq hT.2.2.2 (b := 115) (by decide)
  have g4 : (lk tp (q + 4) = 121) ↔ inr tp 121 121 (q + 4) = true := lk_eq hT.2.2.2 (b := 121) (by decide)
  have g5 : (lk tp (q + 4) = 101) ↔ inr tp 101 101 (q + 4) = true := lk_eq hT.2.2.2 (b := 101) (by decide)
  unfold X_Model_nameNow nmI
  simp only [nm, s0, s1, s2, s3, s4, s5, s6, l4, l5, bd_ret, g1, g2, g3, g4, g5]
  rw [i0, i1, i2, i3, i4, i5, i6]
  generalize isB tp q a 6 112 101 111 112 = B0
  generalize isB tp q a 4 104 111 108 100 = B1
  generalize isB tp q a 5 107 110 111 119 = B2
  generalize isB tp q a 4 106 111 105 110 = B3
  generalize isB tp q a 4 104 97 110 100 = B4
  generalize isB tp q a 5 100 97 105 108 = B5
  generalize isB tp q a 5 103 108 111 118 = B6
  simp only [ite1]
  simp only [iteb]
  generalize (B0 && (inr tp 108 108 (q + 4) && inr tp 101 101 (q + 5))) = X0
  generalize (B2 && inr tp 115 115 (q + 4)) = X2
  generalize (B5 && inr tp 121 121 (q + 4)) = X5
  generalize (B6 && inr tp 101 101 (q + 4)) = X6
  cases X0 with
  | true => rfl
  | false =>
    rw [if_neg Bool.false_ne_true, if_neg Bool.false_ne_true]
    cases B1 with
    | true => rfl
    | false =>
      rw [if_neg Bool.false_ne_true, if_neg Bool.false_ne_true]
      cases X2 with
      | true => rfl
      | false =>
        rw [if_neg Bool.false_ne_true, if_neg Bool.false_ne_true]
        cases B3 with
        | true => rfl
        | false =>
          rw [if_neg Bool.false_ne_true, if_neg Bool.false_ne_true]
          cases B4 with
          | true => rfl
          | false =>
            rw [if_neg Bool.false_ne_true, if_neg Bool.false_ne_true]
            cases X5 with
            | true => rfl
            | false =>
              rw [if_neg Bool.false_ne_true, if_neg Bool.false_ne_true]
              cases X6 <;> rfl
-- what a fault does not change
theorem tkN_bad {tp : List Nat} {s : Tk} (lo hi : Nat) (h : (rdX tp s).1 ≠ 0) : tkN tp lo hi s = rdX tp s := by
  show btN lo hi (rdX tp s) = _
  unfold btN
  rw [rfs_bad h, rfs_bad h]
theorem rdX_bad {tp : List Nat} {s : Tk} (h : s.1 ≠ 0) : rdX tp s = s := if_neg h
theorem tkN_b {tp : List Nat} {s : Tk} (lo hi : Nat) (h : s.1 ≠ 0) : tkN tp lo hi s = s := by
  have e := rdX_bad (tp := tp) h
  have := tkN_bad (tp := tp) (s := s) lo hi (by rw [e]; exact h)
  rw [this, e]
theorem tkS_b {tp : List Nat} {s : Tk} (h : s.1 ≠ 0) : tkS tp s = s := by
  unfold tkS
  rw [rdX_bad h, rfs_bad h]
theorem num_N {tp : List Nat} {s : Tk} {t : Tm} (lo hi : Nat) (h : QT (rdX tp s) t) : QT (rdX tp (tkN tp lo hi s)) (rdM tp (lkN lo hi t)) := next_Q (num_Q lo hi h).1
-- glove
theorem glo_Q {tp : List Nat} {s : Tk} {t : Tm} {E : Dr} (h : QT (rdX tp s) t) : QT (rdX tp (rfs (E.gl.testBit (vaN 0 (tkN tp 0 5 s))) 4 (tkN tp 0 5 s))) (mgT tp t E) ∧ ((mgT tp t E).1 = 0 → mgD t E = gloD tp s E) := by
  obtain ⟨q1, q2⟩ := num_Q 0 5 h
  unfold mgT mgD gloD
  generalize tkN tp 0 5 s = a at q1 q2
  generalize lkN 0 5 t = c at q1 q2
  refine ⟨next_Q ?_, fun q => ?_⟩
  · rcases q1 with q1 | q1
    · exact ref_Q (Or.inl q1) (by decide) (by decide) (by rw [q2 q1.1, Bool.not_not])
    · rw [rfs_bad q1.1, ned_bad q1.2.1]
      exact Or.inr q1
  · have r1 := (ned_0 (by decide) (rdM_0 q)).1
    rw [q2 ((Q_0 q1).mpr r1)]
-- hand, daily
theorem pa_Q {tp : List Nat} {s : Tk} {t : Tm} {E : Dr} (h : QT (rdX tp s) t) : QT (rdX tp (rfs (decide (vaN 0 (paB tp s) = vaN 0 (paA tp s))) 4 (paB tp s))) (mhT tp t) ∧ ((mhT tp t).1 = 0 → mhD tp t E = paH tp s E ∧ vaM (mhA t) = vaN 0 (paA tp s) ∧ vaM (mhB tp t) = vaN 0 (paB tp s)) := by
  obtain ⟨q1, q2⟩ := num_Q 0 5 h
  obtain ⟨q3, q4⟩ := num_Q (s := paA tp s) 0 5 (next_Q q1)
  have q1 : QT (paA tp s) (mhA t) := q1
  have q2 : (paA tp s).1 = 0 → vaN 0 (paA tp s) = vaM (mhA t) := q2
  have q3 : QT (paB tp s) (mhB tp t) := q3
  have q4 : (paB tp s).1 = 0 → vaN 0 (paB tp s) = vaM (mhB tp t) := q4
  have pb : (paB tp s).1 = 0 → (paA tp s).1 = 0 := fun q => by
    have := (tkN_0 (show (tkN tp 0 5 (paA tp s)).1 = 0 from q)).1
    exact rd_0 this
  unfold mhT
  refine ⟨next_Q ?_, fun q => ?_⟩
  · rcases q3 with q3 | q3
    · refine ref_Q (Or.inl q3) (by decide) (by decide) ?_
      rw [q4 q3.1, q2 (pb q3.1)]
      by_cases e : vaM (mhB tp t) = vaM (mhA t)
      · rw [decide_eq_true e, decide_eq_false (fun r => r e.symm)]; rfl
      · rw [decide_eq_false e, decide_eq_true (show vaM (mhA t) ≠ vaM (mhB tp t) from fun r => e r.symm)]; rfl
    · rw [rfs_bad q3.1, ned_bad q3.2.1]
      exact Or.inr q3
  · have r1 := (ned_0 (by decide) (rdM_0 q)).1
    have b0 := (Q_0 q3).mpr r1
    have e1 := q2 (pb b0)
    have e2 := q4 b0
    refine ⟨?_, e1.symm, e2.symm⟩
    unfold mhD paH
    rw [e1, e2, Nat.max_assoc]
-- join
theorem jo_Q {tp : List Nat} {s : Tk} {t : Tm} {E : Dr} (h : QT (rdX tp s) t) : QT (rdX tp (rfs (decide (vaN 0 (joC tp s) = vaN 0 (joA tp s) ∨ vaN 0 (joC tp s) = vaN 0 (joB tp s))) 4 (joC tp s))) (mjT tp t) ∧ ((mjT tp t).1 = 0 → mjD tp t E = joD tp s E) := by
  obtain ⟨q1, q2⟩ := num_Q 0 15 h
  obtain ⟨q3, q4⟩ := num_Q (s := joA tp s) 0 15 (next_Q q1)
  have q1 : QT (joA tp s) (mjA t) := q1
  have q2 : (joA tp s).1 = 0 → vaN 0 (joA tp s) = vaM (mjA t) := q2
  have q3 : QT (joB tp s) (mjB tp t) := q3
  have q4 : (joB tp s).1 = 0 → vaN 0 (joB tp s) = vaM (mjB tp t) := q4
  have pb : (joB tp s).1 = 0 → (joA tp s).1 = 0 := fun q => rd_0 (tkN_0 (show (tkN tp 0 15 (joA tp s)).1 = 0 from q)).1
  have qm : QT (rfs (decide (vaN 0 (joB tp s) = vaN 0 (joA tp s))) 4 (joB tp s)) (ned (decide (vaM (mjB tp t) ≠ vaM (mjA t))) 4 (mjB tp t)) := by
    rcases q3 with q3 | q3
    · refine ref_Q (Or.inl q3) (by decide) (by decide) ?_
      rw [q4 q3.1, q2 (pb q3.1)]
      by_cases e : vaM (mjB tp t) = vaM (mjA t)
      · rw [decide_eq_true e, decide_eq_false (fun r => r e)]; rfl
      · rw [decide_eq_false e, decide_eq_true e]; rfl
    · rw [rfs_bad q3.1, ned_bad q3.2.1]
      exact Or.inr q3
  obtain ⟨q5, q6⟩ := num_Q (s := rfs (decide (vaN 0 (joB tp s) = vaN 0 (joA tp s))) 4 (joB tp s)) 0 15 (next_Q qm)
  have q5 : QT (joC tp s) (mjC tp t) := q5
  have q6 : (joC tp s).1 = 0 → vaN 0 (joC tp s) = vaM (mjC tp t) := q6
  have pc : (joC tp s).1 = 0 → (joB tp s).1 = 0 := fun q => (rfs_0 (by decide) (rd_0 (tkN_0 (show (tkN tp 0 15 (rfs (decide (vaN 0 (joB tp s) = vaN 0 (joA tp s))) 4 (joB tp s))).1 = 0 from q)).1)).1
  unfold mjT
  refine ⟨next_Q ?_, fun q => ?_⟩
  · rcases q5 with q5 | q5
    · refine ref_Q (Or.inl q5) (by decide) (by decide) ?_
      rw [q6 q5.1, q4 (pc q5.1), q2 (pb (pc q5.1))]
      by_cases e : vaM (mjC tp t) = vaM (mjA t) ∨ vaM (mjC tp t) = vaM (mjB tp t)
      · rw [decide_eq_true e, decide_eq_false (fun r => e.elim r.1 r.2)]; rfl
      · rw [decide_eq_false e, decide_eq_true ⟨fun r => e (Or.inl r), fun r => e (Or.inr r)⟩]; rfl
    · rw [rfs_bad q5.1, ned_bad q5.2.1]
      exact Or.inr q5
  · have r1 := (ned_0 (by decide) (rdM_0 q)).1
    have c0 := (Q_0 q5).mpr r1
    unfold mjD joD
    rw [q6 c0, q4 (pc c0), q2 (pb (pc c0))]
