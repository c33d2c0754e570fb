/-! CALLS: sheet, lay, end -/
theorem x_isSheet (p : Int32) (M : Mem) : X_ShakeHands_isSheet fuel p M = some (if vN p 4 then 1 else 0, M) := by
  unfold X_ShakeHands_isSheet
  rw [show (4 : Int32) = nI 4 from rfl, x_in]
  split <;> rfl
theorem x_isLane (p : Int32) (M : Mem) : X_ShakeHands_isLane fuel p M = some (if vN p 3 then 1 else 0, M) := by
  unfold X_ShakeHands_isLane
  rw [show (3 : Int32) = nI 3 from rfl, x_in]
  split <;> rfl
theorem m_isSheet (a b : Int32) (M : Mem) : X_Model_isSheet fuel a b M = some (if vN a 4 && vN b 3 then 1 else 0, M) := by
  unfold X_Model_isSheet
  have e3 := m_inV fuel (P := 4) (by decide) a M
  rw [show (nI 4 - 1 : Int32).toInt64 = 3 by decide] at e3
  have e4 := m_inV fuel (P := 3) (by decide) b M
  rw [show (nI 3 - 1 : Int32).toInt64 = 2 by decide] at e4
  rw [e3, bd_ret, e4, bd_ret]
  cases vN a 4 <;> cases vN b 3 <;> rfl
theorem sh_id {k : Nat} (hk : k < 4) : ([41, 43, 45, 47] : List Nat).getD k 0 = 41 + 2 * k := by
  match k, hk with
  | 0, _ => rfl
  | 1, _ => rfl
  | 2, _ => rfl
  | 3, _ => rfl
-- one sheet is another
def shU (k : Nat) (q : Option (Nat × Nat)) (c : Nat → Int32) (S : Ab) : Ab := (S.R, S.A, S.I, S.kp, S.tp, S.ft, S.tn, (fun j => if j = k then q else S.sh j), (fun j => if j = k then c else S.ce j))
theorem XA.newSh {M M' : Mem} {S : Ab} {k : Nat} {q : Option (Nat × Nat)} {c : Nat → Int32} (h : XA M S) (hk : k < 4) (ho : Off [41 + 2 * k, 42 + 2 * k] M M') (hs : XSh M' k c q) : XA M' (shU k q c S) := by
  have off : ∀ a, (a < 41 ∨ 49 ≤ a) → M'.1 a = M.1 a := fun a ha => (ho a (by simp; omega)).1
  refine ⟨h.c.off ho (by simp; omega), h.a.off ho (by simp; omega) (by simp; omega) (by simp; omega), fun j hj hb => (h.i j hj hb).off ho (by simp; omega) (by simp; omega) (by simp; omega), by rw [off 0 (by decide)]; exact h.kp, by rw [off 0 (by decide)]; exact h.tn, by rw [off 1 (by decide)]; exact h.tl, fun i x hx => by rw [off 2 (by decide)]; exact h.tb i x hx, by rw [off 3 (by decide)]; exact h.ft, fun j hj => ?_⟩
  show XSh M' j (if j = k then c else S.ce j) (if j = k then q else S.sh j)
  by_cases e : j = k
  · rw [if_pos e, if_pos e, e]; exact hs
  · rw [if_neg e, if_neg e]
    exact (h.sh j hj).off ho (by simp; omega) (by simp; omega)
def mSh (k : Nat) (a j : Nat) : Prop := (a = 23 ∧ j = k) ∨ (a = 24 ∧ j = k) ∨ rg 25 (40 * k) 40 a j
theorem MA.newSh {M M' : Mem} {S : Ab} {k : Nat} {q : Option (Nat × Nat)} {c : Nat → Int32} (hS : Ok S) (h : MA M S) (ho : Fr (mSh k) M M') (hs : MSh M' k c q) : MA M' (shU k q c S) := by
  refine ⟨h.c.fr ho (fun k hk => by simp only [List.mem_cons, List.not_mem_nil, or_false] at hk; unfold mSh rg; omega) (fun a k ha => by simp only [List.mem_cons, List.not_mem_nil, or_false] at ha; unfold mSh rg; omega), h.a.fr hS.hA.1 ho (fun k _ _ => by unfold mSh rg; omega), fun j hj hb => (h.i j hj hb).fr (hS.hI j hj hb).1 ho (fun k _ _ => by unfold mSh rg; omega), fun j hj => by rw [(ho 2 j (by unfold mSh rg; omega)).1]; exact h.kp j hj, by rw [(ho 0 54 (by unfold mSh rg; omega)).1]; exact h.tn, by rw [(ho 0 26 (by unfold mSh rg; omega)).1]; exact h.tl, fun i x hx => by rw [(ho 14 i (by unfold mSh rg; omega)).1]; exact h.tb i x hx, by rw [(ho 0 31 (by unfold mSh rg; omega)).1]; exact h.ft, fun j hj => ?_⟩
  show MSh M' j (if j = k then c else S.ce j) (if j = k then q else S.sh j)
  by_cases e : j = k
  · rw [if_pos e, if_pos e, e]; exact hs
  · rw [if_neg e, if_neg e]
    have := h.sh j hj
    cases hq : S.sh j with
    | none =>
      rw [hq] at this
      exact (ho 23 j (by unfold mSh rg; omega)).1.trans this
    | some q =>
      rw [hq] at this
      obtain ⟨a1, a2, a3⟩ := this
      exact ⟨(ho 23 j (by unfold mSh rg; omega)).1.trans a1, (ho 24 j (by unfold mSh rg; omega)).1.trans a2, fun i hi => (ho 25 _ (by unfold mSh rg; omega)).1.trans (a3 i hi)⟩
theorem Ok.newSh {S : Ab} {k : Nat} {q : Option (Nat × Nat)} {c : Nat → Int32} (h : Ok S) (hq : ∀ l z, q = some (l, z) → l < 3 ∧ z ≤ 40) : Ok (shU k q c S) := ⟨h.hR, h.hA, h.hI, h.hk, h.ht, h.hb, h.hf, h.hn, fun j l z hj => by
  have hj' : (if j = k then q else S.sh j) = some (l, z) := hj
  split at hj'
  · exact hq l z hj'
  · exact h.hs j l z hj'⟩
theorem le40 (p : Int32) {α : Type} (A B C : α) : (if p ≤ 40 then (if 0 ≤ p then A else B) else C) = if vN p 41 then A else if p < 0 then B else C := by
  have e : p ≤ 40 ↔ p < nI 41 := by
    rw [Int32.le_iff_toInt_le, Int32.lt_iff_toInt_lt]
    have e1 : (40 : Int32).toInt = 40 := rfl
    have e2 : (nI 41).toInt = 41 := rfl
    omega
  by_cases h : vN p 41 = true
  · have h' := h
    unfold vN at h'
    simp only [Bool.and_eq_true, decide_eq_true_eq] at h'
    rw [if_pos h, if_pos (e.mpr h'.2), if_pos h'.1]
  · rw [if_neg h]
    by_cases h0 : p < 0
    · have : p ≤ 40 := by
        rw [Int32.le_iff_toInt_le]
        rw [Int32.lt_iff_toInt_lt] at h0
        have e1 : (40 : Int32).toInt = 40 := rfl
        have e2 : (0 : Int32).toInt = 0 := rfl
        omega
      rw [if_pos this, if_neg (Int32.not_le.mpr h0), if_pos h0]
    · have : ¬ p ≤ 40 := fun q => h (by unfold vN; simp [e.mp q, Int32.not_lt.mp h0])
      rw [if_neg this, if_neg h0]
theorem sim_sheet (a0 : Int32) (a1 : Int32) (a2 : Int32) : Sm (fun M => X_ShakeHands_sheet fuel a0 a1 a2 M) (fun M => X_Model_sheet fuel a0 a1 a2 M) := by
  refine Sm_u (u := fun S => if vN a0 4 && vN a1 3 then (if vN a2 41 then (1, shU (pN a0) (some (pN a1, pN a2)) (fun _ => 0) S) else if a2 < 0 then (-14, S) else (-1, S)) else (-1, S)) (fun M S hS hM => ?_) (fun M S hS hM => ?_) (fun S hS => ?_)
  · dsimp only
    unfold X_ShakeHands_sheet
    rw [x_isSheet, bd_ret, x_isLane, bd_ret, le40]
    by_cases h : vN a0 4 = true
    · obtain ⟨h1, h2⟩ := vN_y (by decide) h
      rw [if_pos h, if_neg i10]
      by_cases h' : vN a1 3 = true
      · obtain ⟨h3, h4⟩ := vN_y (by decide) h'
        rw [if_pos h', if_neg i10, if_pos (show (vN a0 4 && vN a1 3) = true by simp [h, h'])]
        by_cases h'' : vN a2 41 = true
        · obtain ⟨h5, h6⟩ := vN_y (by decide) h''
          rw [if_pos h'', if_pos h'']
          generalize pN a0 = k at *
          generalize pN a1 = l at *
          generalize pN a2 = z at *
          subst h2 h4 h6
          rw [gd_in (vp_in_nI (by omega) (by decide)), nI_clamp (by omega), sh_id h1]
          have key : ∀ (d i f : Nat) (N : Mem), 40 - i = d → i ≤ 40 → d < f → (∀ j, j < i → N.1 (42 + 2 * k) j = 0) → ∃ M', X_Sheet_renew_L17 fuel (41 + 2 * k) f (nI i) N = some ((), M') ∧ Off [42 + 2 * k] N M' ∧ ∀ j, j < 40 → M'.1 (42 + 2 * k) j = 0 := by
            intro d
            induction d with
            | zero =>
              intro i f N g1 g2 g3 g4
              obtain ⟨f, rfl⟩ : ∃ g, f = g + 1 := ⟨f - 1, by omega⟩
              have e : i = 40 := by omega
              subst e
              refine ⟨N, ?_, Off.rf, g4⟩
              show (if (40 : Int32) ≤ nI 40 then _ else _) = _
              rw [if_pos (by decide)]
            | succ d ih =>
              intro i f N g1 g2 g3 g4
              obtain ⟨f, rfl⟩ : ∃ g, f = g + 1 := ⟨f - 1, by omega⟩
              obtain ⟨M', q1, q2, q3⟩ := ih (i + 1) f (si N (42 + 2 * k) i 0) (by omega) (by omega) (by omega) (fun j hj => by
                by_cases e : j = i
                · rw [e, si_at]
                · rw [si_ne (Or.inr e)]; exact g4 j (by omega))
              refine ⟨M', ?_, (Off.si (by simp)).trans q2, q3⟩
              show (if (40 : Int32) ≤ nI i then _ else gd (nI i) 40 (X_Sheet_renew_L17 fuel (41 + 2 * k) f (nI i + 1) (si N (41 + 2 * k + 1) (nI i).toNatClampNeg 0))) = _
              rw [if_neg (show ¬ (40 : Int32) ≤ nI i from nI_ge (b := 40) (by omega) (by decide)), gd_in (vp_in_nI (by omega) (by decide)), nI_clamp (by omega), nI_1, show 41 + 2 * k + 1 = 42 + 2 * k by omega]
              exact q1
          obtain ⟨M', q1, q2, q3⟩ := key 40 0 fuel (si (si (si M (41 + 2 * k) 0 1) (41 + 2 * k) 2 (nI l)) (41 + 2 * k) 1 (nI z)) rfl (by decide) (by decide) (fun j hj => by omega)
          have q0 : X_Sheet_renew fuel (41 + 2 * k) (nI l) (nI z) M = some ((), M') := q1
          have e41 := (q2 (41 + 2 * k) (by simp)).1
          rw [q0, bd_ret]
          refine ⟨M', rfl, hM.newSh h1 ((((Off.si (by simp)).trans (Off.si (by simp))).trans (Off.si (by simp))).trans (q2.mono (by simp))) ⟨?_, ?_, ?_, q3⟩⟩
          · rw [e41, si_ne (Or.inr (by decide)), si_ne (Or.inr (by decide)), si_at]
          · rw [e41, si_at]
          · rw [e41, si_ne (Or.inr (by decide)), si_at]
        · rw [if_neg h'', if_neg h'']
          split <;> exact ⟨M, rfl, hM⟩
      · rw [if_neg h', if_pos rfl, if_neg (show ¬ (vN a0 4 && vN a1 3) = true by simp [h'])]
        exact ⟨M, rfl, hM⟩
    · rw [if_neg h, if_pos rfl, if_neg (show ¬ (vN a0 4 && vN a1 3) = true by simp [h])]
      exact ⟨M, rfl, hM⟩
  · dsimp only
    unfold X_Model_sheet
    rw [m_isSheet, bd_ret, le40]
    by_cases h : (vN a0 4 && vN a1 3) = true
    · rw [if_pos h, if_pos h, if_neg i10]
      simp only [Bool.and_eq_true] at h
      obtain ⟨h1, h2⟩ := vN_y (by decide) h.1
      obtain ⟨h3, h4⟩ := vN_y (by decide) h.2
      by_cases h'' : vN a2 41 = true
      · obtain ⟨h5, h6⟩ := vN_y (by decide) h''
        rw [if_pos h'', if_pos h'']
        generalize pN a0 = k at *
        generalize pN a1 = l at *
        generalize pN a2 = z at *
        subst h2 h4 h6
        have hv : vp_in (nI k) 4 := vp_in_nI (by omega) (by decide)
        rw [gd_in hv, gd_in hv, nI_clamp (by omega)]
        have key : ∀ (d i f : Nat) (N : Mem), 40 - i = d → i ≤ 40 → d < f → (∀ j, j < i → N.1 25 (40 * k + j) = 0) → ∃ M', X_Model_sheet_L40 fuel (nI k) f (nI i) N = some (1, M') ∧ Fr (rg 25 (40 * k) 40) N M' ∧ ∀ j, j < 40 → M'.1 25 (40 * k + j) = 0 := by
          intro d
          induction d with
          | zero =>
            intro i f N g1 g2 g3 g4
            obtain ⟨f, rfl⟩ : ∃ g, f = g + 1 := ⟨f - 1, by omega⟩
            have e : i = 40 := by omega
            subst e
            refine ⟨N, ?_, Fr.rf, g4⟩
            show (if (40 : Int32) ≤ nI 40 then _ else _) = _
            rw [if_pos (by decide)]
          | succ d ih =>
            intro i f N g1 g2 g3 g4
            obtain ⟨f, rfl⟩ : ∃ g, f = g + 1 := ⟨f - 1, by omega⟩
            obtain ⟨M', q1, q2, q3⟩ := ih (i + 1) f (si N 25 (40 * k + i) 0) (by omega) (by omega) (by omega) (fun j hj => by
              by_cases e : j = i
              · rw [e, si_at]
              · rw [si_ne (Or.inr (by omega))]; exact g4 j (by omega))
            refine ⟨M', ?_, (Fr.si ⟨rfl, by omega, by omega⟩).trans q2, q3⟩
            show (if (40 : Int32) ≤ nI i then _ else gd (((40 : Int32) * nI k) + nI i) 160 (X_Model_sheet_L40 fuel (nI k) f (nI i + 1) (si N 25 (((40 : Int32) * nI k) + nI i).toNatClampNeg 0))) = _
            rw [if_neg (show ¬ (40 : Int32) ≤ nI i from nI_ge (b := 40) (by omega) (by decide)), show (40 : Int32) = nI 40 from rfl, pk_mul, nI_add, gd_in (vp_in_nI (by omega) (by decide)), nI_clamp (by omega), nI_1]
            exact q1
        obtain ⟨M', q1, q2, q3⟩ := key 40 0 fuel (si (si M 23 k (nI l)) 24 k (nI z)) rfl (by decide) (by decide) (fun j hj => by omega)
        refine ⟨M', q1, hM.newSh hS (((Fr.si (Or.inl ⟨rfl, rfl⟩)).trans (Fr.si (Or.inr (Or.inl ⟨rfl, rfl⟩)))).trans (q2.mono (fun _ _ h => Or.inr (Or.inr h)))) ⟨?_, ?_, q3⟩⟩
        · rw [(q2 23 k (by unfold rg; omega)).1, si_ne (Or.inl (by decide)), si_at]
        · rw [(q2 24 k (by unfold rg; omega)).1, si_at]
      · rw [if_neg h'', if_neg h'']
        split <;> exact ⟨M, rfl, hM⟩
    · rw [if_neg h, if_neg h, if_pos rfl]
      exact ⟨M, rfl, hM⟩
  · split
    · next h =>
      simp only [Bool.and_eq_true] at h
      obtain ⟨h3, h4⟩ := vN_y (by decide) h.2
      split
      · next h'' =>
        obtain ⟨h5, h6⟩ := vN_y (by decide) h''
        exact hS.newSh (fun l z hq => by cases hq; exact ⟨h3, by omega⟩)
      · split <;> exact hS
    · exact hS
theorem x_fault {M : Mem} {S : Ab} (hS : Ok S) (hM : XA M S) {k : Nat} (hk : k < 4) (p : Int32) : X_Sheet_faultAt fuel (41 + 2 * k) p M = some (match S.sh k with | none => 1 | some q => if vN p q.2 then 0 else 2, M) := by
  have hs := hM.sh k hk
  unfold X_Sheet_faultAt
  cases hq : S.sh k with
  | none =>
    rw [hq] at hs
    have hs : M.1 (41 + 2 * k) 0 = 0 := hs
    rw [if_pos hs]
  | some q =>
    obtain ⟨l, z⟩ := q
    rw [hq] at hs
    obtain ⟨s1, s2, s3, s4⟩ := hs
    have s1 : M.1 (41 + 2 * k) 0 = 1 := s1
    rw [s1, if_neg i10, s2]
    show _ = some (if vN p z then 0 else 2, M)
    by_cases h : vN p z = true
    · have h' := h
      unfold vN at h'
      simp only [Bool.and_eq_true, decide_eq_true_eq] at h'
      rw [if_pos h, if_neg (Int32.not_lt.mpr h'.1), if_pos h'.2]
    · rw [if_neg h]
      rcases vN_n h with h1 | h1
      · rw [if_pos h1]
      · by_cases h2 : p < 0
        · rw [if_pos h2]
        · rw [if_neg h2, if_neg (Int32.not_lt.mpr h1)]
theorem x_fault_none {M : Mem} {S : Ab} (hS : Ok S) (hM : XA M S) {k : Nat} (hk : k < 4) (hq : S.sh k = none) (p : Int32) : X_Sheet_faultAt fuel (41 + 2 * k) p M = some (1, M) := by
  rw [x_fault hS hM hk, hq]
theorem x_fault_in {M : Mem} {S : Ab} (hS : Ok S) (hM : XA M S) {k l z : Nat} (hk : k < 4) (hq : S.sh k = some (l, z)) {p : Int32} (hv : vN p z = true) : X_Sheet_faultAt fuel (41 + 2 * k) p M = some (0, M) := by
  rw [x_fault hS hM hk, hq]
  show some (if vN p z then (0 : Int32) else 2, M) = _
  rw [if_pos hv]
theorem x_fault_out {M : Mem} {S : Ab} (hS : Ok S) (hM : XA M S) {k l z : Nat} (hk : k < 4) (hq : S.sh k = some (l, z)) {p : Int32} (hv : ¬ vN p z = true) : X_Sheet_faultAt fuel (41 + 2 * k) p M = some (2, M) := by
  rw [x_fault hS hM hk, hq]
  show some (if vN p z then (0 : Int32) else 2, M) = _
  rw [if_neg hv]
theorem sim_end (a0 : Int32) : Sm (fun M => X_ShakeHands_end fuel a0 M) (fun M => X_Model_end fuel a0 M) := by
  refine Sm_u (u := fun S => if vN a0 (S.tp.length + 1) then (nI S.tp.length, (S.R, S.A, S.I, S.kp, S.tp.take (pN a0), S.ft, S.tn, S.sh, S.ce)) else (-1, S)) (fun M S hS hM => ?_) (fun M S hS hM => ?_) (fun S hS => ?_)
  · dsimp only
    have ht := hS.ht
    unfold X_ShakeHands_end
    have e : a0 ≤ M.1 1 1 ↔ ¬ nI (S.tp.length + 1) ≤ a0 := by
      rw [hM.tl, Int32.le_iff_toInt_le, Int32.le_iff_toInt_le, nI_toInt (by omega), nI_toInt (by omega)]
      omega
    have un : (if a0 < 0 then some (-1, M) else if a0 ≤ M.1 1 1 then nm (M.1 1 1) (fun x1 => some (x1, si M 1 1 a0)) else some (-1, M)) = if vN a0 (S.tp.length + 1) then some (nI S.tp.length, si M 1 1 a0) else some (-1, M) := by
      rw [← x_in]
      by_cases h : a0 < 0
      · rw [if_pos h, if_pos h]
      · rw [if_neg h, if_neg h]
        by_cases h2 : a0 ≤ M.1 1 1
        · rw [if_pos h2, if_neg (e.mp h2), hM.tl]; rfl
        · rw [if_neg h2, if_pos (Decidable.of_not_not (fun q => h2 (e.mpr q)))]
    rw [un]
    by_cases h : vN a0 (S.tp.length + 1) = true
    · obtain ⟨h1, h2⟩ := vN_y (by omega) h
      rw [if_pos h, if_pos h]
      generalize pN a0 = k at *
      subst h2
      have hf : Off [1] M (si M 1 1 (nI k)) := Off.si (by simp)
      refine ⟨_, rfl, hM.c.off hf (by decide), hM.a.off hf (by decide) (by decide) (by decide), fun j hj hb => (hM.i j hj hb).off hf (fun q => by have := List.mem_singleton.mp q; omega) (fun q => by have := List.mem_singleton.mp q; omega) (fun q => by have := List.mem_singleton.mp q; omega), hM.kp, hM.tn, ?_, fun i x hx => ?_, hM.ft, fun j hj => (hM.sh j hj).off hf (fun q => by have := List.mem_singleton.mp q; omega) (fun q => by have := List.mem_singleton.mp q; omega)⟩
      · rw [si_at]
        show nI k = nI (S.tp.take k).length
        rw [List.length_take, Nat.min_eq_left (by omega)]
      · refine hM.tb i x ?_
        have hx' : (S.tp.take k)[i]? = some x := hx
        rw [List.getElem?_take] at hx'
        split at hx'
        · exact hx'
        · cases hx'
    · rw [if_neg h, if_neg h]
      exact ⟨M, rfl, hM⟩
  · dsimp only
    have ht := hS.ht
    unfold X_Model_end
    have e3 := m_inV fuel (P := S.tp.length + 1) (by omega) a0 M
    rw [show nI (S.tp.length + 1) - 1 = nI S.tp.length from pk_sub (b := 1) (by omega)] at e3
    rw [hM.tl, e3, bd_ret]
    by_cases h : vN a0 (S.tp.length + 1) = true
    · obtain ⟨h1, h2⟩ := vN_y (by omega) h
      rw [if_pos h, if_pos h, if_neg i10]
      generalize pN a0 = k at *
      subst h2
      unfold nm
      dsimp only
      rw [hM.tl]
      have hf : Fr (fun a j => a = 0 ∧ j = 26) M (si M 0 26 (nI k)) := Fr.si ⟨rfl, rfl⟩
      refine ⟨_, rfl, hM.c.fr hf (fun k hk => by simp only [List.mem_cons, List.not_mem_nil, or_false] at hk; omega) (fun a k ha => by simp only [List.mem_cons, List.not_mem_nil, or_false] at ha; omega), hM.a.fr hS.hA.1 hf (fun k _ _ => by omega), fun j hj hb => (hM.i j hj hb).fr (hS.hI j hj hb).1 hf (fun k _ _ => by omega), hM.kp, hM.tn, ?_, fun i x hx => ?_, hM.ft, fun j hj => (hM.sh j hj).fr hf (fun a i _ _ => by omega)⟩
      · rw [si_at]
        show nI k = nI (S.tp.take k).length
        rw [List.length_take, Nat.min_eq_left (by omega)]
      · refine hM.tb i x ?_
        have hx' : (S.tp.take k)[i]? = some x := hx
        rw [List.getElem?_take] at hx'
        split at hx'
        · exact hx'
        · cases hx'
    · rw [if_neg h, if_neg h, if_pos rfl]
      exact ⟨M, rfl, hM⟩
  · split
    · refine ⟨hS.hR, hS.hA, hS.hI, hS.hk, ?_, fun x hx => hS.hb x (List.mem_of_mem_take hx), hS.hf, hS.hn, hS.hs⟩
      have := hS.ht
      show (S.tp.take (pN a0)).length ≤ 320
      rw [List.length_take]
      omega
    · exact hS
