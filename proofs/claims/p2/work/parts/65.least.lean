/-! CALLS: fewest, lose, fits, least -/
theorem x_fewestHands (n : Nat) (hn : 20 ≤ n) {S : Ab} (hS : Ok S) {u : Nat → Int32} {am : WW → Nat} {st : WW → Bool} (hA : OkA am) (hm : amH n S u am) (hb : baH n S u st) {M : Mem} (hK : Ks S u M) (hr : rowsAt M 30 S.A.W) : ∃ r M', X_Search_fewestHands n M = some (r, M') ∧ Off xQ M M' ∧ FwR S am st 27 r M' := by
  have hW := hS.hA.1
  have he := hS.hA.2.1
  have key : st S.A.W = true → ∀ e N f M, N + e = 5 → e < f → Ks S u M → rowsAt M 30 S.A.W → (∀ j, j < N → LL S am st j = []) → ∃ r M', X_Search_fewestHands_L18 n f (nI N) M = some (r, M') ∧ Off xQ M M' ∧ FwR S am st 27 r M' := by
    intro es e
    have eL : ∀ j, LL S am st j = wds S.R S.A.gl st (gdA am) j S.A.W [] := fun j => by unfold LL; rw [es]; rfl
    induction e with
    | zero =>
      intro N f M h1 h2 hK hr hl
      obtain ⟨f, rfl⟩ : ∃ q, f = q + 1 := ⟨f - 1, by omega⟩
      refine ⟨-4, M, ?_, Off.rf, Or.inr ⟨fun j hj => hl j (by omega), rfl⟩⟩
      show (if (4 : Int32) < nI N then _ else _) = _
      rw [if_pos (show (4 : Int32) < nI N from nI_lt (a := 4) (by omega) (by omega))]
    | succ e ih =>
      intro N f M h1 h2 hK hr hl
      obtain ⟨f, rfl⟩ : ∃ q, f = q + 1 := ⟨f - 1, by omega⟩
      obtain ⟨r, M2, b1, b2, b3⟩ := x_reaches n hn hS hA hm hb N 12 0 M S.A.W [] (by omega) (by omega) hK hW he hr (fun i x h => absurd h (by simp)) rfl
      rw [Nat.zero_add] at b1
      rw [wdn_wds N S.A.W [] (fun j hj q => wds_pre j _ _ _ (by rw [← eL]; exact hl j hj)), ← eL] at b3
      have un : X_Search_fewestHands_L18 n (f + 1) (nI N) M = if r = 0 then X_Search_fewestHands_L18 n f (nI (N + 1)) M2 else some (nI N, M2) := by
        show (if (4 : Int32) < nI N then _ else bd (X_Search_reaches n 12 0 (nI N) M) fun r4 M5 => (if r4 = 0 then X_Search_fewestHands_L18 n f (nI N + 1) M5 else some (nI N, M5))) = _
        rw [if_neg (show ¬ (4 : Int32) < nI N from Int32.not_lt.mpr (nI_le (b := 4) (by omega) (by decide))), show X_Search_reaches n 12 0 (nI N) M = _ from b1, bd_ret, nI_1]
      rw [un]
      rcases b3 with ⟨b3, b4⟩ | ⟨w, t, b3, b4, b5⟩
      · rw [if_pos b4]
        obtain ⟨r, M', c1, c2, c3⟩ := ih (N + 1) f M2 (by omega) (by omega) (hK.fr b2) (rows_fr (d := 0) hr b2) (fun j hj => by
          by_cases q : j = N
          · rw [q]; exact b3
          · exact hl j (by omega))
        exact ⟨r, M', c1, b2.1.trans c2, c3⟩
      · rw [b4, if_neg i10]
        exact ⟨nI N, M2, rfl, b2.1, Or.inl ⟨N, w, t, by omega, hl, b3, rfl, b5⟩⟩
  have eb := hb M S.A.W 0 (by omega) hK hW he hr
  have un : X_Search_fewestHands n M = if (if st S.A.W then (0 : Int32) else 1) = 0 then X_Search_fewestHands_L18 n n (nI 0) M else some (-4, M) := by
    unfold X_Search_fewestHands
    rw [gd_in v07, show X_Search_isBarred n (([30, 31, 32, 33, 34, 35, 36] : List Nat).getD (0 : Int32).toNatClampNeg 0) M = _ from eb, bd_ret]
    rfl
  rw [un]
  cases es : st S.A.W with
  | false =>
    refine ⟨-4, M, rfl, Off.rf, Or.inr ⟨fun j _ => by unfold LL; rw [es]; rfl, rfl⟩⟩
  | true =>
    rw [if_pos (show (if true = true then (0 : Int32) else 1) = 0 from rfl)]
    exact key es 5 0 n M rfl (by omega) hK hr (fun j hj => absurd hj (Nat.not_lt_zero j))
theorem FwR_two {S : Ab} {am : WW → Nat} {st : WW → Bool} {c c' : Nat} {r r' : Int32} {M M' : Mem} (h : FwR S am st c r M) (h' : FwR S am st c' r' M') : (r = -4 ∧ r' = -4) ∨ ∃ N w, N ≤ 4 ∧ r = nI N ∧ r' = nI N ∧ List.length w = N ∧ ∀ i x, w[i]? = some x → M.1 c i = nI x ∧ M'.1 c' i = nI x := by
  rcases h with ⟨N, w, l, h1, h2, h3, h4, h5⟩ | ⟨h1, h2⟩
  · rcases h' with ⟨N', w', l', g1, g2, g3, g4, g5⟩ | ⟨g1, g2⟩
    · have e : N = N' := by
        rcases Nat.lt_trichotomy N N' with q | q | q
        · rw [g2 N q] at h3; exact absurd h3 (by simp)
        · exact q
        · rw [h2 N' q] at g3; exact absurd g3 (by simp)
      subst e
      rw [h3] at g3
      obtain ⟨rfl, rfl⟩ := List.cons.inj g3
      refine Or.inr ⟨N, w, h1, h4, g4, ?_, fun i x hi => ⟨h5 i x hi, g5 i x hi⟩⟩
      unfold LL at h3
      split at h3
      · have := wds_len N S.A.W [] w (by rw [h3]; exact List.mem_cons_self)
        rw [this]; exact Nat.zero_add N
      · exact absurd h3 (by simp)
    · rw [g1 N h1] at h3
      exact absurd h3 (by simp)
  · rcases h' with ⟨N', w', l', g1, g2, g3, g4, g5⟩ | ⟨g1, g2⟩
    · rw [h1 N' g1] at g3
      exact absurd g3 (by simp)
    · exact Or.inl ⟨h2, g2⟩
theorem x_areP {M : Mem} {P : Nat} (hP : P ≤ 6) (h : M.1 11 0 = nI P) (p : Int32) : X_ShakeHands_arePeople fuel p M = some (if vN p (2 ^ P) then 1 else 0, M) := by
  have hp := pw6 hP
  unfold X_ShakeHands_arePeople
  rw [x_everybody hP h, bd_ret]
  rcases i_cases p with q | ⟨k, hk, rfl⟩
  · rw [if_pos q, if_neg]
    unfold vN
    rw [decide_eq_false (Int32.not_le.mpr q), Bool.false_and]
    decide
  · rw [if_neg (nI_pos hk), vN_k (by omega) hk]
    by_cases e : k < 2 ^ P
    · rw [if_neg (Int32.not_lt.mpr (nI_le (by omega) (by omega))), decide_eq_true e]
      rfl
    · rw [if_pos (nI_lt (by omega) hk), decide_eq_false e]
      rfl
theorem m_areP (n : Nat) {M : Mem} {P : Nat} (hP : P ≤ 6) (h : M.1 0 2 = nI P) (p : Int32) : X_Model_areOnes n p M = some (if vN p (2 ^ P) then 1 else 0, M) := by
  have hp := pw6 hP
  unfold X_Model_areOnes
  rw [h, two_P hP, m_inV n (show 2 ^ P < 2 ^ 31 by omega), bd_ret, zr_b]
theorem t_cases (p : Int32) : (p < 10 ∧ ¬ (10 ≤ p ∧ p ≤ 13)) ∨ (14 ≤ p ∧ ¬ p < 10 ∧ ¬ (10 ≤ p ∧ p ≤ 13) ∧ p ≠ 0) ∨ ∃ k, k < 4 ∧ p = nI (10 + k) := by
  rcases i_cases p with q | ⟨k, hk, rfl⟩
  · have : p < 10 := Int32.lt_trans q (by decide)
    exact Or.inl ⟨this, fun r => absurd r.1 (Int32.not_le.mpr this)⟩
  · by_cases e : k < 10
    · have : nI k < 10 := nI_lt (b := 10) e (by decide)
      exact Or.inl ⟨this, fun r => absurd r.1 (Int32.not_le.mpr this)⟩
    · by_cases e2 : k < 14
      · exact Or.inr (Or.inr ⟨k - 10, by omega, by rw [show 10 + (k - 10) = k by omega]⟩)
      · have h1 : (14 : Int32) ≤ nI k := nI_le (a := 14) (by omega) hk
        refine Or.inr (Or.inl ⟨h1, Int32.not_lt.mpr (nI_le (a := 10) (by omega) hk), fun r => absurd r.2 (Int32.not_le.mpr (nI_lt (a := 13) (by omega) hk)), fun q => ?_⟩)
        have := (i_z hk).mp q
        omega
theorem x_look {S : Ab} (hS : Ok S) {M : Mem} (hM : XA M S) {t so sh ne : Nat} (ht : t < 16) (h1 : so < 64) (h2 : sh < 64) : ∃ r M', (∀ F : Int32 → Mem → Option (Int32 × Mem), (bd (X_Search_begin fuel M) fun _ M9 => bd (X_Search_aim fuel (nI t) (nI so) (nI sh) (nI ne) M9) fun _ M11 => bd (X_Search_fewestHands fuel M11) fun r12 M13 => F r12 M13) = F r M') ∧ XA M' S ∧ FwR S (amF S.R.1 t so sh) (stF S.R.1 t ne) 27 r M' := by
  obtain ⟨M9, a1, a2, a3, a4⟩ := x_begin hS hM
  have hM9 : XA M9 S := hM.off (a2.mono (fun a ha => xQ_S (xQ_of (by simp at ha; omega))))
  obtain ⟨M11, b1, b2, b3⟩ := x_aim fuel (nI t) (nI so) (nI sh) (nI ne) hM9 a3
  obtain ⟨r, M13, c1, c2, c3⟩ := x_fewestHands fuel (by decide) hS (amF_ok h1 h2) (am_k fuel (by decide) hS ht) (ba_k fuel (by decide) hS ht) b3 (a4.off b2 (by simp))
  refine ⟨r, M13, fun F => ?_, b3.1.off (c2.mono (fun a ha => xQ_S ha)), c3⟩
  rw [a1, bd_ret, b1, bd_ret, c1, bd_ret]
theorem m_look {S : Ab} (hS : Ok S) {M : Mem} (hM : MA M S) {t so ot : Nat} (ht : t < 16) (h1 : so < 64) : ∃ r M', (∀ F : Int32 → Mem → Option (Int32 × Mem), (bd (X_Model_asks fuel 0 (nI t) (nI so) (nI ot) M) fun _ M9 => bd (X_Model_fewestHands fuel M9) fun r12 M13 => F r12 M13) = F r M') ∧ MA M' S ∧ FwR S (amF S.R.1 t so 0) (stF S.R.1 t ot) 18 r M' := by
  obtain ⟨M9, a1, a2, a3⟩ := m_asks fuel 0 (nI t) (nI so) (nI ot) hS hM
  obtain ⟨r, M13, c1, c2, c3⟩ := m_fewestHands fuel (by decide) hS (gd_k0 fuel (by decide) hS ht h1) (st_k0 fuel (by decide) hS ht) a2 a3
  refine ⟨r, M13, fun F => ?_, c2, c3⟩
  rw [a1, bd_ret, c1, bd_ret]
