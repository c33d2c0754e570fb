/-! SEARCH: the reference's fewest hands -/
def LL (S : Ab) (am : WW → Nat) (st : WW → Bool) (N : Nat) : List (List Nat) := if st S.A.W then wds S.R S.A.gl st (gdA am) N S.A.W [] else []
def Sl (v : Nat → Int32) (M : Mem) : Prop := ∀ k, 39 ≤ k → k ≤ 42 → M.1 0 k = v k
def gdH (n : Nat) (S : Ab) (v : Nat → Int32) (am : WW → Nat) : Prop := ∀ M W L, L < 10 → Kr S v M → OkW W → LyM M 15 (60 * L) W → X_Model_isGood n (nI L) M = some (if am W = 0 then 1 else 0, M)
def stH (n : Nat) (S : Ab) (v : Nat → Int32) (st : WW → Bool) : Prop := ∀ M W L, L < 10 → Kr S v M → OkW W → LyM M 15 (60 * L) W → X_Model_isStill n (nI L) M = some (if st W then 1 else 0, M)
theorem Tc_le : ∀ k, k < 4 → Tc k ≤ 3857 := by decide
theorem pow15 : ∀ k, k < 4 → 15 * 15 ^ k < 2 ^ 31 := by decide
def a0 : Ac := (0, 0, 0, [])
theorem m_layRows (n : Nat) (hn : 60000 ≤ n) {S : Ab} (hS : Ok S) {v : Nat → Int32} {am : WW → Nat} {st : WW → Bool} (hG : gdH n S v am) (hT : stH n S v st) {N : Nat} (hN : N ≤ 4) {p2 : Int32} {stp : Bool} (hp : p2 = 0 ↔ stp = false) {M : Mem} (hM : MA M S) (hv : Sl v M) : ∃ M' a, X_Model_layRows n (nI N) p2 M = some (nI a.1, M') ∧ a = pall stp a0 (LL S am st N) ∧ RA M' a ∧ MA M' S ∧ Sl v M' := by
  have hg := hS.gl
  generalize hN1 : si (si (si M 0 43 0) 0 44 0) 0 45 0 = N1
  have f1 : Fr (fun c k => c = 0 ∧ 43 ≤ k ∧ k ≤ 45) M N1 := by
    rw [← hN1]
    exact ((Fr.si (by decide)).trans (Fr.si (by decide))).trans (Fr.si (by decide))
  have mN1 : MA N1 S := hM.fr hS (f1.mono (fun c k q => by unfold mS; omega))
  have e1 : X_Model_worn n N1 = some (nI S.A.gl, N1) := m_worn n (by omega) mN1.c.1 hS.p6 hS.hA.2.2.1 mN1.a.2.1
  generalize hN4 : si N1 0 38 (nI S.A.gl) = N4
  have f4 : Fr (fun c k => c = 0 ∧ 38 = k) N1 N4 := by rw [← hN4]; exact Fr.si ⟨rfl, rfl⟩
  have f6 : Fr (mh 0) N4 (cpI N4 1 0 15 (60 * 0) 60) := Fr.cpI (fun k h1 h2 => Or.inr ⟨rfl, h1, by omega⟩)
  have m4 : MA N4 S := mN1.fr hS (f4.mono (fun c k q => by unfold mS; omega))
  have r1 : RA N1 a0 := ⟨by rw [← hN1]; rfl, by rw [← hN1]; rfl, by rw [← hN1]; rfl, fun i x h => absurd h (by simp [a0])⟩
  have k4 : Kr S v N4 := ⟨m4, by rw [← hN4]; exact si_at _ _ _ _, fun k h1 h2 => by rw [(f4 0 k (fun q => by omega)).1, (f1 0 k (fun q => by omega)).1]; exact hv k h1 h2⟩
  have k6 : Kr S v (cpI N4 1 0 15 (60 * 0) 60) := k4.fr hS (fun c k q => ⟨mh_mS q, fun r => by unfold mh mk rg at q; omega⟩) f6
  have r6 : RA (cpI N4 1 0 15 (60 * 0) 60) a0 := (r1.fr f4 (fun k h1 h2 q => by omega) (fun k q => by omega)).fr f6 (fun k h1 h2 q => by unfold mh mk rg at q; omega) (fun k q => by unfold mh mk rg at q; omega)
  have l6 : LyM (cpI N4 1 0 15 (60 * 0) 60) 15 (60 * 0) S.A.W := LyM.cp m4.a.1 hS.hA.1
  have eS := hT _ _ 0 (by omega) k6 hS.hA.1 l6
  have pre : ∀ (F : Int32 → Mem → Option (Int32 × Mem)), (nm (si (si (si M 0 43 0) 0 44 0) 0 45 0) fun N1 => bd (X_Model_worn n N1) fun r2 M3 => nm (si M3 0 38 r2) fun N4 => bd (X_Model_begins n 0 N4) fun _ M6 => bd (X_Model_isStill n 0 M6) fun r7 M8 => F r7 M8) = F (if st S.A.W then 1 else 0) (cpI N4 1 0 15 (60 * 0) 60) := fun F => by
    rw [hN1]
    simp only [nm]
    rw [e1, bd_ret, hN4, show X_Model_begins n 0 N4 = some ((), cpI N4 1 0 15 (60 * 0) 60) from m_begins n (by omega) (L := 0) (by omega) N4, bd_ret, show X_Model_isStill n 0 (cpI N4 1 0 15 (60 * 0) 60) = _ from eS, bd_ret]
  generalize cpI N4 1 0 15 (60 * 0) 60 = M6 at k6 r6 l6 eS pre
  unfold X_Model_layRows
  rw [pre]
  cases es : st S.A.W with
  | false => exact ⟨M6, a0, rfl, by unfold LL; rw [es]; rfl, r6, k6.1, k6.2.2⟩
  | true =>
    have eL : LL S am st N = wds S.R S.A.gl st (gdA am) N S.A.W [] := by unfold LL; rw [es]; rfl
    rw [if_neg (by decide), eL]
    rcases Nat.eq_zero_or_pos N with e | e
    · subst e
      have eg := hG _ _ 0 (by omega) k6 hS.hA.1 l6
      rw [if_pos (show nI 0 = 0 from rfl), show X_Model_isGood n 0 M6 = _ from eg, bd_ret]
      by_cases ea : am S.A.W = 0
      · obtain ⟨M3, b1, b2, b3⟩ := m_aRow n (by omega) (w := []) (a := a0) (by decide) (fun x hx => absurd hx List.not_mem_nil) (fun i x h => absurd h (by simp)) r6 (by decide)
        have ew : wds S.R S.A.gl st (gdA am) 0 S.A.W [] = [[]] := if_pos (decide_eq_true ea)
        rw [if_pos ea, if_neg (by decide), show X_Model_aRow n 0 M6 = _ from b1, ew]
        refine ⟨M3, _, ?_, rfl, ?_, k6.1.fr hS (b3.mono (fun c k q => (mf_S (d := 0) (Or.inr (Or.inr q))).1)), fun k h1 h2 => by rw [(b3 0 k (fun q => by unfold ar at q; omega)).1]; exact k6.2.2 k h1 h2⟩
        · rw [bd_ret, b2.1, push_ns (by simp [a0])]
        · rw [push_ns (by simp [a0])]; exact b2
      · have ew : wds S.R S.A.gl st (gdA am) 0 S.A.W [] = [] := if_neg (fun q => ea (of_decide_eq_true q))
        rw [if_neg ea, ew]
        exact ⟨M6, a0, by rw [r6.1]; rfl, rfl, r6, k6.1, k6.2.2⟩
    · obtain ⟨k, rfl⟩ : ∃ q, N = q + 1 := ⟨N - 1, by omega⟩
      have k4' : k < 4 := by omega
      obtain ⟨j1, q1, q2, q3, q4⟩ := m_freeFrom n (by omega) hS.hR k6.1.c k6.2.1 hS.gl (j := 15) (Nat.le_refl _)
      rw [if_neg (fun q => by have := (i_z (k := k + 1) (by omega)).mp q; omega), show X_Model_freeFrom n 0 M6 = some (nI (15 - j1), M6) from q1, bd_ret, gd_in v04]
      have f17 : Fr (fun c k => c = 17 ∧ k = 0) M6 (si M6 17 0 (nI (15 - j1))) := Fr.si ⟨rfl, rfl⟩
      have hj15 : j1 * 15 ^ k ≤ 15 * 15 ^ k := Nat.mul_le_mul_right _ q2
      have hTj : j1 * Tc k ≤ 15 * 3857 := Nat.mul_le_mul q2 (Tc_le k k4')
      have p15 := pow15 k k4'
      obtain ⟨c, d', M4, r1', r2, r3, r4, r5⟩ := m_L73 n (by omega) hS hG hT hN hp k 0 (by omega) j1 j1 (si M6 17 0 (nI (15 - j1))) S.A.W [] a0 (Nat.le_refl _) q2 q3 (k6.fr hS (fun c k q => by unfold mS; omega) f17) hS.hA.1 (l6.fr hS.hA.1 f17 (fun k h1 h2 q => absurd q.1 (by decide))) rfl (fun x hx => absurd hx List.not_mem_nil) (fun i x h => absurd h (by simp)) (si_at _ _ _ _) (r6.fr f17 (fun k h1 h2 q => absurd q.1 (by decide)) (fun k q => absurd q.1 (by decide))) (by simp [a0]) (by show 0 + _ < _; omega)
      rw [← q4 _ (fun x _ h => HH_free h)] at r4 r5
      have e15 : fl (HH S.R S.A.gl st am k S.A.W []) 15 = wds S.R S.A.gl st (gdA am) (k + 1) S.A.W [] := rfl
      rw [e15] at r4 r5
      obtain ⟨m, hm⟩ : ∃ m, n = (m + 2) + c := ⟨n - c - 2, by omega⟩
      have fA : Fr (mf 0) M6 M4 := Fr.trans (f17.mono (fun c k q => Or.inr (Or.inl ⟨q.1, by omega⟩))) r3
      refine ⟨M4, _, ?_, rfl, r4, k6.1.fr hS (fA.mono (fun c k q => (mf_S q).1)), (k6.fr hS (fun c k q => mf_S q) fA).2.2⟩
      have e0 : X_Model_layRows_L73 n (nI (k + 1)) p2 n 0 (si M6 17 ((0 : Int32).toNatClampNeg) (nI (15 - j1))) = X_Model_layRows_L73 n (nI (k + 1)) p2 (m + 2) d' M4 := by
        rw [← r2, ← hm]
        rfl
      rw [e0, ← r4.1]
      by_cases hs3 : stp = true ∧ 0 < (pall stp a0 (wds S.R S.A.gl st (gdA am) (k + 1) S.A.W [])).1
      · rw [L73_eq]
        by_cases hd0 : d' < 0
        · rw [if_pos hd0]
        · have hlt : (0 : Int32) < M4.1 0 43 := by
            rw [r4.1]
            have h1 := (pall_ge (stp := stp) (wds S.R S.A.gl st (gdA am) (k + 1) S.A.W []) a0).2
            have h2 := wds_cnt (R := S.R) (g := S.A.gl) (st := st) (gd := gdA am) (k + 1) S.A.W []
            have h3 : 15 ^ (k + 1) = 15 * 15 ^ k := by rw [Nat.pow_succ, Nat.mul_comm]
            have h4 : a0.1 = 0 := rfl
            exact nI_lt (a := 0) hs3.2 (by omega)
          rw [if_neg hd0, if_neg (fun q => by have := hp.mp q; rw [hs3.1] at this; exact absurd this (by decide)), if_pos hlt]
      · obtain ⟨t1, t2⟩ := r5 hs3
        have hc2 : p2 = 0 ∨ ¬ 0 < M4.1 0 43 := by
          cases es2 : stp with
          | false => exact Or.inl (hp.mpr es2)
          | true =>
            right
            have : (pall stp a0 (wds S.R S.A.gl st (gdA am) (k + 1) S.A.W [])).1 = 0 := by
              have : ¬ 0 < (pall stp a0 (wds S.R S.A.gl st (gdA am) (k + 1) S.A.W [])).1 := fun q => hs3 ⟨es2, q⟩
              omega
            rw [r4.1, this]
            decide
        rw [t1, L73_go (by decide) hc2]
        unfold lrK
        rw [gd_in (v4 (by omega)), nI_clamp (by omega), t2, if_pos (show nI 15 = 15 from rfl)]
        unfold lrUp
        rw [if_pos (show nI 0 + (-1) < 0 by decide), L73_eq, if_pos (show nI 0 + (-1) < 0 by decide)]
def FwR (S : Ab) (am : WW → Nat) (st : WW → Bool) (c : Nat) (r : Int32) (M' : Mem) : Prop := (∃ N w l, N ≤ 4 ∧ (∀ j, j < N → LL S am st j = []) ∧ LL S am st N = w :: l ∧ r = nI N ∧ ∀ i x, w[i]? = some x → M'.1 c i = nI x) ∨ ((∀ j, j ≤ 4 → LL S am st j = []) ∧ r = -4)
theorem m_fewestHands (n : Nat) (hn : 60000 ≤ n) {S : Ab} (hS : Ok S) {v : Nat → Int32} {am : WW → Nat} {st : WW → Bool} (hG : gdH n S v am) (hT : stH n S v st) {M : Mem} (hM : MA M S) (hv : Sl v M) : ∃ r M', X_Model_fewestHands n M = some (r, M') ∧ MA M' S ∧ FwR S am st 18 r M' := by
  have key : ∀ e N f M, N + e = 5 → e < f → MA M S → Sl v M → (∀ j, j < N → LL S am st j = []) → ∃ r M', X_Model_fewestHands_L2 n f (nI N) M = some (r, M') ∧ MA M' S ∧ FwR S am st 18 r M' := by
    intro e
    induction e with
    | zero =>
      intro N f M h1 h2 hM hv hl
      obtain ⟨f, rfl⟩ : ∃ q, f = q + 1 := ⟨f - 1, by omega⟩
      refine ⟨-4, M, ?_, hM, Or.inr ⟨fun j hj => hl j (by omega), rfl⟩⟩
      show (if (4 : Int32) < nI N then _ else _) = _
      rw [if_pos (show (4 : Int32) < nI N from nI_lt (a := 4) (by omega) (by omega))]
    | succ e ih =>
      intro N f M h1 h2 hM hv hl
      obtain ⟨f, rfl⟩ : ∃ q, f = q + 1 := ⟨f - 1, by omega⟩
      obtain ⟨M2, a, b1, b2, b3, b4, b5⟩ := m_layRows n hn hS hG hT (N := N) (by omega) (p2 := 1) (stp := true) (by decide) hM hv
      cases eL : LL S am st N with
      | nil =>
        rw [eL] at b2
        obtain ⟨r, M', c1, c2, c3⟩ := ih (N + 1) f M2 (by omega) (by omega) b4 b5 (fun j hj => by
          by_cases q : j = N
          · rw [q]; exact eL
          · exact hl j (by omega))
        refine ⟨r, M', ?_, c2, c3⟩
        show (if (4 : Int32) < nI N then _ else bd (X_Model_layRows n (nI N) 1 M) fun r1 M2 => (if r1 ≤ 0 then X_Model_fewestHands_L2 n f (nI N + 1) M2 else _)) = _
        rw [if_neg (show ¬ (4 : Int32) < nI N from Int32.not_lt.mpr (nI_le (b := 4) (by omega) (by decide))), b1, bd_ret, b2, if_pos (show nI (pall true a0 []).1 ≤ 0 by decide), nI_1]
        exact c1
      | cons w l =>
        rw [eL, show pall true a0 (w :: l) = _ from pall_hd w l] at b2
        refine ⟨nI N, M2, ?_, b4, Or.inl ⟨N, w, l, by omega, hl, eL, rfl, ?_⟩⟩
        · show (if (4 : Int32) < nI N then _ else bd (X_Model_layRows n (nI N) 1 M) fun r1 M2 => (if r1 ≤ 0 then X_Model_fewestHands_L2 n f (nI N + 1) M2 else some (nI N, M2))) = _
          rw [if_neg (show ¬ (4 : Int32) < nI N from Int32.not_lt.mpr (nI_le (b := 4) (by omega) (by decide))), b1, bd_ret, b2, if_neg (show ¬ nI (1 : Nat) ≤ 0 by decide)]
        · intro i x hi
          rw [b2] at b3
          exact b3.2.2.2 i x hi
  exact key 5 0 n M rfl (by omega) hM hv (fun j hj => absurd hj (Nat.not_lt_zero j))
