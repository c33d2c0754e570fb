/-! SEARCH: all the reference's rows -/
def HH (R : Rl) (g : Nat) (st : WW → Bool) (am : WW → Nat) (k : Nat) (W : WW) (pre : List Nat) (x : Nat) : List (List Nat) := if free R.1 g x && st (handF R g x W) then wds R g st (gdA am) k (handF R g x W) (pre ++ [x]) else []
theorem HH_free {R : Rl} {g : Nat} {st : WW → Bool} {am : WW → Nat} {k : Nat} {W : WW} {pre : List Nat} {x : Nat} (h : free R.1 g x = false) : HH R g st am k W pre x = [] := if_neg (by rw [h, Bool.false_and]; decide)
theorem fl_s (h : Nat → List (List Nat)) {i : Nat} : fl h (i + 1) = h (15 - (i + 1)) ++ fl h i := by
  rw [show 15 - (i + 1) = 14 - i by omega]; rfl
theorem push_ns {stp : Bool} {a : Ac} {w : List Nat} (h : ¬ (stp = true ∧ 0 < a.1)) : pall stp a [w] = push false a w := by
  show push stp a w = push false a w
  unfold push
  have h2 : ¬ (stp && decide (0 < a.1)) = true := fun q => by
    rw [Bool.and_eq_true] at q
    exact h ⟨q.1, of_decide_eq_true q.2⟩
  have h3 : ¬ (false && decide (0 < a.1)) = true := by rw [Bool.false_and]; decide
  rw [if_neg h2, if_neg h3]
theorem pall_st {stp : Bool} {a : Ac} (h : stp = true ∧ 0 < a.1) (l : List (List Nat)) : pall stp a l = a := by
  rw [h.1]; exact pall_stop h.2 l
theorem mf_mono {d c k : Nat} (h : mf (d + 1) c k) : mf d c k := by
  unfold mf mg mk ar at *
  omega
theorem m_L73 (n : Nat) (hn : 61 ≤ n) {S : Ab} (hS : Ok S) {v : Nat → Int32} {am : WW → Nat} {st : WW → Bool}
    (hG : ∀ M W L, L < 10 → Kr S v M → OkW W → LyM M 15 (60 * L) W → X_Model_isGood n (nI L) M = some (if am W = 0 then 1 else 0, M))
    (hT : ∀ M W L, L < 10 → Kr S v M → OkW W → LyM M 15 (60 * L) W → X_Model_isStill n (nI L) M = some (if st W then 1 else 0, M))
    {N : Nat} (hN : N ≤ 4) {p2 : Int32} {stp : Bool} (hp : p2 = 0 ↔ stp = false) : ∀ k d, d + k + 1 = N → ∀ (J j : Nat) (M : Mem) (W : WW) (pre : List Nat) (a : Ac), j ≤ J → j ≤ 15 → (j = 0 ∨ free S.R.1 S.A.gl (15 - j) = true) → Kr S v M → OkW W → LyM M 15 (60 * d) W → pre.length = d → (∀ x ∈ pre, x < 15) → Dg M pre → M.1 17 d = nI (15 - j) → RA M a → ¬ (stp = true ∧ 0 < a.1) → a.1 + j * 15 ^ k < 2 ^ 31 →
    ∃ c d' M', c ≤ j * Tc k ∧ (∀ m, X_Model_layRows_L73 n (nI N) p2 (m + c) (nI d) M = X_Model_layRows_L73 n (nI N) p2 m d' M') ∧ Fr (mf d) M M' ∧ RA M' (pall stp a (fl (HH S.R S.A.gl st am k W pre) j)) ∧ (¬ (stp = true ∧ 0 < (pall stp a (fl (HH S.R S.A.gl st am k W pre) j)).1) → d' = nI d ∧ M'.1 17 d = nI 15) := by
  intro k
  induction k using Nat.strongRecOn with
  | ind k ihk =>
  intro d hd J
  have d4 : d < 4 := by omega
  induction J with
  | zero =>
    intro j M W pre a hj h15 hf hM hW hL hpl hpx hD h17 hA hs hb
    obtain rfl : j = 0 := by omega
    exact ⟨0, nI d, M, by omega, fun m => rfl, Fr.rf, hA, fun _ => ⟨rfl, h17⟩⟩
  | succ J ihJ =>
    intro j M W pre a hj h15 hf hM hW hL hpl hpx hD h17 hA hs hb
    by_cases j0 : j = 0
    · subst j0
      exact ⟨0, nI d, M, by omega, fun m => rfl, Fr.rf, hA, fun _ => ⟨rfl, h17⟩⟩
    obtain ⟨i, rfl⟩ : ∃ i, j = i + 1 := ⟨j - 1, by omega⟩
    have hfr := hf.resolve_left j0
    have x15 : 15 - (i + 1) < 15 := by omega
    generalize hx : 15 - (i + 1) = x at hfr x15 h17
    have mgS : ∀ c k, mg d c k → mS c k ∧ ¬ (c = 0 ∧ 38 ≤ k ∧ k ≤ 42) := fun c k q => mf_S (d := d) (Or.inl q)
    have mfS : ∀ c k, mf d c k → mS c k ∧ ¬ (c = 0 ∧ 38 ≤ k ∧ k ≤ 42) := fun c k q => mf_S q
    obtain ⟨M2, g1, g2, g3⟩ := m_hand1 n hn hS hM.1 d4 hfr x15 hW hL h17
    have hK2 : Kr S v M2 := hM.fr hS mgS g2
    have hW2 : OkW (handF S.R S.A.gl x W) := hW.hand hS.hR _ _
    have f2 : Fr (mf d) M M2 := g2.mono (fun c k q => Or.inl q)
    have e17 : M2.1 17 d = nI x := by rw [(g2 17 d (fun q => by unfold mg mk at q; omega)).1]; exact h17
    have hA2 : RA M2 a := hA.fr g2 (fun k h1 h2 q => by unfold mg mk at q; omega) (fun k q => by unfold mg mk at q; omega)
    have hD2 : Dg M2 pre := hD.fr g2 (fun k h1 q => by unfold mg mk at q; omega)
    have hcond : p2 = 0 ∨ ¬ 0 < M.1 0 43 := by
      cases es : stp with
      | false => exact Or.inl (hp.mpr es)
      | true =>
        right
        have : a.1 = 0 := by
          have : ¬ 0 < a.1 := fun q => hs ⟨es, q⟩
          omega
        rw [hA.1, this]
        decide
    have step : ∀ m, X_Model_layRows_L73 n (nI N) p2 (m + 1) (nI d) M = lrThen n (nI N) p2 m (nI d) (if st (handF S.R S.A.gl x W) then 1 else 0) M2 := fun m => by
      rw [L73_go (by omega) hcond]
      unfold lrK
      rw [gd_in (v4 d4), nI_clamp (by omega), h17, if_neg (show ¬ nI x = 15 from fun q => by have := (nI_eq (b := 15) (by omega) (by decide)).mp q; omega)]
      unfold lrDo
      refine (g1 (fun M14 => bd (X_Model_isStill n (nI d + 1) M14) fun r15 M16 => lrThen n (nI N) p2 m (nI d) r15 M16)).trans ?_
      rw [nI_1, hT M2 _ (d + 1) (by omega) hK2 hW2 g3]
      rfl
    have hcnt : (HH S.R S.A.gl st am k W pre x).length ≤ 15 ^ k := by
      unfold HH
      split
      · exact wds_cnt _ _ _
      · exact Nat.zero_le _
    have e1 : fl (HH S.R S.A.gl st am k W pre) (i + 1) = HH S.R S.A.gl st am k W pre x ++ fl (HH S.R S.A.gl st am k W pre) i := by rw [fl_s, hx]
    have hle : (i + 1) * 15 ^ k = i * 15 ^ k + 15 ^ k := Nat.succ_mul _ _
    rw [e1, pall_app]
    have nxt : ∀ M3 a3 c3, Fr (mf d) M M3 → pall stp a (HH S.R S.A.gl st am k W pre x) = a3 → RA M3 a3 → M3.1 17 d = nI x → (∀ m, X_Model_layRows_L73 n (nI N) p2 (m + c3) (nI d) M = lrNext n (nI N) p2 m (nI d) M3) → c3 ≤ Tc k →
        ∃ c d' M', c ≤ (i + 1) * Tc k ∧ (∀ m, X_Model_layRows_L73 n (nI N) p2 (m + c) (nI d) M = X_Model_layRows_L73 n (nI N) p2 m d' M') ∧ Fr (mf d) M M' ∧ RA M' (pall stp (pall stp a (HH S.R S.A.gl st am k W pre x)) (fl (HH S.R S.A.gl st am k W pre) i)) ∧ (¬ (stp = true ∧ 0 < (pall stp (pall stp a (HH S.R S.A.gl st am k W pre x)) (fl (HH S.R S.A.gl st am k W pre) i)).1) → d' = nI d ∧ M'.1 17 d = nI 15) := by
      intro M3 a3 c3 f3 ea hA3 h3 hst hc3
      rw [ea]
      have hK3 : Kr S v M3 := hM.fr hS mfS f3
      obtain ⟨i', b1, b2, b3, b4⟩ := m_adv n (by omega) hS hK3 d4 (j := i) (by omega) (by rw [hx]; exact h3)
      have eN : ∀ m, lrNext n (nI N) p2 m (nI d) M3 = X_Model_layRows_L73 n (nI N) p2 m (nI d) (si M3 17 d (nI (15 - i'))) := fun m => by
        unfold lrNext
        refine (b4 (fun r M => X_Model_layRows_L73 n (nI N) p2 m (nI d) (si M 17 ((nI d).toNatClampNeg) r))).trans ?_
        rw [nI_clamp (by omega)]
      have f4 : Fr (mf d) M3 (si M3 17 d (nI (15 - i'))) := Fr.si (Or.inr (Or.inl ⟨rfl, Nat.le_refl _⟩))
      have hA4 : RA (si M3 17 d (nI (15 - i'))) a3 := hA3.fr (P := fun c _ => c = 17) (Fr.si rfl) (fun k _ _ q => absurd q (by decide)) (fun k q => absurd q (by decide))
      by_cases hs3 : stp = true ∧ 0 < a3.1
      · refine ⟨c3, nI d, _, ?_, fun m => (hst m).trans (eN m), f3.trans f4, ?_, fun q => ?_⟩
        · rw [Nat.succ_mul]; omega
        · rw [pall_st hs3]; exact hA4
        · rw [pall_st hs3] at q
          exact absurd hs3 q
      · have hf5 := f3.trans f4
        have hb3 : a3.1 ≤ a.1 + 15 ^ k := by
          rw [← ea]
          have := (pall_ge (stp := stp) (HH S.R S.A.gl st am k W pre x) a).2
          omega
        have hb4 : i' * 15 ^ k ≤ i * 15 ^ k := Nat.mul_le_mul_right _ b1
        obtain ⟨c, d', M', c1, c2, c3', c4, c5⟩ := ihJ i' (si M3 17 d (nI (15 - i'))) W pre a3 (by omega) (by omega) b2 (hM.fr hS mfS hf5) hW (hL.fr hW hf5 (fun k h1 h2 q => by unfold mf mg mk ar at q; omega)) hpl hpx (hD.fr hf5 (fun k h1 q => by unfold mf mg mk ar at q; omega)) (si_at _ _ _ _) hA4 hs3 (by omega)
        rw [← b3 _ (fun x _ h => HH_free h)] at c4 c5
        refine ⟨c + c3, d', M', ?_, fun m => ?_, hf5.trans c3', c4, c5⟩
        · rw [Nat.succ_mul]
          have := Nat.mul_le_mul_right (Tc k) b1
          omega
        · rw [← Nat.add_assoc, hst, eN, c2]
    cases es : st (handF S.R S.A.gl x W) with
    | false =>
      have eH : HH S.R S.A.gl st am k W pre x = [] := if_neg (by rw [es]; simp)
      refine nxt M2 a 1 f2 (by rw [eH]; rfl) hA2 e17 (fun m => ?_) (by cases k <;> simp only [Tc] <;> omega)
      rw [step, es]
      rfl
    | true =>
      have eH : HH S.R S.A.gl st am k W pre x = wds S.R S.A.gl st (gdA am) k (handF S.R S.A.gl x W) (pre ++ [x]) := if_pos (by rw [es, hfr]; rfl)
      have hl1 : (pre ++ [x]).length = d + 1 := by rw [List.length_append, hpl]; rfl
      have hpx1 : ∀ y ∈ pre ++ [x], y < 15 := fun y hy => by
        rcases List.mem_append.mp hy with q | q
        · exact hpx y q
        · rw [List.mem_singleton.mp q]; exact x15
      have hD3 : Dg M2 (pre ++ [x]) := hD2.snoc (by rw [hpl]; exact e17)
      rcases Nat.eq_zero_or_pos k with e | e
      · subst e
        have eN : N = d + 1 := by omega
        have st2 : ∀ m, X_Model_layRows_L73 n (nI N) p2 (m + 1) (nI d) M = lrGood n (nI N) p2 m (nI d) 1 M2 := fun m => by
          rw [step, es]
          unfold lrThen
          rw [nI_1, if_pos (nI_le (a := N) (b := d + 1) (by omega) (by omega))]
          rfl
        have eg := hG M2 _ (d + 1) (by omega) hK2 hW2 g3
        by_cases ea : am (handF S.R S.A.gl x W) = 0
        · have ew : HH S.R S.A.gl st am 0 W pre x = [pre ++ [x]] := by
            rw [eH]
            exact if_pos (decide_eq_true ea)
          obtain ⟨M3, b1, b2, b3⟩ := m_aRow n (by omega) (w := pre ++ [x]) (by omega) hpx1 hD3 hA2 (by omega)
          refine nxt M3 (push false a (pre ++ [x])) 1 (f2.trans (b3.mono (fun c k q => Or.inr (Or.inr q)))) (by rw [ew]; exact push_ns hs) b2 (by rw [(b3 17 d (fun q => by unfold ar at q; omega)).1]; exact e17) (fun m => ?_) (Nat.le_refl _)
          rw [st2]
          unfold lrGood
          rw [nI_1, eg, if_pos ea, if_neg (by decide), bd_ret]
          rw [if_neg (by decide), show nI N = nI (pre ++ [x]).length by rw [hl1, eN], b1]
          rfl
        · have ew : HH S.R S.A.gl st am 0 W pre x = [] := by
            rw [eH]
            exact if_neg (fun q => ea (of_decide_eq_true q))
          refine nxt M2 a 1 f2 (by rw [ew]; rfl) hA2 e17 (fun m => ?_) (Nat.le_refl _)
          rw [st2]
          unfold lrGood
          rw [nI_1, eg, if_neg ea, if_neg (by decide), bd_ret]
          rfl
      · obtain ⟨k, rfl⟩ : ∃ q, k = q + 1 := ⟨k - 1, by omega⟩
        obtain ⟨j1, q1, q2, q3, q4⟩ := m_freeFrom n (by omega) hS.hR hK2.1.c hK2.2.1 hS.gl (j := 15) (Nat.le_refl _)
        have f3 : Fr (mf d) M2 (si M2 17 (d + 1) (nI (15 - j1))) := Fr.si (Or.inr (Or.inl ⟨rfl, by omega⟩))
        have f17 : Fr (fun c k => c = 17 ∧ k = d + 1) M2 (si M2 17 (d + 1) (nI (15 - j1))) := Fr.si ⟨rfl, rfl⟩
        have hp15 : 15 ^ (k + 1) = 15 * 15 ^ k := by rw [Nat.pow_succ, Nat.mul_comm]
        have hj15 : j1 * 15 ^ k ≤ 15 * 15 ^ k := Nat.mul_le_mul_right _ q2
        have hTj : j1 * Tc k ≤ 15 * Tc k := Nat.mul_le_mul_right _ q2
        obtain ⟨c1, d1, M4, r1, r2, r3, r4, r5⟩ := ihk k (by omega) (d + 1) (by omega) j1 j1 (si M2 17 (d + 1) (nI (15 - j1))) (handF S.R S.A.gl x W) (pre ++ [x]) a (Nat.le_refl _) q2 q3 (hK2.fr hS mfS f3) hW2 (g3.fr hW2 f17 (fun k h1 h2 q => absurd q.1 (by decide))) hl1 hpx1 (hD3.fr f17 (fun k h1 q => by omega)) (si_at _ _ _ _) (hA2.fr f17 (fun k h1 h2 q => absurd q.1 (by decide)) (fun k q => absurd q.1 (by decide))) hs (by omega)
        rw [← q4 _ (fun x _ h => HH_free h)] at r4 r5
        have e15 : fl (HH S.R S.A.gl st am k (handF S.R S.A.gl x W) (pre ++ [x])) 15 = HH S.R S.A.gl st am (k + 1) W pre x := eH.symm
        rw [e15] at r4 r5
        have f4 : Fr (mf d) M M4 := (f2.trans f3).trans (r3.mono (fun c k q => mf_mono q))
        have st2 : ∀ m, X_Model_layRows_L73 n (nI N) p2 (m + (c1 + 1)) (nI d) M = X_Model_layRows_L73 n (nI N) p2 m d1 M4 := fun m => by
          rw [← Nat.add_assoc, step, es, ← r2]
          unfold lrThen
          rw [nI_1, if_neg (by decide), if_neg (nI_ge (a := d + 1) (b := N) (by omega) (by omega)), show X_Model_freeFrom n 0 M2 = some (nI (15 - j1), M2) from q1, bd_ret, gd_in (v4 (by omega)), nI_clamp (by omega)]
        by_cases hs3 : stp = true ∧ 0 < (pall stp a (HH S.R S.A.gl st am (k + 1) W pre x)).1
        · refine ⟨c1 + 1, d1, M4, ?_, st2, f4, ?_, fun q => ?_⟩
          · rw [Nat.succ_mul]
            simp only [Tc]
            omega
          · rw [pall_st hs3]; exact r4
          · rw [pall_st hs3] at q
            exact absurd hs3 q
        · obtain ⟨t1, t2⟩ := r5 hs3
          refine nxt M4 _ (c1 + 2) f4 rfl r4 (by rw [(r3 17 d (fun q => by unfold mf mg mk ar at q; omega)).1, (f17 17 d (fun q => by omega)).1]; exact e17) (fun m => ?_) (by simp only [Tc]; omega)
          have hc2 : p2 = 0 ∨ ¬ 0 < M4.1 0 43 := by
            cases es2 : stp with
            | false => exact Or.inl (hp.mpr es2)
            | true =>
              right
              have : (pall stp a (HH S.R S.A.gl st am (k + 1) W pre x)).1 = 0 := by
                have : ¬ 0 < (pall stp a (HH S.R S.A.gl st am (k + 1) W pre x)).1 := fun q => hs3 ⟨es2, q⟩
                omega
              rw [r4.1, this]
              decide
          rw [show m + (c1 + 2) = (m + 1) + (c1 + 1) by omega, st2, t1, L73_go (by omega) hc2]
          unfold lrK
          rw [gd_in (v4 (by omega)), nI_clamp (by omega), t2, if_pos (show nI 15 = 15 from rfl)]
          unfold lrUp
          rw [d_m1 d (by omega), if_neg (nI_pos (by omega))]
          rfl
