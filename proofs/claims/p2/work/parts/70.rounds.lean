/-! SEARCH: the reference's rounds -/
theorem m_isRound_L (n : Nat) {M : Mem} {R : Rl} (hR : OkR R) (hC : MC M R) {g m : Nat} (h38 : M.1 0 38 = nI g) (hg : g < 64) (hm : m < 2 ^ 15) (kx : Mem → Option (Int32 × Mem)) : ∀ j b f, j ≤ 15 → j < f → b < 64 → X_Model_isRound_L4 n (nI m) kx f (nI b) (nI (15 - j)) M = if isRd R.1 g m j b then kx M else some (0, M) := by
  intro j
  induction j with
  | zero =>
    intro b f h1 h2 hb
    obtain ⟨f, rfl⟩ : ∃ q, f = q + 1 := ⟨f - 1, by omega⟩
    show (if (15 : Int32) ≤ nI 15 then _ else _) = _
    rw [if_pos (by decide)]
    rfl
  | succ j ih =>
    intro b f h1 h2 hb
    obtain ⟨f, rfl⟩ : ∃ q, f = q + 1 := ⟨f - 1, by omega⟩
    have hx : 14 - j < 15 := by omega
    obtain ⟨c1, c2⟩ := hC.2.2.2.2.2.2.2.2 (14 - j) hx
    obtain ⟨p1, p2, -, -, -⟩ := les_gre (14 - j) hx
    rw [show 15 - (j + 1) = 14 - j by omega]
    show (if (15 : Int32) ≤ nI (14 - j) then _ else nm (fun (z1 : Int32) (M2 : Mem) => (X_Model_isRound_L4 n (nI m) kx f z1 (nI (14 - j) + 1) M2 : Option (Int32 × Mem))) fun k60 => (if ((nI m >>> (nI (14 - j) &&& 31)) &&& 1) = 1 then gd (nI (14 - j)) 15 (gd (nI (14 - j)) 15 (nm (((1 : Int32) <<< ((M.1 6 (nI (14 - j)).toNatClampNeg) &&& 31)) ||| ((1 : Int32) <<< ((M.1 7 (nI (14 - j)).toNatClampNeg) &&& 31))) fun x3 => bd (X_Model_isFreePair n (nI (14 - j)) M) fun r4 M5 => (if r4 = 0 then some (0, M5) else (if (nI b &&& x3) = 0 then nm (nI b ||| x3) fun x6 => k60 x6 M5 else some (0, M5))))) else k60 (nI b) M)) = _
    simp only [nm]
    rw [if_neg (show ¬ (15 : Int32) ≤ nI (14 - j) from nI_ge (b := 15) hx (by decide)), gd_in (v15 hx), gd_in (v15 hx), nI_clamp (show 14 - j < 2 ^ 31 by omega), c1, c2, i_shl1 (by omega), i_shl1 (by omega), i_or, i_or, m_isFreePair n hR hC h38 hg hx, bd_ret, b_is (by omega) (by omega), nI_1, show 14 - j + 1 = 15 - j by omega]
    unfold isRd
    cases e : m.testBit (14 - j) with
    | false =>
      rw [if_neg (show ¬ nI (if false = true then 1 else 0) = 1 by decide), if_neg Bool.false_ne_true]
      exact ih b f (by omega) (by omega) hb
    | true =>
      rw [if_pos (show nI (if true = true then 1 else 0) = 1 from rfl), if_pos rfl]
      cases e1 : free R.1 g (14 - j) with
      | false => rfl
      | true =>
        rw [if_neg (show ¬ (if true = true then (1 : Int32) else 0) = 0 by decide), Bool.true_and]
        by_cases e2 : b &&& two_ (14 - j) = 0
        · rw [if_pos (show nI b &&& nI (2 ^ les (14 - j) ||| 2 ^ gre (14 - j)) = 0 from (and_i0 hb).mpr e2), decide_eq_true e2, Bool.true_and]
          exact ih _ f (by omega) (by omega) (Nat.or_lt_two_pow (n := 6) hb (two_lt _ hx))
        · rw [if_neg (show ¬ nI b &&& nI (2 ^ les (14 - j) ||| 2 ^ gre (14 - j)) = 0 from fun q => e2 ((and_i0 hb).mp q)), decide_eq_false e2, Bool.false_and, if_neg Bool.false_ne_true]
theorem m_isRound (n : Nat) (hn : 20 ≤ n) {M : Mem} {R : Rl} (hR : OkR R) (hC : MC M R) {g m : Nat} (h38 : M.1 0 38 = nI g) (hg : g < 64) (hm : m < 2 ^ 15) (h0 : m ≠ 0) : X_Model_isRound n (nI m) M = some (if vld R.1 g m then 1 else 0, M) := by
  unfold X_Model_isRound
  refine (m_isRound_L n hR hC h38 hg hm _ 15 0 n (Nat.le_refl _) (by omega) (by decide)).trans ?_
  unfold vld
  rw [decide_eq_true h0, Bool.true_and, if_neg (fun q => h0 ((i_z (show m < 2 ^ 31 by omega)).mp q))]
  cases isRd R.1 g m 15 0 <;> rfl
def Vr (M : Mem) (V : List Nat) : Prop := M.1 0 47 = nI V.length ∧ ∀ i m, V[i]? = some m → M.1 19 i = nI m
theorem Vr.fr {P : Nat → Nat → Prop} {M M' : Mem} {V : List Nat} (h : Vr M V) (ho : Fr P M M') (h1 : ¬ P 0 47) (h2 : ∀ k, ¬ P 19 k) : Vr M' V := ⟨by rw [(ho 0 47 h1).1]; exact h.1, fun i m hi => by rw [(ho 19 i (h2 i)).1]; exact h.2 i m hi⟩
def lr (c k : Nat) : Prop := c = 19 ∨ (c = 0 ∧ k = 47)
theorem m_layRounds_L (n : Nat) (hn : 20 ≤ n) {S : Ab} (hS : Ok S) {v0 : Nat → Int32} : ∀ e v f M, v + e = 32768 → 1 ≤ v → e < f → Kr S v0 M → Vr M (vls S.R.1 S.A.gl v) → ∃ M', X_Model_layRounds_L15 n f (nI v) M = some ((), M') ∧ Fr lr M M' ∧ Vr M' (vls S.R.1 S.A.gl 32768) := by
  have lrS : ∀ c k, lr c k → mS c k ∧ ¬ (c = 0 ∧ 38 ≤ k ∧ k ≤ 42) := fun c k q => by unfold lr at q; unfold mS; omega
  intro e
  induction e with
  | zero =>
    intro v f M h1 h2 h3 hK hV
    obtain ⟨f, rfl⟩ : ∃ q, f = q + 1 := ⟨f - 1, by omega⟩
    have : v = 32768 := by omega
    refine ⟨M, ?_, Fr.rf, by rw [← this]; exact hV⟩
    show (if (32768 : Int32) ≤ nI v then _ else _) = _
    rw [if_pos (show (32768 : Int32) ≤ nI v from nI_le (a := 32768) (by omega) (by omega))]
  | succ e ih =>
    intro v f M h1 h2 h3 hK hV
    obtain ⟨f, rfl⟩ : ∃ q, f = q + 1 := ⟨f - 1, by omega⟩
    have hv : v < 2 ^ 15 := by omega
    have h75 := vls_75 S.R.1 S.A.gl (v := v) (by omega)
    have es : vls S.R.1 S.A.gl (v + 1) = if vld S.R.1 S.A.gl v then vls S.R.1 S.A.gl v ++ [v] else vls S.R.1 S.A.gl v := rfl
    have un : X_Model_layRounds_L15 n (f + 1) (nI v) M = if nI 3 < nI (popN 16 v) then X_Model_layRounds_L15 n f (nI (v + 1)) M else (if (if vld S.R.1 S.A.gl v then (1 : Int32) else 0) = 0 then X_Model_layRounds_L15 n f (nI (v + 1)) M else X_Model_layRounds_L15 n f (nI (v + 1)) (si (si M 19 (vls S.R.1 S.A.gl v).length (nI v)) 0 47 (nI ((vls S.R.1 S.A.gl v).length + 1)))) := by
      show (if (32768 : Int32) ≤ nI v then _ else bd (X_Model_bitsOf n (nI v) M) fun r3 M4 => nm (fun (M5 : Mem) => (X_Model_layRounds_L15 n f (nI v + 1) M5 : Option (Unit × Mem))) fun k58 => (if 3 < r3 then k58 M4 else bd (X_Model_isRound n (nI v) M4) fun r6 M7 => (if r6 = 0 then k58 M7 else gd (M7.1 0 47) 80 (nm (si M7 19 ((M7.1 0 47).toNatClampNeg) (nI v)) fun N8 => k58 (si N8 0 47 ((N8.1 0 47) + 1)))))) = _
      simp only [nm]
      rw [if_neg (show ¬ (32768 : Int32) ≤ nI v from nI_ge (b := 32768) (by omega) (by decide)), m_bitsOf n hn (by omega), bd_ret, m_isRound n hn hS.hR hK.1.c hK.2.1 hS.gl hv (by omega), bd_ret, hV.1, gd_in (vp_in_nI (n := (vls S.R.1 S.A.gl v).length) (by omega) (by decide)), nI_clamp (show (vls S.R.1 S.A.gl v).length < 2 ^ 31 by omega), si_ne (Or.inl (by decide)), hV.1, nI_1, nI_1]
      rfl
    rw [un]
    by_cases e3 : 3 < popN 16 v
    · have : vld S.R.1 S.A.gl v = false := by
        unfold vld
        cases q : isRd S.R.1 S.A.gl v 15 0 with
        | false => rw [Bool.and_false]
        | true => have := isRd_3 q hv; omega
      rw [this, if_neg Bool.false_ne_true] at es
      have hp := popN_le v 16
      rw [if_pos (nI_lt e3 (by omega))]
      exact ih (v + 1) f M (by omega) (by omega) (by omega) hK (by rw [es]; exact hV)
    · rw [if_neg (Int32.not_lt.mpr (nI_le (by omega) (by omega)))]
      cases eV : vld S.R.1 S.A.gl v with
      | false =>
        rw [eV, if_neg Bool.false_ne_true] at es
        rw [if_pos (show (if false = true then (1 : Int32) else 0) = 0 from rfl)]
        exact ih (v + 1) f M (by omega) (by omega) (by omega) hK (by rw [es]; exact hV)
      | true =>
        rw [eV, if_pos rfl] at es
        rw [if_neg (show ¬ (if true = true then (1 : Int32) else 0) = 0 by decide)]
        have f1 : Fr lr M (si (si M 19 (vls S.R.1 S.A.gl v).length (nI v)) 0 47 (nI ((vls S.R.1 S.A.gl v).length + 1))) := (Fr.si (Or.inl rfl)).trans (Fr.si (Or.inr ⟨rfl, rfl⟩))
        obtain ⟨M', a1, a2, a3⟩ := ih (v + 1) f _ (by omega) (by omega) (by omega) (hK.fr hS lrS f1) (by
          rw [es]
          refine ⟨by rw [si_at, List.length_append]; rfl, fun i m hi => ?_⟩
          rw [si_ne (Or.inl (by decide))]
          by_cases q : i < (vls S.R.1 S.A.gl v).length
          · rw [List.getElem?_append_left q] at hi
            rw [si_ne (Or.inr (by omega))]
            exact hV.2 i m hi
          · have hl := (List.getElem?_eq_some_iff.mp hi).1
            rw [List.length_append, List.length_singleton] at hl
            have : i = (vls S.R.1 S.A.gl v).length := by omega
            subst this
            rw [List.getElem?_append_right (Nat.le_refl _), Nat.sub_self] at hi
            rw [si_at, ← Option.some.inj hi])
        exact ⟨M', a1, f1.trans a2, a3⟩
theorem m_goes_L (n : Nat) (hn : 20 ≤ n) {R : Rl} (hR : OkR R) {g m L : Nat} (hL : L < 10) (hm : m < 2 ^ 15) (hf : ∀ x, x < 15 → m.testBit x = true → free R.1 g x = true) : ∀ j f M W, j ≤ 15 → j < f → MC M R → OkW W → LyM M 15 (60 * L) W → ∃ M', X_Model_goesRound_L10 n (nI L) (nI m) f (nI (15 - j)) M = some ((), M') ∧ Fr (mh L) M M' ∧ LyM M' 15 (60 * L) (ap R g m j W) := by
  intro j
  induction j with
  | zero =>
    intro f M W h1 h2 hC hW hl
    obtain ⟨f, rfl⟩ : ∃ q, f = q + 1 := ⟨f - 1, by omega⟩
    refine ⟨M, ?_, Fr.rf, hl⟩
    show (if (15 : Int32) ≤ nI 15 then _ else _) = _
    rw [if_pos (by decide)]
  | succ j ih =>
    intro f M W h1 h2 hC hW hl
    obtain ⟨f, rfl⟩ : ∃ q, f = q + 1 := ⟨f - 1, by omega⟩
    have hx : 14 - j < 15 := by omega
    rw [show 15 - (j + 1) = 14 - j by omega]
    have un : X_Model_goesRound_L10 n (nI L) (nI m) (f + 1) (nI (14 - j)) M = if m.testBit (14 - j) then (bd (X_Model_shakes n (nI L) (nI (14 - j)) (nI 0) M) fun _ M5 => X_Model_goesRound_L10 n (nI L) (nI m) f (nI (15 - j)) M5) else X_Model_goesRound_L10 n (nI L) (nI m) f (nI (15 - j)) M := by
      show (if (15 : Int32) ≤ nI (14 - j) then _ else nm (fun (M3 : Mem) => (X_Model_goesRound_L10 n (nI L) (nI m) f (nI (14 - j) + 1) M3 : Option (Unit × Mem))) fun k32 => (if ((nI m >>> (nI (14 - j) &&& 31)) &&& 1) = 1 then bd (X_Model_shakes n (nI L) (nI (14 - j)) 0 M) fun _ M5 => k32 M5 else k32 M)) = _
      simp only [nm]
      rw [if_neg (show ¬ (15 : Int32) ≤ nI (14 - j) from nI_ge (b := 15) hx (by decide)), b_is (by omega) (by omega), nI_1, show 14 - j + 1 = 15 - j by omega]
      cases m.testBit (14 - j) <;> rfl
    rw [un]
    cases e : m.testBit (14 - j) with
    | false =>
      rw [if_neg Bool.false_ne_true]
      obtain ⟨M', a1, a2, a3⟩ := ih f M W (by omega) (by omega) hC hW hl
      refine ⟨M', a1, a2, ?_⟩
      unfold ap
      rw [e, if_neg Bool.false_ne_true]
      exact a3
    | true =>
      rw [if_pos rfl]
      obtain ⟨M2, b1, b2, b3⟩ := m_shakes n hn hR hC hL hW hl (g := 0) (x := 14 - j) (by decide) hx
      obtain ⟨M', a1, a2, a3⟩ := ih f M2 _ (by omega) (by omega) (hC.mh b2) (hW.hand hR _ _) b3
      refine ⟨M', by rw [b1, bd_ret]; exact a1, b2.trans a2, ?_⟩
      unfold ap
      rw [e, if_pos rfl, ← hand_free (hf _ hx e)]
      exact a3
theorem ap_ok {R : Rl} (hR : OkR R) {g m : Nat} : ∀ j W, OkW W → OkW (ap R g m j W)
  | 0, W, h => h
  | j + 1, W, h => by
    unfold ap
    apply ap_ok hR j
    split
    · exact h.hand hR _ _
    · exact h
theorem m_goes (n : Nat) (hn : 61 ≤ n) {S : Ab} (hS : Ok S) {M : Mem} {m L : Nat} (hM : MA M S) (hL : L < 9) (hm : vld S.R.1 S.A.gl m = true) (h15 : m < 2 ^ 15) {W : WW} (hW : OkW W) (hl : LyM M 15 (60 * L) W) : ∃ M', X_Model_goesRound n (nI (L + 1)) (nI m) M = some ((), M') ∧ Fr (mh (L + 1)) M M' ∧ LyM M' 15 (60 * (L + 1)) (ap S.R S.A.gl m 15 W) := by
  have f1 : Fr (mh (L + 1)) M (cpI M 15 (60 * L) 15 (60 * (L + 1)) 60) := Fr.cpI (fun k h1 h2 => Or.inr ⟨rfl, h1, h2⟩)
  have hd := isRd_dis 15 (Nat.le_refl _) 0 (show isRd S.R.1 S.A.gl m 15 0 = true by
    unfold vld at hm
    rw [Bool.and_eq_true] at hm
    exact hm.2)
  obtain ⟨M', a1, a2, a3⟩ := m_goes_L n (by omega) hS.hR (L := L + 1) (by omega) h15 (fun x h1 h2 => (hd.1 x (by omega) h1 h2).1) 15 n _ W (Nat.le_refl _) (by omega) (hM.c.mh f1) hW (LyM.cp hl hW)
  refine ⟨M', ?_, f1.trans a2, a3⟩
  unfold X_Model_goesRound
  rw [show nI (L + 1) - 1 = nI L by rw [show (1 : Int32) = nI 1 from rfl, pk_sub (by omega), Nat.add_sub_cancel], m_copies n hn (by omega) (by omega), bd_ret]
  exact a1
