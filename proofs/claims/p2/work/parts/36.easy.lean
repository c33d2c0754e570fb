/-! CALLS: the first ones -/
theorem fu : 1000 ≤ fuel := by decide
theorem x_isOne (n : Nat) {M : Mem} {P : Nat} (h : M.1 11 0 = nI P) (p : Int32) : X_ShakeHands_isOne n p M = some (if vN p P then 1 else 0, M) := by
  unfold X_ShakeHands_isOne
  rw [h, x_in]
  split <;> rfl
theorem x_isThing (n : Nat) (p : Int32) (M : Mem) : X_ShakeHands_isThing n p M = some (if vN p 16 then 1 else 0, M) := by
  unfold X_ShakeHands_isThing
  rw [show (16 : Int32) = nI 16 from rfl, x_in]
  split <;> rfl
theorem zr_b (b : Bool) (M : Mem) : zr (if b then 1 else 0) M = some (if b then 1 else 0, M) := by cases b <;> rfl
theorem m_isOne (n : Nat) {M : Mem} {P : Nat} (hP : P < 2 ^ 31) (h : M.1 0 2 = nI P) (p : Int32) : X_Model_isOne n p M = some (if vN p P then 1 else 0, M) := by
  unfold X_Model_isOne
  rw [h, m_inV n hP p, bd_ret, zr_b]
theorem m_isThing (n : Nat) (p : Int32) (M : Mem) : X_Model_isThing n p M = some (if vN p 16 then 1 else 0, M) := by
  unfold X_Model_isThing
  have := m_inV n (P := 16) (by decide) p M
  rw [show (nI 16 - 1 : Int32).toInt64 = 15 by decide] at this
  rw [this, bd_ret, zr_b]
theorem i10 : ¬ (1 : Int32) = 0 := by decide
theorem Ok.p6 {S : Ab} (h : Ok S) : S.R.1 ≤ 6 := h.hR.2.1
theorem Ok.p31 {S : Ab} (h : Ok S) : S.R.1 < 2 ^ 31 := by have := h.p6; omega
theorem Ok.pw {S : Ab} (h : Ok S) : 2 ^ S.R.1 ≤ 64 := Nat.pow_le_pow_right (n := 2) (by decide) h.p6
theorem Ok.gl {S : Ab} (h : Ok S) : S.A.gl < 64 := Nat.lt_of_lt_of_le h.hA.2.2.1 h.pw
theorem Ok.sn {S : Ab} (h : Ok S) : S.A.sn < 64 := Nat.lt_of_lt_of_le h.hA.2.2.2.1 h.pw
-- begin: the rows of now in layer 0
def m0 (M : Mem) : Mem := cpI M 1 0 15 (60 * 0) 60
theorem m0_b (M : Mem) : X_Model_begins fuel (nI 0) M = some ((), m0 M) := m_begins fuel (by decide) (by decide) M
theorem m0_fr (M : Mem) : Fr (mh 0) M (m0 M) := Fr.cpI (fun k h1 h2 => Or.inr ⟨rfl, h1, by omega⟩)
theorem m0_ly {M : Mem} {S : Ab} (hS : Ok S) (h : MA M S) : LyM (m0 M) 15 (60 * 0) S.A.W := LyM.cp h.a.1 hS.hA.1
theorem mh_S {L : Nat} {M M' : Mem} (h : Fr (mh L) M M') : Fr mS M M' := h.mono (fun _ _ => mh_mS)
theorem m_knowsNow {M : Mem} {S : Ab} (hS : Ok S) (h : MA M S) {p : Nat} (hp : p < S.R.1) : X_Model_knowsNow fuel (nI p) M = some (nI (knN (S.A.W p)), m0 M) := by
  unfold X_Model_knowsNow
  have h6 := hS.p6
  rw [show (0 : Int32) = nI 0 from rfl, m0_b, bd_ret, m_knowsIn fuel (by decide) (by decide) (by omega) (m0_ly hS h p (by omega)) (hS.hA.1 p).1 (hS.hA.1 p).2, bd_ret]
theorem m_knowsIt {M : Mem} {S : Ab} (hS : Ok S) (h : MA M S) {p t : Nat} (hp : p < S.R.1) (ht : t < 16) : X_Model_knowsIt fuel (nI p) (nI t) M = some (if t ∈ S.A.W p then 1 else 0, m0 M) := by
  unfold X_Model_knowsIt
  have hk := knN_lt (hS.hA.1 p).1.2
  rw [m_knowsNow hS h hp, bd_ret, b_is (by omega) (by omega), knN_bit]
  by_cases e : t ∈ S.A.W p
  · rw [if_pos e, if_pos (by simp [e]; rfl)]
  · rw [if_neg e, if_neg (by simp [e]; decide)]
theorem whoN_end {W : Nat → List Nat} {P : Nat} (h : ∀ p, P ≤ p → W p = []) (t : Nat) : ∀ d, whoN W t (P + d) = whoN W t P
  | 0 => rfl
  | d + 1 => by
    show whoN W t (P + d) ||| (if t ∈ W (P + d) then 2 ^ (P + d) else 0) = _
    rw [whoN_end h t d, h (P + d) (by omega), if_neg (by simp), Nat.or_zero]
theorem anyN_end {W : Nat → List Nat} {P : Nat} (h : ∀ p, P ≤ p → W p = []) : ∀ d, anyN W (P + d) = anyN W P
  | 0 => rfl
  | d + 1 => by
    show anyN W (P + d) ||| knN (W (P + d)) = _
    rw [anyN_end h d, h (P + d) (by omega)]
    exact Nat.or_zero _
theorem whoN_6 {W : Nat → List Nat} {P : Nat} (hP : P ≤ 6) (h : ∀ p, P ≤ p → W p = []) (t : Nat) : whoN W t 6 = whoN W t P := by
  have := whoN_end h t (6 - P)
  rwa [show P + (6 - P) = 6 by omega] at this
theorem anyN_6 {W : Nat → List Nat} {P : Nat} (hP : P ≤ 6) (h : ∀ p, P ≤ p → W p = []) : anyN W 6 = anyN W P := by
  have := anyN_end h (6 - P)
  rwa [show P + (6 - P) = 6 by omega] at this
theorem anyN_lt {W : Nat → List Nat} (hW : OkW W) : ∀ k, anyN W k < 65536
  | 0 => by show 0 < 65536; decide
  | k + 1 => Nat.or_lt_two_pow (n := 16) (anyN_lt hW k) (knN_lt (hW k).1.2)
theorem minds_known (n : Nat) (hn : 7 ≤ n) {M : Mem} {rows : Nat} {W : Nat → List Nat} (hW : OkW W) (hM : rowsAt M rows W) : X_Minds_known n rows M = some (nI (anyN W 6), M) := by
  have key : ∀ (d i f : Nat) (a : Nat), 6 - i = d → i ≤ 6 → d < f → a < 2 ^ 52 → a / 2 ^ 36 = anyN W i → X_Minds_known_L4 n rows M f (lN a) (nI i) = some (nI (anyN W 6), M) := by
    intro d
    induction d with
    | zero =>
      intro i f a h1 h2 h3 h4 h5
      obtain ⟨f, rfl⟩ : ∃ g, f = g + 1 := ⟨f - 1, by omega⟩
      have e : i = 6 := by omega
      subst e
      show (if (6 : Int32) ≤ nI 6 then _ else _) = _
      rw [if_pos (by decide), show (36 : Int32) = nI 36 from rfl, l_ushr (by omega) (by decide), h5, l_to]
    | succ d ih =>
      intro i f a h1 h2 h3 h4 h5
      obtain ⟨f, rfl⟩ : ∃ g, f = g + 1 := ⟨f - 1, by omega⟩
      have hi : i < 6 := by omega
      show (if (6 : Int32) ≤ nI i then _ else gd (nI i) 6 (X_Minds_known_L4 n rows M f (lN a ||| (M.2 rows (nI i).toNatClampNeg)) (nI i + 1))) = _
      have he := encN_lt (hW i).1 (hW i).2
      rw [if_neg (show ¬ (6 : Int32) ≤ nI i from nI_ge (b := 6) hi (by decide)), gd_in (vp_in_nI hi (by decide)), nI_clamp (by omega), hM i hi, nI_1]
      unfold enc
      rw [l_or]
      refine ih (i + 1) f _ (by omega) (by omega) (by omega) (Nat.or_lt_two_pow h4 he) ?_
      rw [or_div, h5]
      have h1 := pk36 (hW i).1 (hW i).2
      have e : encN (W i) / 2 ^ 36 = knN (W i) := by unfold encN; omega
      rw [e]
      rfl
  exact key 6 0 n 0 rfl (by decide) (by omega) (by decide) rfl
-- fault, torn, rule, hand, join
theorem sim_fault : Sw (fun M => X_ShakeHands_fault fuel M) (fun M => X_Model_fault fuel M) := by
  intro Mx Mm hR
  have hR0 := hR
  obtain ⟨S, hS, hx, hm⟩ := hR
  exact ⟨_, _, Mx, Mm, rfl, rfl, hR0⟩
theorem sim_torn : Sm (fun M => X_ShakeHands_torn fuel M) (fun M => X_Model_torn fuel M) := by
  refine Sm_q (q := fun S => nI S.tn) (fun M S hS hM => ⟨M, ?_, Off.rf⟩) (fun M S hS hM => ⟨M, ?_, Fr.rf⟩)
  · show some (M.1 0 10, M) = _
    rw [hM.tn]
  · show some (M.1 0 54, M) = _
    rw [hM.tn]
theorem sim_rule (a0 : Int32) : Sm (fun M => X_ShakeHands_rule fuel a0 M) (fun M => X_Model_rule fuel a0 M) := by
  refine Sm_q (q := fun S => if a0 = 0 then nI S.R.1 else if a0 = 1 then nI S.R.2.1 else if a0 = 2 then nI S.R.2.2.1.length else if a0 = 3 then nI S.R.2.2.2.1.length else if a0 = 4 then nI S.R.2.2.2.2.length else if a0 = 5 then nI (popN 16 S.A.gl) else -1) (fun M S hS hM => ⟨M, ?_, Off.rf⟩) (fun M S hS hM => ⟨M, ?_, Fr.rf⟩)
  · dsimp only
    unfold X_ShakeHands_rule
    have hg := hS.gl
    rw [hM.c.1, hM.c.2.1, hM.c.2.2.1, hM.c.2.2.2.1, hM.c.2.2.2.2.1, hM.a.1, bitCount_eq _ (by omega), bd_ret]
    by_cases h0 : a0 = 0
    · rw [if_pos h0, if_pos h0]
    rw [if_neg h0, if_neg h0]
    by_cases h1 : a0 = 1
    · rw [if_pos h1, if_pos h1]
    rw [if_neg h1, if_neg h1]
    by_cases h2 : a0 = 2
    · rw [if_pos h2, if_pos h2]
    rw [if_neg h2, if_neg h2]
    by_cases h3 : a0 = 3
    · rw [if_pos h3, if_pos h3]
    rw [if_neg h3, if_neg h3]
    by_cases h4 : a0 = 4
    · rw [if_pos h4, if_pos h4]
    rw [if_neg h4, if_neg h4]
    by_cases h5 : a0 = 5
    · rw [if_pos h5, if_pos h5]
    rw [if_neg h5, if_neg h5]
  · dsimp only
    unfold X_Model_rule
    have hg := hS.gl
    rw [hM.c.1, hM.c.2.1, hM.c.2.2.1, hM.c.2.2.2.1, hM.c.2.2.2.2.1, m_worn fuel (by decide) hM.c.1 hS.p6 hS.hA.2.2.1 hM.a.2.1, bd_ret, m_bitsOf fuel (by decide) (by omega), bd_ret]
    by_cases h0 : a0 = 0
    · rw [if_pos h0, if_pos h0]
    rw [if_neg h0, if_neg h0]
    by_cases h1 : a0 = 1
    · rw [if_pos h1, if_pos h1]
    rw [if_neg h1, if_neg h1]
    by_cases h2 : a0 = 2
    · rw [if_pos h2, if_pos h2]
    rw [if_neg h2, if_neg h2]
    by_cases h3 : a0 = 3
    · rw [if_pos h3, if_pos h3]
    rw [if_neg h3, if_neg h3]
    by_cases h4 : a0 = 4
    · rw [if_pos h4, if_pos h4]
    rw [if_neg h4, if_neg h4]
    by_cases h5 : a0 = 5
    · rw [if_pos h5, if_pos h5]
    rw [if_neg h5, if_neg h5]
theorem at_len {l : List Nat} {f : Nat → Int32} (h : ∀ i x, l[i]? = some x → f i = nI x) {i : Nat} (hi : i < l.length) : f i = nI (l.getD i 0) := by
  rw [h i _ (List.getElem?_eq_getElem hi), List.getD_eq_getElem?_getD, List.getElem?_eq_getElem hi]
  rfl
theorem sim_hand (a0 : Int32) (a1 : Int32) : Sm (fun M => X_ShakeHands_hand fuel a0 a1 M) (fun M => X_Model_hand fuel a0 a1 M) := by
  refine Sm_q (q := fun S => if a1 = 0 then (if vN a0 S.R.2.2.2.1.length then nI (S.R.2.2.2.1.getD (pN a0) 0) else -1) else (if vN a0 S.R.2.2.2.2.length then nI (S.R.2.2.2.2.getD (pN a0) 0) else -1)) (fun M S hS hM => ⟨M, ?_, Off.rf⟩) (fun M S hS hM => ⟨M, ?_, Fr.rf⟩)
  · dsimp only
    have l1 := hS.hR.2.2.2.2.2.2.1
    have l2 := hS.hR.2.2.2.2.2.2.2.2.1
    have un : X_ShakeHands_hand fuel a0 a1 M = if a1 = 0 then (if vN a0 S.R.2.2.2.1.length then gd a0 16 (some (M.1 13 a0.toNatClampNeg, M)) else some (-1, M)) else (if vN a0 S.R.2.2.2.2.length then gd a0 8 (some (M.1 14 a0.toNatClampNeg, M)) else some (-1, M)) := by
      unfold X_ShakeHands_hand nm
      dsimp only
      rw [hM.c.2.2.2.1, hM.c.2.2.2.2.1]
      by_cases h : a1 = 0
      · rw [if_pos h, if_pos h, if_pos h, ← x_in]
        by_cases h0 : a0 < 0
        · rw [if_pos h0, if_pos h0]
        · rw [if_neg h0, if_neg h0]
          by_cases h2 : a0 < nI S.R.2.2.2.1.length
          · rw [if_pos h2, if_neg (Int32.not_le.mpr h2)]
          · rw [if_neg h2, if_pos (Int32.not_lt.mp h2)]
      · rw [if_neg h, if_neg h, if_neg h, ← x_in]
        by_cases h0 : a0 < 0
        · rw [if_pos h0, if_pos h0]
        · rw [if_neg h0, if_neg h0]
          by_cases h2 : a0 < nI S.R.2.2.2.2.length
          · rw [if_pos h2, if_neg (Int32.not_le.mpr h2)]
          · rw [if_neg h2, if_pos (Int32.not_lt.mp h2)]
    rw [un]
    split
    · split
      · next h =>
        obtain ⟨h1, h2⟩ := vN_y (by omega) h
        rw [h2, gd_in (vp_in_nI (by omega) (by decide)), nI_clamp (by omega), at_len hM.c.2.2.2.2.2.2.1 h1, ← h2]
      · rfl
    · split
      · next h =>
        obtain ⟨h1, h2⟩ := vN_y (by omega) h
        rw [h2, gd_in (vp_in_nI (by omega) (by decide)), nI_clamp (by omega), at_len hM.c.2.2.2.2.2.2.2 h1, ← h2]
      · rfl
  · dsimp only
    have l1 := hS.hR.2.2.2.2.2.2.1
    have l2 := hS.hR.2.2.2.2.2.2.2.2.1
    unfold X_Model_hand nm
    dsimp only
    rw [hM.c.2.2.2.1, hM.c.2.2.2.2.1]
    split
    · next h0 =>
      rw [m_inV fuel (by omega), bd_ret]
      by_cases h : vN a0 S.R.2.2.2.1.length = true
      · obtain ⟨h1, h2⟩ := vN_y (by omega) h
        rw [if_pos h, if_pos h, if_neg i10, h2, gd_in (vp_in_nI (by omega) (by decide)), nI_clamp (by omega), at_len hM.c.2.2.2.2.2.2.1 h1, ← h2]
      · rw [if_neg h, if_neg h, if_pos rfl]
    · next h0 =>
      rw [m_inV fuel (by omega), bd_ret]
      by_cases h : vN a0 S.R.2.2.2.2.length = true
      · obtain ⟨h1, h2⟩ := vN_y (by omega) h
        rw [if_pos h, if_pos h, if_neg i10, h2, gd_in (vp_in_nI (by omega) (by decide)), nI_clamp (by omega), at_len hM.c.2.2.2.2.2.2.2.1 h1, ← h2]
      · rw [if_neg h, if_neg h, if_pos rfl]
