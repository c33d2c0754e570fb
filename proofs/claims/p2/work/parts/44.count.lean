/-! CALLS: count, keep, back -/
def allN (W : Nat → List Nat) : Nat → Nat
  | 0 => 65535
  | k + 1 => allN W k &&& knN (W k)
theorem allN_lt (W : Nat → List Nat) : ∀ k, allN W k < 65536
  | 0 => by show 65535 < 65536; decide
  | k + 1 => Nat.lt_of_le_of_lt Nat.and_le_left (allN_lt W k)
theorem x_all {M : Mem} {S : Ab} (hS : Ok S) (hM : XA M S) : X_ShakeHands_knownToAll fuel M = some (nI (allN S.A.W S.R.1), M) := by
  have h6 := hS.p6
  have key : ∀ (d i f : Nat), S.R.1 - i = d → i ≤ S.R.1 → d < f → X_ShakeHands_knownToAll_L6 fuel f (nI (allN S.A.W i)) (nI i) M = some (nI (allN S.A.W S.R.1), M) := by
    intro d
    induction d with
    | zero =>
      intro i f h1 h2 h3
      obtain ⟨f, rfl⟩ : ∃ g, f = g + 1 := ⟨f - 1, by omega⟩
      have e : i = S.R.1 := by omega
      subst e
      show (if M.1 11 0 ≤ nI S.R.1 then _ else _) = _
      rw [hM.c.1, if_pos (nI_le (by omega) (by omega))]
    | succ d ih =>
      intro i f h1 h2 h3
      obtain ⟨f, rfl⟩ : ∃ g, f = g + 1 := ⟨f - 1, by omega⟩
      show (if M.1 11 0 ≤ nI i then _ else gd (nI i) 6 (bd (X_Row_knownOf fuel (M.2 17 (nI i).toNatClampNeg) M) fun r1 M2 => X_ShakeHands_knownToAll_L6 fuel f (nI (allN S.A.W i) &&& r1) (nI i + 1) M2)) = _
      rw [hM.c.1, if_neg (nI_ge (by omega) (by omega)), gd_in (vp_in_nI (by omega) (by decide)), nI_clamp (by omega), hM.a.2.2.1 i (by omega), row_known fuel (hS.hA.1 i).1 (hS.hA.1 i).2, bd_ret, i_and, nI_1]
      exact ih (i + 1) f (by omega) (by omega) (by omega)
  exact key _ 0 fuel rfl (Nat.zero_le _) (by have := fu; omega)
def cntF (a : Int32) (S : Ab) : Int32 :=
  if a = 0 then nI (popN 16 (anyN S.A.W S.R.1)) else if a = 1 then nI (popN 16 (allN S.A.W S.R.1)) else if a = 2 then nI (popN 16 S.A.sn) else if a = 3 then nI (popN 16 S.kp) else if a = 4 then nI S.tp.length else if a = 5 then (match S.sh 0 with | none => -4 | some q => nI q.2) else -1
theorem m_all_L {S : Ab} (hS : Ok S) {M : Mem} (hM : MA M S) (a : Int32) (kx : Int32 → Mem → Option (Int32 × Mem)) : ∀ (d i f : Nat) (N : Mem), S.R.1 - i = d → i ≤ S.R.1 → d < f → Fr (mh 0) M N → ∃ M', X_Model_count_L6 fuel a kx f (nI (allN S.A.W i)) (nI i) N = kx (nI (allN S.A.W S.R.1)) M' ∧ Fr (mh 0) M M' := by
  have h6 := hS.p6
  intro d
  induction d with
  | zero =>
    intro i f N h1 h2 h3 hN
    obtain ⟨f, rfl⟩ : ∃ g, f = g + 1 := ⟨f - 1, by omega⟩
    have e : i = S.R.1 := by omega
    subst e
    refine ⟨N, ?_, hN⟩
    show (if N.1 0 2 ≤ nI S.R.1 then kx (nI (allN S.A.W S.R.1)) N else _) = _
    rw [(hM.c.mh hN).1, if_pos (nI_le (by omega) (by omega))]
  | succ d ih =>
    intro i f N h1 h2 h3 hN
    obtain ⟨f, rfl⟩ : ∃ g, f = g + 1 := ⟨f - 1, by omega⟩
    have hMN := hM.fr hS (mh_S hN)
    obtain ⟨M', q1, q2⟩ := ih (i + 1) f (m0 N) (by omega) (by omega) (by omega) (hN.trans (m0_fr N))
    refine ⟨M', ?_, q2⟩
    show (if N.1 0 2 ≤ nI i then kx (nI (allN S.A.W i)) N else bd (X_Model_knowsNow fuel (nI i) N) fun r1 M2 => X_Model_count_L6 fuel a kx f (nI (allN S.A.W i) &&& r1) (nI i + 1) M2) = _
    rw [(hM.c.mh hN).1, if_neg (nI_ge (by omega) (by omega)), m_knowsNow hS hMN (by omega), bd_ret, i_and, nI_1]
    exact q1
theorem v04 : vp_in (0 : Int32) 4 := vp_in_nI (n := 0) (by decide) (by decide)
theorem v02 : vp_in (0 : Int32) 2 := vp_in_nI (n := 0) (by decide) (by decide)
theorem v12 : vp_in (1 : Int32) 2 := vp_in_nI (n := 1) (by decide) (by decide)
theorem pop_kp : ∀ k, k < 4 → nI (popN 16 k) = nI (if k.testBit 0 then 1 else 0) + nI (if k.testBit 1 then 1 else 0) := by decide
theorem sim_count (a0 : Int32) : Sm (fun M => X_ShakeHands_count fuel a0 M) (fun M => X_Model_count fuel a0 M) := by
  refine Sm_q (q := cntF a0) (fun M S hS hM => ⟨M, ?_, Off.rf⟩) (fun M S hS hM => ?_)
  · have hg := hS.sn
    have hk := hS.hk
    show X_ShakeHands_count fuel a0 M = _
    unfold X_ShakeHands_count cntF
    have ha := anyN_lt hS.hA.1 S.R.1
    have hl := allN_lt S.A.W S.R.1
    rw [x_known hS hM, bd_ret, x_all hS hM, bd_ret, bitCount_eq _ ha, bd_ret, bitCount_eq _ hl, bd_ret, hM.a.2.1, bitCount_eq _ (by omega), bd_ret, hM.kp, bitCount_eq _ (by omega), bd_ret, hM.tl]
    by_cases h0 : a0 = 0
    · rw [if_pos h0, if_pos h0]
    rw [if_neg h0, if_neg h0]
    by_cases h1 : a0 = 1
    · rw [if_pos h1, if_pos h1]
    rw [if_neg h1, if_neg h1]
    by_cases h2 : a0 = 2
    · rw [if_pos h2, if_pos h2]
    rw [if_neg h2, if_neg h2]
    by_cases h3 : a0 = 3
    · rw [if_pos h3, if_pos h3]
    rw [if_neg h3, if_neg h3]
    by_cases h4 : a0 = 4
    · rw [if_pos h4, if_pos h4]
    rw [if_neg h4, if_neg h4]
    by_cases h5 : a0 = 5
    · rw [if_pos h5, if_pos h5, gd_in v04]
      have hs := hM.sh 0 (by decide)
      show (if M.1 41 0 = 0 then some (-4, M) else gd 0 4 (some (M.1 41 1, M))) = _
      cases hq : S.sh 0 with
      | none =>
        rw [hq] at hs
        have hs : M.1 41 0 = 0 := hs
        rw [if_pos hs]
      | some q =>
        obtain ⟨l, z⟩ := q
        rw [hq] at hs
        obtain ⟨s1, s2, -⟩ := hs
        have s1 : M.1 41 0 = 1 := s1
        have s2 : M.1 41 1 = nI z := s2
        rw [s1, if_neg i10, gd_in v04, s2]
    rw [if_neg h5, if_neg h5]
  · show ∃ M', X_Model_count fuel a0 M = _ ∧ _
    have hg := hS.sn
    have hk := hS.hk
    have ha := anyN_lt hS.hA.1 S.R.1
    have hl := allN_lt S.A.W S.R.1
    have h6 := hS.p6
    unfold X_Model_count
    obtain ⟨N, q1, q2⟩ := m_all_L hS hM a0 _ _ 0 fuel M rfl (Nat.zero_le _) (by have := fu; omega) Fr.rf
    have hMN := hM.fr hS (mh_S q2)
    refine Exists.imp (fun M' (h : _ ∧ _) => ⟨Eq.trans q1 h.1, h.2⟩) ?_
    unfold cntF
    by_cases h0 : a0 = 0
    · rw [if_pos h0, if_pos h0, m_anyNow hS hMN, bd_ret, m_bitsOf fuel (by decide) ha, bd_ret]
      exact ⟨_, rfl, mh_S (q2.trans (m0_fr N))⟩
    rw [if_neg h0, if_neg h0]
    by_cases h1 : a0 = 1
    · rw [if_pos h1, if_pos h1, m_bitsOf fuel (by decide) hl, bd_ret]
      exact ⟨_, rfl, mh_S q2⟩
    rw [if_neg h1, if_neg h1]
    by_cases h2 : a0 = 2
    · have h66 := hMN.a.2.2.1
      rw [Nat.zero_add] at h66
      rw [if_pos h2, if_pos h2, m_seen hMN.c.1 hS.p6 hS.hA.2.2.2.1 h66, bd_ret]
      exact ⟨_, rfl, mh_S q2⟩
    rw [if_neg h2, if_neg h2]
    by_cases h3 : a0 = 3
    · have e0 := hMN.kp 0 (by decide)
      have e1 := hMN.kp 1 (by decide)
      have fl : ∀ (c : Bool) (N : Mem), X_Model_flag fuel (nI (if c then 1 else 0)) N = some (nI (if c then 1 else 0), N) := fun c N => by cases c <;> rfl
      rw [if_pos h3, if_pos h3, gd_in v02]
      show ∃ M', bd (X_Model_flag fuel (N.1 2 0) N) (fun r6 M7 => gd 1 2 (bd (X_Model_flag fuel (M7.1 2 1) M7) fun r8 M9 => some (r6 + r8, M9))) = _ ∧ _
      rw [e0, fl, bd_ret, gd_in v12, e1, fl, bd_ret, ← pop_kp _ hk]
      exact ⟨_, rfl, mh_S q2⟩
    rw [if_neg h3, if_neg h3]
    by_cases h4 : a0 = 4
    · rw [if_pos h4, if_pos h4, hMN.tl]
      exact ⟨_, rfl, mh_S q2⟩
    rw [if_neg h4, if_neg h4]
    by_cases h5 : a0 = 5
    · rw [if_pos h5, if_pos h5, gd_in v04]
      have hs := hMN.sh 0 (by decide)
      show ∃ M', (if N.1 23 0 = -4 then some (-4, N) else gd 0 4 (some (N.1 24 0, N))) = _ ∧ _
      refine ⟨N, ?_, mh_S q2⟩
      cases hq : S.sh 0 with
      | none =>
        rw [hq] at hs
        have hs : N.1 23 0 = -4 := hs
        rw [if_pos hs]
      | some q =>
        obtain ⟨l, z⟩ := q
        rw [hq] at hs
        obtain ⟨s1, s2, -⟩ := hs
        have hl3 := (hS.hs 0 l z hq).1
        rw [s1, if_neg (i_ne4 (by omega)), gd_in v04, s2]
    rw [if_neg h5, if_neg h5]
    exact ⟨_, rfl, mh_S q2⟩
