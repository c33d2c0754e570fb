/-! CALLS: blind, shake, feast, after, lost, told, days, lives -/
theorem sim_blind : Sm (fun M => X_ShakeHands_blind fuel M) (fun M => X_Model_blind fuel M) := by
  refine Sm_u (u := fun S => (nI (popN 16 S.A.sn), S.setA (S.A.W, S.A.gl, 0, S.A.sg))) (fun M S hS hM => ?_) (fun M S hS hM => ?_) (fun S hS => ?_)
  · dsimp only
    have hg := hS.sn
    unfold X_ShakeHands_blind
    rw [hM.a.2.1, bitCount_eq _ (by omega), bd_ret]
    refine ⟨_, rfl, hM.newA (Off.si (by decide)) ⟨?_, si_at _ _ _ _, ?_, ?_⟩⟩
    · rw [si_ne (Or.inr (by decide))]; exact hM.a.1
    · exact hM.a.2.2.1
    · intro q hq hs
      exact absurd (show (0 : Nat).testBit q = true from hs) (by simp)
  · dsimp only
    have hg := hS.sn
    unfold X_Model_blind
    have h66 := hM.a.2.2.1
    rw [Nat.zero_add] at h66
    rw [m_seen hM.c.1 hS.p6 hS.hA.2.2.2.1 h66, bd_ret]
    have key : ∀ (d i f : Nat) (N : Mem), 6 - i = d → i ≤ 6 → d < f → (∀ q, q < i → N.1 1 (66 + q) = 0) → ∃ M', X_Model_blind_L7 fuel (nI (popN 16 S.A.sn)) f (nI i) N = some (nI (popN 16 S.A.sn), M') ∧ Fr (rg 1 66 12) N M' ∧ ∀ q, q < 6 → M'.1 1 (66 + q) = 0 := by
      intro d
      induction d with
      | zero =>
        intro i f N h1 h2 h3 hN
        obtain ⟨f, rfl⟩ : ∃ g, f = g + 1 := ⟨f - 1, by omega⟩
        have e : i = 6 := by omega
        subst e
        refine ⟨N, ?_, Fr.rf, hN⟩
        show (if (6 : Int32) ≤ nI 6 then _ else _) = _
        rw [if_pos (by decide)]
      | succ d ih =>
        intro i f N h1 h2 h3 hN
        obtain ⟨f, rfl⟩ : ∃ g, f = g + 1 := ⟨f - 1, by omega⟩
        obtain ⟨M', g1, g2, g3⟩ := ih (i + 1) f (si (si N 1 (66 + i) 0) 1 (72 + i) 0) (by omega) (by omega) (by omega) (fun q hq => by
          rw [si_ne (Or.inr (by omega))]
          by_cases e : q = i
          · rw [e]; exact si_at _ _ _ _
          · rw [si_ne (Or.inr (by omega))]; exact hN q (by omega))
        refine ⟨M', ?_, ((Fr.si ⟨rfl, by omega, by omega⟩).trans (Fr.si ⟨rfl, by omega, by omega⟩)).trans g2, g3⟩
        show (if (6 : Int32) ≤ nI i then _ else gd ((66 : Int32) + nI i) 234 (gd ((72 : Int32) + nI i) 234 (X_Model_blind_L7 fuel (nI (popN 16 S.A.sn)) f (nI i + 1) (si (si N 1 (((66 : Int32) + nI i).toNatClampNeg) 0) 1 (((72 : Int32) + nI i).toNatClampNeg) 0)))) = _
        rw [if_neg (show ¬ (6 : Int32) ≤ nI i from nI_ge (b := 6) (by omega) (by decide)), show (66 : Int32) = nI 66 from rfl, show (72 : Int32) = nI 72 from rfl, nI_add, nI_add, gd_in (vp_in_nI (by omega) (by decide)), gd_in (vp_in_nI (by omega) (by decide)), nI_clamp (by omega), nI_clamp (by omega), nI_1]
        exact g1
    obtain ⟨M', g1, g2, g3⟩ := key 6 0 fuel M rfl (by decide) (by decide) (fun q hq => by omega)
    refine ⟨M', g1, hM.newA hS (g2.mono (fun a k q => Or.inr ⟨q.1, by have := q.2; omega⟩)) ⟨hM.a.1.fr hS.hA.1 g2 (fun k _ _ => by unfold rg; omega), hM.a.2.1.fr g2 (fun k _ _ => by unfold rg; omega), fun q hq => ?_, fun q hq hs => ?_⟩⟩
    · rw [show 0 + 66 + q = 66 + q by omega, g3 q hq]
      show _ = nI (if (0 : Nat).testBit q then 1 else 0)
      simp
      rfl
    · exact absurd (show (0 : Nat).testBit q = true from hs) (by simp)
  · refine hS.newA ⟨hS.hA.1, hS.hA.2.1, hS.hA.2.2.1, ?_, hS.hA.2.2.2.2⟩
    exact Nat.two_pow_pos _
theorem handF_end {R : Rl} {g x P : Nat} {W : Nat → List Nat} (hx : x < 15) (hP : gre x < P) (h : ∀ p, P ≤ p → W p = []) : ∀ p, P ≤ p → handF R g x W p = [] := by
  intro p hp
  have := (les_gre x hx).1
  unfold handF
  split
  · exact h p hp
  · dsimp only
    rw [if_neg (by omega)]
    exact h p hp
theorem feastF_end {R : Rl} {g P : Nat} : ∀ (hs : List Nat) {W : Nat → List Nat}, (∀ h ∈ hs, h < 15 ∧ gre h < P) → (∀ p, P ≤ p → W p = []) → ∀ p, P ≤ p → feastF R g hs W p = []
  | [], _, _, h => h
  | x :: hs, _, hh, h => feastF_end hs (fun y hy => hh y (List.mem_cons_of_mem _ hy)) (handF_end (hh x List.mem_cons_self).1 (hh x List.mem_cons_self).2 h)
theorem m_fin {M N : Mem} {S : Ab} (hS : Ok S) (hM : MA M S) (hN : Fr (mh 0) M N) {V : Nat → List Nat} (hV : OkW V) (h : LyM N 15 (60 * 0) V) : MA (cpI N 15 (60 * 0) 1 0 60) (S.setA (S.A.setW V)) := by
  refine hM.newW hS ((hN.mono (fun _ _ h => Or.inl (mh_mS h))).trans (Fr.cpI (fun k h1 h2 => Or.inr ⟨rfl, h1, h2⟩))) (h.cp hV)
theorem m_shakesNow {M : Mem} {S : Ab} (hS : Ok S) (hM : MA M S) {x : Nat} (hx : x < 15) : ∃ M', X_Model_shakesNow fuel (nI x) M = some ((), M') ∧ MA M' (S.setA (S.A.setW (handF S.R S.A.gl x S.A.W))) ∧ LyM M' 1 0 (handF S.R S.A.gl x S.A.W) := by
  have hg := hS.gl
  unfold X_Model_shakesNow
  have hc : MC (m0 M) S.R := hM.c.mh (m0_fr M)
  have hG : GlM (m0 M) 60 S.A.gl := by
    have := hM.a.2.1
    rw [Nat.zero_add] at this
    exact this.fr (m0_fr M) (fun k _ _ => mh_1 k)
  obtain ⟨M1, g1, g2, g3⟩ := m_shakes fuel (by decide) hS.hR hc (L := 0) (by decide) hS.hA.1 (m0_ly hS hM) (show S.A.gl < 2 ^ 31 by omega) hx
  rw [show (0 : Int32) = nI 0 from rfl, m0_b, bd_ret, m_worn fuel (by decide) hc.1 hS.p6 hS.hA.2.2.1 hG, bd_ret, g1, bd_ret, m_becomes fuel (by decide) (by decide), bd_ret]
  have hW' := hS.hA.1.hand hS.hR S.A.gl x
  exact ⟨_, rfl, m_fin hS hM ((m0_fr M).trans g2) hW' g3, g3.cp hW'⟩
theorem x_areTwo {M : Mem} {P : Nat} (h : M.1 11 0 = nI P) (a b : Int32) : X_ShakeHands_areTwo fuel a b M = some (if vN a P && vN b P && decide (a ≠ b) then 1 else 0, M) := by
  unfold X_ShakeHands_areTwo
  rw [x_isOne fuel h, bd_ret]
  by_cases h1 : vN a P = true
  · rw [if_pos h1, if_neg i10, x_isOne fuel h, bd_ret]
    by_cases h2 : vN b P = true
    · rw [if_pos h2, if_neg i10]
      by_cases h3 : a = b
      · rw [if_pos h3]; simp [h3]
      · rw [if_neg h3]; simp [h1, h2, h3]
    · rw [if_neg h2, if_pos rfl]; simp [h2]
  · rw [if_neg h1, if_pos rfl]; simp [h1]
theorem m_areTwo {M : Mem} {P : Nat} (hP : P < 2 ^ 31) (h : M.1 0 2 = nI P) (a b : Int32) : X_Model_areTwo fuel a b M = some (if vN a P && vN b P && decide (a ≠ b) then 1 else 0, M) := by
  unfold X_Model_areTwo
  rw [m_isOne fuel hP h, bd_ret]
  by_cases h1 : vN a P = true
  · rw [if_pos h1, if_neg i10, m_isOne fuel hP h, bd_ret]
    by_cases h2 : vN b P = true
    · rw [if_pos h2, if_neg i10]
      by_cases h3 : a = b
      · rw [if_pos h3]; simp [h3]
      · rw [if_neg h3]; simp [h1, h2, h3]
    · rw [if_neg h2, if_pos rfl]; simp [h2]
  · rw [if_neg h1, if_pos rfl]; simp [h1]
def two (a b : Int32) (P : Nat) : Bool := vN a P && vN b P && decide (a ≠ b)
theorem two_y {a b : Int32} {P : Nat} (hP : P < 2 ^ 31) (h : two a b P = true) : pN a < P ∧ pN b < P ∧ pN a ≠ pN b ∧ a = nI (pN a) ∧ b = nI (pN b) := by
  unfold two at h
  simp only [Bool.and_eq_true, decide_eq_true_eq] at h
  obtain ⟨h1, h2⟩ := vN_y hP h.1.1
  obtain ⟨h3, h4⟩ := vN_y hP h.1.2
  exact ⟨h1, h3, fun q => h.2 (by rw [h2, h4, q]), h2, h4⟩
def shkU (a b : Nat) (S : Ab) : Int32 × Ab := if S.A.gl.testBit a || S.A.gl.testBit b then (-4, S) else (nI (handF S.R S.A.gl (prN a b) S.A.W a).length, S.setA (S.A.setW (handF S.R S.A.gl (prN a b) S.A.W)))
theorem pr_P {a b P : Nat} (ha : a < P) (hb : b < P) (hP : P ≤ 6) (h : a ≠ b) : prN a b < 15 ∧ gre (prN a b) < P := by
  obtain ⟨h1, -, h3⟩ := pr_ok a (by omega) b (by omega) h
  refine ⟨h1, ?_⟩
  rw [h3]
  exact Nat.max_lt.mpr ⟨ha, hb⟩
theorem sim_shake (a0 : Int32) (a1 : Int32) : Sm (fun M => X_ShakeHands_shake fuel a0 a1 M) (fun M => X_Model_shake fuel a0 a1 M) := by
  refine Sm_u (u := fun S => if two a0 a1 S.R.1 then shkU (pN a0) (pN a1) S else (-1, S)) (fun M S hS hM => ?_) (fun M S hS hM => ?_) (fun S hS => ?_)
  · dsimp only
    unfold X_ShakeHands_shake
    rw [x_areTwo hM.c.1, bd_ret]
    by_cases h : two a0 a1 S.R.1 = true
    · obtain ⟨h1, h2, h3, h4, h5⟩ := two_y hS.p31 h
      have h6 := hS.p6
      have hg := hS.gl
      rw [if_pos h]
      unfold two at h
      rw [if_pos h, if_neg i10]
      generalize pN a0 = a at *
      generalize pN a1 = b at *
      subst h4 h5
      obtain ⟨hp, hp2⟩ := pr_P h1 h2 h6 h3
      rw [hM.a.1, bit_or2 (by omega) (by omega) (by omega)]
      unfold shkU
      by_cases e : (S.A.gl.testBit a || S.A.gl.testBit b) = true
      · rw [if_pos e, if_pos e, if_neg i10]
        exact ⟨M, rfl, hM⟩
      · rw [if_neg e, if_neg e, if_pos rfl, x_pairOf fuel (by omega) (by omega) h3, bd_ret]
        obtain ⟨r, M', g1, g2, g3, -⟩ := circ_meet fuel (by decide) hS.hR hM.c (rows := 17) (by decide) hS.hA.1 hM.a.2.2.1 (show S.A.gl < 2 ^ 31 by omega) hp
        have hW' := hS.hA.1.hand hS.hR S.A.gl (prN a b) a
        rw [g1, bd_ret, gd_in (vp_in_nI (by omega) (by decide)), nI_clamp (by omega), g3 a (by omega), row_size fuel hW'.1 hW'.2, bd_ret]
        exact ⟨M', rfl, hM.newW g2 g3⟩
    · rw [if_neg h]
      unfold two at h
      rw [if_neg h, if_pos rfl]
      exact ⟨M, rfl, hM⟩
  · dsimp only
    unfold X_Model_shake
    rw [m_areTwo hS.p31 hM.c.1, bd_ret]
    by_cases h : two a0 a1 S.R.1 = true
    · obtain ⟨h1, h2, h3, h4, h5⟩ := two_y hS.p31 h
      have h6 := hS.p6
      have hg := hS.gl
      rw [if_pos h]
      unfold two at h
      rw [if_pos h, if_neg i10]
      generalize pN a0 = a at *
      generalize pN a1 = b at *
      subst h4 h5
      obtain ⟨hp, hp2⟩ := pr_P h1 h2 h6 h3
      have ga := hM.a.2.1 a (by omega)
      have gb := hM.a.2.1 b (by omega)
      rw [Nat.zero_add] at ga gb
      rw [show (60 : Int32) = nI 60 from rfl, nI_add, nI_add, gd_in (vp_in_nI (by omega) (by decide)), nI_clamp (by omega), nI_clamp (by omega), ga, gb]
      unfold shkU
      have hb1 : ∀ c : Bool, nI (if c then 1 else 0) = 1 ↔ c = true := fun c => by cases c <;> decide
      by_cases e : S.A.gl.testBit a = true
      · rw [if_pos ((hb1 _).mpr e), if_pos (by simp [e])]
        exact ⟨M, rfl, hM⟩
      · rw [if_neg (fun q => e ((hb1 _).mp q)), gd_in (vp_in_nI (by omega) (by decide))]
        by_cases e2 : S.A.gl.testBit b = true
        · rw [if_pos ((hb1 _).mpr e2), if_pos (by simp [e2])]
          exact ⟨M, rfl, hM⟩
        · rw [if_neg (fun q => e2 ((hb1 _).mp q)), if_neg (by simp [e, e2]), m_pairOf fuel (by omega) (by omega) h3, bd_ret]
          obtain ⟨M', g1, g2, g3⟩ := m_shakesNow hS hM hp
          have := (g3 a (by omega)).1
          rw [Nat.zero_add] at this
          rw [g1, bd_ret, show (10 : Int32) = nI 10 from rfl, pk_mul, gd_in (vp_in_nI (by omega) (by decide)), nI_clamp (by omega), this]
          exact ⟨M', rfl, g2⟩
    · rw [if_neg h]
      unfold two at h
      rw [if_neg h, if_pos rfl]
      exact ⟨M, rfl, hM⟩
  · split
    · next h =>
      obtain ⟨h1, h2, h3, h4, h5⟩ := two_y hS.p31 h
      unfold shkU
      split
      · exact hS
      · obtain ⟨hp, hp2⟩ := pr_P h1 h2 hS.p6 h3
        exact hS.newA (hS.hA.setW (hS.hA.1.hand hS.hR _ _) (handF_end hp hp2 hS.hA.2.1))
    · exact hS
