/-! CALLS: glove, saw, blind, shake, feast, days -/
def clN (k t : Nat) : Nat := if k.testBit t then k ^^^ 2 ^ t else k
theorem clN_bit (k t i : Nat) : (clN k t).testBit i = (k.testBit i && decide (i ≠ t)) := by
  unfold clN
  by_cases e : i = t
  · subst e
    by_cases h : k.testBit i
    · rw [if_pos h, Nat.testBit_xor, Nat.testBit_two_pow]; simp [h]
    · rw [if_neg h]; simp [h]
  · have e2 : ¬ t = i := fun q => e q.symm
    by_cases h : k.testBit t
    · rw [if_pos h, Nat.testBit_xor, Nat.testBit_two_pow]; simp [e, e2]
    · rw [if_neg h]; simp [e]
theorem lt_bits {k P : Nat} (h : ∀ i, P ≤ i → k.testBit i = false) : k < 2 ^ P := Nat.lt_pow_two_of_testBit _ h
theorem clN_lt {k t P : Nat} (h : k < 2 ^ P) : clN k t < 2 ^ P := lt_bits (fun i hi => by
  rw [clN_bit, Nat.testBit_lt_two_pow (Nat.lt_of_lt_of_le h (Nat.pow_le_pow_right (by decide) hi))]
  rfl)
theorem i_m1 : (-1 : Int32) = nI (2 ^ 32 - 1) := by decide
theorem i_com {m : Nat} (a : Nat) (h : m < 2 ^ 32) : nI a &&& (nI m ^^^ (-1)) = nI (a &&& (m ^^^ (2 ^ 32 - 1))) := by rw [i_m1, i_xor, i_and]
theorem com_bit {m i : Nat} (h : i < 32) : (m ^^^ (2 ^ 32 - 1)).testBit i = !m.testBit i := by
  rw [Nat.testBit_xor, Nat.testBit_two_pow_sub_one]
  cases m.testBit i <;> simp [h]
theorem i_clr {k t : Nat} (ht : t < 32) (hk : k < 2 ^ 32) : nI k &&& (((1 : Int32) <<< (nI t &&& 31)) ^^^ (-1)) = nI (clN k t) := by
  rw [i_shl1 ht, i_com k (Nat.pow_lt_pow_right (by decide) ht)]
  congr 1
  apply Nat.eq_of_testBit_eq
  intro i
  rw [Nat.testBit_and, clN_bit]
  by_cases h : i < 32
  · rw [com_bit h, Nat.testBit_two_pow]
    by_cases e : i = t
    · subst e; simp
    · have e2 : ¬ t = i := fun q => e q.symm
      simp [e, e2]
  · rw [Nat.testBit_lt_two_pow (Nat.lt_of_lt_of_le hk (Nat.pow_le_pow_right (by decide) (by omega)))]
    rfl
theorem or_bit (k t i : Nat) : (k ||| 2 ^ t).testBit i = (k.testBit i || decide (t = i)) := by rw [Nat.testBit_or, Nat.testBit_two_pow]
theorem or_lt {k t P : Nat} (h : k < 2 ^ P) (ht : t < P) : k ||| 2 ^ t < 2 ^ P := Nat.or_lt_two_pow h (Nat.pow_lt_pow_right (by decide) ht)
theorem b_iu {k t : Nat} (hk : k < 2 ^ 32) (ht : t < 32) : (((nI k).toUInt32 >>> ((nI t).toUInt32 &&& Int32.toUInt32 31)).toInt32 &&& 1) = nI (if k.testBit t then 1 else 0) := by
  rw [bit_iu hk ht]
  cases k.testBit t <;> rfl
theorem GlM.set {M : Mem} {b g p g' : Nat} {v : Int32} (h : GlM M b g) (hv : v = nI (if g'.testBit p then 1 else 0)) (hg : ∀ i, i ≠ p → g'.testBit i = g.testBit i) : GlM (si M 1 (b + p) v) b g' := fun q hq => by
  by_cases e : q = p
  · rw [e, si_at, hv]
  · rw [si_ne (Or.inr (by omega)), hg q e]
    exact h q hq
def glvU (p : Nat) (v : Int32) (S : Ab) : Int32 × Ab := (nI (if S.A.gl.testBit p then 1 else 0), S.setA (S.A.W, (if v = 0 then clN S.A.gl p else S.A.gl ||| 2 ^ p), S.A.2.2))
theorem sim_glove (a0 : Int32) (a1 : Int32) : Sm (fun M => X_ShakeHands_glove fuel a0 a1 M) (fun M => X_Model_glove fuel a0 a1 M) := by
  refine Sm_u (u := fun S => if vN a0 S.R.1 then glvU (pN a0) a1 S else (-1, S)) (fun M S hS hM => ?_) (fun M S hS hM => ?_) (fun S hS => ?_)
  · dsimp only
    unfold X_ShakeHands_glove
    rw [x_isOne fuel hM.c.1, bd_ret]
    by_cases h : vN a0 S.R.1 = true
    · obtain ⟨h1, h2⟩ := vN_y hS.p31 h
      have h6 := hS.p6
      have hg := hS.gl
      rw [if_pos h, if_pos h, if_neg i10]
      generalize pN a0 = p at *
      subst h2
      simp only [nm]
      rw [hM.a.1, b_iu (by omega) (by omega), i_clr (by omega) (by omega), i_shl1 (by omega), i_or]
      unfold glvU
      have key : ∀ g', XA (si M 16 1 (nI g')) (S.setA (S.A.W, g', S.A.2.2)) := fun g' => by
        refine hM.newA (Off.si (by decide)) ⟨si_at _ _ _ _, ?_, ?_, ?_⟩
        · rw [si_ne (Or.inr (by decide))]; exact hM.a.2.1
        · exact hM.a.2.2.1
        · intro q hq hs
          rw [si_ne (Or.inl (by decide))]
          exact hM.a.2.2.2 q hq hs
      by_cases e : a1 = 0
      · rw [if_pos e, if_pos e]
        exact ⟨_, rfl, key _⟩
      · rw [if_neg e, if_neg e]
        exact ⟨_, rfl, key _⟩
    · rw [if_neg h, if_neg h, if_pos rfl]
      exact ⟨M, rfl, hM⟩
  · dsimp only
    unfold X_Model_glove
    rw [m_isOne fuel hS.p31 hM.c.1, bd_ret]
    by_cases h : vN a0 S.R.1 = true
    · obtain ⟨h1, h2⟩ := vN_y hS.p31 h
      have h6 := hS.p6
      have hg := hS.gl
      rw [if_pos h, if_pos h, if_neg i10]
      generalize pN a0 = p at *
      subst h2
      have e60 := hM.a.2.1 p (by omega)
      rw [show 0 + 60 + p = 60 + p by omega] at e60
      rw [show (60 : Int32) = nI 60 from rfl, nI_add, gd_in (vp_in_nI (by omega) (by decide)), nI_clamp (by omega)]
      unfold nm X_Model_flag
      dsimp only
      have hv : vp_in (nI (60 + p)) 234 := vp_in_nI (by omega) (by decide)
      have key : ∀ (v : Int32) g', v = nI (if g'.testBit p then 1 else 0) → (∀ i, i ≠ p → g'.testBit i = S.A.gl.testBit i) → MA (si M 1 (60 + p) v) (S.setA (S.A.W, g', S.A.2.2)) := fun v g' e1 e2 => by
        have fr : Fr (rg 1 60 6) M (si M 1 (60 + p) v) := Fr.si ⟨rfl, by omega, by omega⟩
        refine hM.newA hS (fr.mono (fun a k q => Or.inr ⟨q.1, by have := q.2; omega⟩)) ⟨hM.a.1.fr hS.hA.1 fr (fun k _ _ => by unfold rg; omega), ?_, hM.a.2.2.1.fr fr (fun k _ _ => by unfold rg; omega), fun q hq hs => ?_⟩
        · have := hM.a.2.1.set e1 e2
          rwa [show 0 + 60 + p = 60 + p by omega] at this
        · rw [si_ne (Or.inr (by omega))]
          exact hM.a.2.2.2 q hq hs
      unfold glvU
      by_cases e : a1 = 0
      · rw [if_pos e, bd_ret, gd_in hv, e60, if_pos e]
        exact ⟨_, rfl, key 0 _ (by rw [clN_bit]; simp; rfl) (fun i hi => by rw [clN_bit]; simp [hi])⟩
      · rw [if_neg e, bd_ret, gd_in hv, e60, if_neg e]
        exact ⟨_, rfl, key 1 _ (by rw [or_bit]; simp; rfl) (fun i hi => by rw [or_bit]; simp [show ¬ p = i from fun q => hi q.symm])⟩
    · rw [if_neg h, if_neg h, if_pos rfl]
      exact ⟨M, rfl, hM⟩
  · split
    · next h =>
      obtain ⟨h1, h2⟩ := vN_y hS.p31 h
      refine hS.newA ⟨hS.hA.1, hS.hA.2.1, ?_, hS.hA.2.2.2⟩
      show (if a1 = 0 then clN S.A.gl (pN a0) else S.A.gl ||| 2 ^ pN a0) < _
      split
      · exact clN_lt hS.hA.2.2.1
      · exact or_lt hS.hA.2.2.1 h1
    · exact hS
theorem pop_mod (g : Nat) : ∀ P d, g < 2 ^ P → popN (P + d) g = popN P g
  | P, 0, _ => rfl
  | P, d + 1, h => by
    show (if g.testBit (P + d) then 1 else 0) + popN (P + d) g = _
    rw [Nat.testBit_lt_two_pow (Nat.lt_of_lt_of_le h (Nat.pow_le_pow_right (by decide) (by omega))), pop_mod g P d h]
    simp
theorem pop_16 {g P : Nat} (h : g < 2 ^ P) (hP : P ≤ 16) : popN 16 g = popN P g := by
  have := pop_mod g P (16 - P) h
  rwa [show P + (16 - P) = 16 by omega] at this
theorem m_seen {M : Mem} {P g : Nat} (hP : M.1 0 2 = nI P) (hP6 : P ≤ 6) (hg : g < 2 ^ P) (hM : GlM M 66 g) : X_Model_seen fuel M = some (nI (popN 16 g), M) := by
  have key : ∀ (d i f : Nat), P - i = d → i ≤ P → d < f → X_Model_seen_L4 fuel M f (nI (popN i g)) (nI i) = some (nI (popN P g), M) := by
    intro d
    induction d with
    | zero =>
      intro i f h1 h2 h3
      obtain ⟨f, rfl⟩ : ∃ g, f = g + 1 := ⟨f - 1, by omega⟩
      have e : i = P := by omega
      subst e
      show (if M.1 0 2 ≤ nI i then _ else _) = _
      rw [hP, if_pos (nI_le (by omega) (by omega))]
    | succ d ih =>
      intro i f h1 h2 h3
      obtain ⟨f, rfl⟩ : ∃ g, f = g + 1 := ⟨f - 1, by omega⟩
      have hi : i < 6 := by omega
      show (if M.1 0 2 ≤ nI i then _ else gd ((66 : Int32) + nI i) 234 (X_Model_seen_L4 fuel M f (nI (popN i g) + (M.1 1 ((66 : Int32) + nI i).toNatClampNeg)) (nI i + 1))) = _
      rw [hP, if_neg (nI_ge (by omega) (by omega)), show (66 : Int32) = nI 66 from rfl, nI_add, gd_in (vp_in_nI (by omega) (by decide)), nI_clamp (by omega), hM i hi, nI_add, nI_1, Nat.add_comm (popN i g)]
      exact ih (i + 1) f (by omega) (by omega) (by omega)
  rw [pop_16 hg (by omega)]
  exact key _ 0 fuel rfl (Nat.zero_le _) (by have := fu; omega)
theorem v64 (p : Int32) : vN p 65536 = (decide (0 ≤ p) && decide (p < 65536)) := rfl
def sawU (p : Nat) (x : Nat) (S : Ab) : Int32 × Ab := (nI (popN 16 (S.A.sn ||| 2 ^ p)), S.setA (S.A.W, S.A.gl, S.A.sn ||| 2 ^ p, fun q => if q = p then x else S.A.sg q))
theorem sim_saw (a0 : Int32) (a1 : Int32) : Sm (fun M => X_ShakeHands_saw fuel a0 a1 M) (fun M => X_Model_saw fuel a0 a1 M) := by
  refine Sm_u (u := fun S => if vN a0 S.R.1 then (if vN a1 65536 then sawU (pN a0) (pN a1) S else (-1, S)) else (-1, S)) (fun M S hS hM => ?_) (fun M S hS hM => ?_) (fun S hS => ?_)
  · dsimp only
    unfold X_ShakeHands_saw
    rw [x_isOne fuel hM.c.1, bd_ret]
    by_cases h : vN a0 S.R.1 = true
    · obtain ⟨h1, h2⟩ := vN_y hS.p31 h
      have h6 := hS.p6
      have hg := hS.sn
      rw [if_pos h, if_pos h, if_neg i10]
      by_cases h' : vN a1 65536 = true
      · obtain ⟨h3, h4⟩ := vN_y (by decide) h'
        rw [if_pos h']
        unfold vN at h'
        simp only [Bool.and_eq_true, decide_eq_true_eq] at h'
        rw [if_neg (Int32.not_lt.mpr h'.1), if_pos (show a1 < 65536 from h'.2)]
        generalize pN a0 = p at *
        generalize pN a1 = x at *
        subst h2 h4
        rw [gd_in (vp_in_nI (by omega) (by decide)), nI_clamp (by omega), hM.a.2.1, i_shl1 (by omega), i_or]
        simp only [nm]
        have e : (si (si M 16 2 (nI (S.A.sn ||| 2 ^ p))) 18 p (nI x)).1 16 2 = nI (S.A.sn ||| 2 ^ p) := by rw [si_ne (Or.inl (by decide)), si_at]
        have hl := or_lt (t := p) hS.hA.2.2.2.1 h1
        have hw := hS.pw
        rw [e, bitCount_eq _ (by omega), bd_ret]
        refine ⟨_, rfl, hM.newA ((Off.si (by decide)).trans (Off.si (by decide))) ⟨?_, e, ?_, ?_⟩⟩
        · rw [si_ne (Or.inl (by decide)), si_ne (Or.inr (by decide))]; exact hM.a.1
        · exact hM.a.2.2.1
        · intro q hq hs
          show _ = nI (if q = p then x else S.A.sg q)
          by_cases e2 : q = p
          · rw [if_pos e2, e2]; exact si_at _ _ _ _
          · rw [if_neg e2, si_ne (Or.inr e2), si_ne (Or.inl (by decide))]
            refine hM.a.2.2.2 q hq ?_
            have hs' : (S.A.sn ||| 2 ^ p).testBit q = true := hs
            rw [or_bit] at hs'
            simpa [show ¬ p = q from fun z => e2 z.symm] using hs'
      · rw [if_neg h']
        rcases vN_n h' with h3 | h3
        · rw [if_pos h3]; exact ⟨M, rfl, hM⟩
        · rw [if_neg (show ¬ a1 < 65536 from Int32.not_lt.mpr h3)]
          by_cases h5 : a1 < 0
          · rw [if_pos h5]; exact ⟨M, rfl, hM⟩
          · rw [if_neg h5]; exact ⟨M, rfl, hM⟩
    · rw [if_neg h, if_neg h, if_pos rfl]
      exact ⟨M, rfl, hM⟩
  · dsimp only
    unfold X_Model_saw
    have e3 := m_inV fuel (P := 65536) (by decide) a1 M
    rw [show (nI 65536 - 1 : Int32).toInt64 = 65535 by decide] at e3
    rw [m_isOne fuel hS.p31 hM.c.1, bd_ret, e3, bd_ret]
    by_cases h : vN a0 S.R.1 = true
    · obtain ⟨h1, h2⟩ := vN_y hS.p31 h
      have h6 := hS.p6
      have hg := hS.sn
      rw [if_pos h, if_pos h, if_neg i10]
      by_cases h' : vN a1 65536 = true
      · obtain ⟨h3, h4⟩ := vN_y (by decide) h'
        rw [if_pos h', if_pos h', if_neg i10]
        generalize pN a0 = p at *
        generalize pN a1 = x at *
        subst h2 h4
        rw [show (66 : Int32) = nI 66 from rfl, show (72 : Int32) = nI 72 from rfl, nI_add, nI_add, gd_in (vp_in_nI (by omega) (by decide)), gd_in (vp_in_nI (by omega) (by decide)), nI_clamp (by omega), nI_clamp (by omega)]
        simp only [nm]
        have fr : Fr (rg 1 66 12) M (si (si M 1 (66 + p) 1) 1 (72 + p) (nI x)) := (Fr.si ⟨rfl, by omega, by omega⟩).trans (Fr.si ⟨rfl, by omega, by omega⟩)
        have hG : GlM (si (si M 1 (66 + p) 1) 1 (72 + p) (nI x)) 66 (S.A.sn ||| 2 ^ p) := by
          have h66 := hM.a.2.2.1
          rw [Nat.zero_add] at h66
          have := h66.set (p := p) (g' := S.A.sn ||| 2 ^ p) (v := 1) (by rw [or_bit]; simp; rfl) (fun i hi => by rw [or_bit]; simp [show ¬ p = i from fun q => hi q.symm])
          exact this.fr (P := rg 1 72 6) (Fr.si ⟨rfl, by omega, by omega⟩) (fun k _ _ => by unfold rg; omega)
        have hl := or_lt (t := p) hS.hA.2.2.2.1 h1
        have e2 : (si (si M 1 (66 + p) 1) 1 (72 + p) (nI x)).1 0 2 = nI S.R.1 := by rw [(fr 0 2 (by unfold rg; omega)).1]; exact hM.c.1
        rw [m_seen e2 h6 hl hG, bd_ret]
        refine ⟨_, rfl, hM.newA hS (fr.mono (fun a k q => Or.inr ⟨q.1, by have := q.2; omega⟩)) ⟨hM.a.1.fr hS.hA.1 fr (fun k _ _ => by unfold rg; omega), hM.a.2.1.fr fr (fun k _ _ => by unfold rg; omega), hG, fun q hq hs => ?_⟩⟩
        show _ = nI (if q = p then x else S.A.sg q)
        rw [show 0 + 72 + q = 72 + q by omega]
        by_cases e2 : q = p
        · rw [if_pos e2, e2]; exact si_at _ _ _ _
        · rw [if_neg e2, si_ne (Or.inr (by omega)), si_ne (Or.inr (by omega))]
          have := hM.a.2.2.2 q hq (by
            have hs' : (S.A.sn ||| 2 ^ p).testBit q = true := hs
            rw [or_bit] at hs'
            simpa [show ¬ p = q from fun z => e2 z.symm] using hs')
          rwa [show 0 + 72 + q = 72 + q by omega] at this
      · rw [if_neg h', if_neg h', if_pos rfl]
        exact ⟨M, rfl, hM⟩
    · rw [if_neg h, if_neg h, if_pos rfl]
      exact ⟨M, rfl, hM⟩
  · split
    · next h =>
      obtain ⟨h1, h2⟩ := vN_y hS.p31 h
      split
      · next h' =>
        obtain ⟨h3, h4⟩ := vN_y (by decide) h'
        refine hS.newA ⟨hS.hA.1, hS.hA.2.1, hS.hA.2.2.1, or_lt hS.hA.2.2.2.1 h1, fun q => ?_⟩
        show (if q = pN a0 then pN a1 else S.A.sg q) < 65536
        split
        · exact h3
        · exact hS.hA.2.2.2.2 q
      · exact hS
    · exact hS
