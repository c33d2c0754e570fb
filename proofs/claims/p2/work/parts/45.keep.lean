/-! CALLS: keep, back -/
def updI (I : Nat → Mi) (k : Nat) (m : Mi) : Nat → Mi := fun j => if j = k then m else I j
def kpU (k : Nat) (S : Ab) : Int32 × Ab := (nI (if S.kp.testBit k then 1 else 0), (S.R, S.A, updI S.I k S.A, S.kp ||| 2 ^ k, S.tp, S.ft, S.tn, S.sh, S.ce))
theorem x_isImage (p : Int32) (M : Mem) : X_ShakeHands_isImage fuel p M = some (if vN p 2 then 1 else 0, M) := by
  unfold X_ShakeHands_isImage
  rw [show (2 : Int32) = nI 2 from rfl, x_in]
  split <;> rfl
theorem cpI_at {M : Mem} {a sp b dp n k : Nat} (h : k < n) : (cpI M a sp b dp n).1 b (dp + k) = M.1 a (sp + k) := cp_at h
theorem minds_copy (o q : Nat) (hq : q + 2 < o ∨ o + 2 < q) {M : Mem} {m : Mi} (h : XMi M q m) : ∃ M', X_Minds_copy fuel o q M = some ((), M') ∧ XMi M' o m ∧ Off [o, o + 1, o + 2] M M' := by
  obtain ⟨a1, a2, a3, a4⟩ := h
  have un : X_Minds_copy fuel o q M = some ((), cpI (si (si (cpL M (q + 1) 0 (o + 1) 0 6) o 1 ((cpL M (q + 1) 0 (o + 1) 0 6).1 q 1)) o 2 ((si (cpL M (q + 1) 0 (o + 1) 0 6) o 1 ((cpL M (q + 1) 0 (o + 1) 0 6).1 q 1)).1 q 2)) (q + 2) 0 (o + 2) 0 6) := by
    unfold X_Minds_copy gc nm
    rw [if_neg (by decide)]
    dsimp only
    rw [if_neg (by decide)]
    rfl
  have e1 : (cpL M (q + 1) 0 (o + 1) 0 6).1 q 1 = nI m.gl := a1
  have e2 : (si (cpL M (q + 1) 0 (o + 1) 0 6) o 1 (nI m.gl)).1 q 2 = nI m.sn := by rw [si_ne (Or.inl (by omega))]; exact a2
  rw [e1, e2] at un
  refine ⟨_, un, ⟨?_, ?_, ?_, ?_⟩, ?_⟩
  · rw [(cpI_off (by omega)).1, si_ne (Or.inr (by decide)), si_at]
  · rw [(cpI_off (by omega)).1, si_at]
  · intro p hp
    show (if o + 1 = o + 1 ∧ 0 ≤ p ∧ p < 0 + 6 then M.2 (q + 1) (0 + (p - 0)) else _) = _
    rw [if_pos ⟨rfl, by omega, by omega⟩, Nat.zero_add, Nat.sub_zero]
    exact a3 p hp
  · intro p hp hs
    have := cp_at (M := si (si (cpL M (q + 1) 0 (o + 1) 0 6) o 1 (nI m.gl)) o 2 (nI m.sn)) (a := q + 2) (sp := 0) (b := o + 2) (dp := 0) (n := 6) hp
    rw [Nat.zero_add] at this
    rw [this, si_ne (Or.inl (by omega)), si_ne (Or.inl (by omega))]
    exact a4 p hp hs
  · exact (((Off.cpL (by simp)).trans (Off.si (by simp))).trans (Off.si (by simp))).trans (Off.cpI (by simp))
theorem img_id {k : Nat} (hk : k < 2) : ([20, 23] : List Nat).getD k 0 = 20 + 3 * k := by
  match k, hk with
  | 0, _ => rfl
  | 1, _ => rfl
theorem kp_set {k j kp : Nat} : (kp ||| 2 ^ k).testBit j = (kp.testBit j || decide (k = j)) := or_bit _ _ _
theorem m_keep_L {k : Nat} (hk : k < 2) (a2 : Int32) (N : Mem) : X_Model_keep_L31 fuel (nI k) a2 fuel (nI 0) N = some (a2, cpI N 1 0 1 (78 * (k + 1)) 78) := by
  have key : ∀ (d i f : Nat), 78 - i = d → i ≤ 78 → d < f → X_Model_keep_L31 fuel (nI k) a2 f (nI i) (cpI N 1 0 1 (78 * (k + 1)) i) = some (a2, cpI N 1 0 1 (78 * (k + 1)) 78) := by
    intro d
    induction d with
    | zero =>
      intro i f h1 h2 h3
      obtain ⟨f, rfl⟩ : ∃ g, f = g + 1 := ⟨f - 1, by omega⟩
      have e : i = 78 := by omega
      subst e
      show (if (78 : Int32) ≤ nI 78 then _ else _) = _
      rw [if_pos (by decide)]
    | succ d ih =>
      intro i f h1 h2 h3
      obtain ⟨f, rfl⟩ : ∃ g, f = g + 1 := ⟨f - 1, by omega⟩
      generalize hN : cpI N 1 0 1 (78 * (k + 1)) i = P
      show (if (78 : Int32) ≤ nI i then _ else gd (nI i) 234 (gd (((78 : Int32) * (nI k + 1)) + nI i) 234 (X_Model_keep_L31 fuel (nI k) a2 f (nI i + 1) (si P 1 ((((78 : Int32) * (nI k + 1)) + nI i).toNatClampNeg) (P.1 1 (nI i).toNatClampNeg))))) = _
      rw [if_neg (show ¬ (78 : Int32) ≤ nI i from nI_ge (b := 78) (by omega) (by decide)), gd_in (vp_in_nI (by omega) (by decide)), nI_1, show (78 : Int32) = nI 78 from rfl, pk_mul, nI_add, gd_in (vp_in_nI (by omega) (by decide)), nI_clamp (by omega), nI_clamp (by omega), nI_1, ← hN]
      have := cp_step (M := N) (a := 1) (sp := 0) (b := 1) (dp := 78 * (k + 1)) (i := i) (Or.inr (Or.inl (by omega)))
      rw [Nat.zero_add] at this
      rw [this]
      exact ih (i + 1) f (by omega) (by omega) (by omega)
  have := key 78 0 fuel rfl (by decide) (by decide)
  rw [cp_0] at this
  exact this
theorem MMi.cp {N : Mem} {sp dp : Nat} {m : Mi} (h : MMi N sp m) (hW : OkW m.W) : MMi (cpI N 1 sp 1 dp 78) dp m := by
  obtain ⟨a1, a2, a3, a4⟩ := h
  refine ⟨fun p hp => ⟨?_, fun i t hi => ?_⟩, fun p hp => ?_, fun p hp => ?_, fun p hp hs => ?_⟩
  · rw [cp_at (by omega)]; exact (a1 p hp).1
  · have hl := (List.getElem?_eq_some_iff.mp hi).1
    have := (hW p).2
    rw [show dp + 10 * p + 1 + i = dp + (10 * p + 1 + i) by omega, cp_at (by omega), ← (a1 p hp).2 i t hi, show sp + 10 * p + 1 + i = sp + (10 * p + 1 + i) by omega]
  · rw [show dp + 60 + p = dp + (60 + p) by omega, cp_at (by omega), ← a2 p hp, show sp + 60 + p = sp + (60 + p) by omega]
  · rw [show dp + 66 + p = dp + (66 + p) by omega, cp_at (by omega), ← a3 p hp, show sp + 66 + p = sp + (66 + p) by omega]
  · rw [show dp + 72 + p = dp + (72 + p) by omega, cp_at (by omega), ← a4 p hp hs, show sp + 72 + p = sp + (72 + p) by omega]
theorem sim_keep (a0 : Int32) : Sm (fun M => X_ShakeHands_keep fuel a0 M) (fun M => X_Model_keep fuel a0 M) := by
  refine Sm_u (u := fun S => if vN a0 2 then kpU (pN a0) S else (-1, S)) (fun M S hS hM => ?_) (fun M S hS hM => ?_) (fun S hS => ?_)
  · dsimp only
    have hk4 := hS.hk
    unfold X_ShakeHands_keep
    rw [x_isImage, bd_ret]
    by_cases h : vN a0 2 = true
    · obtain ⟨h1, h2⟩ := vN_y (by decide) h
      rw [if_pos h, if_pos h, if_neg i10]
      generalize pN a0 = k at *
      subst h2
      simp only [nm]
      rw [hM.kp, b_iu (by omega) (by omega), gd_in (vp_in_nI (by omega) (by decide)), nI_clamp (by omega), img_id h1]
      obtain ⟨M1, g1, g2, g3⟩ := minds_copy (20 + 3 * k) 16 (by omega) hM.a
      have e9 : M1.1 0 9 = nI S.kp := by rw [(g3 0 (by simp; omega)).1]; exact hM.kp
      rw [g1, bd_ret, e9, i_shl1 (by omega), i_or]
      have hf : Off [20 + 3 * k, 20 + 3 * k + 1, 20 + 3 * k + 2, 0] M (si M1 0 9 (nI (S.kp ||| 2 ^ k))) := (g3.mono (by simp)).trans (Off.si (by simp))
      have off : ∀ a, a ≠ 0 → (a < 20 ∨ 26 ≤ a) → (si M1 0 9 (nI (S.kp ||| 2 ^ k))).1 a = M.1 a := fun a h1 h2 => (hf a (by simp; omega)).1
      refine ⟨_, rfl, ?_⟩
      refine ⟨hM.c.off hf (by simp; omega), hM.a.off hf (by simp; omega) (by simp; omega) (by simp; omega), fun j hj hs => ?_, si_at _ _ _ _, ?_, ?_, fun i x hx => ?_, ?_, fun j hj => (hM.sh j hj).off hf (by simp; omega) (by simp; omega)⟩
      · show XMi _ (20 + 3 * j) (if j = k then S.A else S.I j)
        by_cases e : j = k
        · rw [if_pos e, e]
          exact g2.off (S := [0]) (Off.si (by simp)) (by simp) (by simp) (by simp)
        · rw [if_neg e]
          have hs' : (S.kp ||| 2 ^ k).testBit j = true := hs
          rw [kp_set] at hs'
          have hs2 : S.kp.testBit j = true := by simpa [show ¬ k = j from fun z => e z.symm] using hs'
          exact (hM.i j hj hs2).off hf (by simp; omega) (by simp; omega) (by simp; omega)
      · rw [si_ne (Or.inr (by decide)), (g3 0 (by simp; omega)).1]; exact hM.tn
      · rw [off 1 (by decide) (by decide)]; exact hM.tl
      · rw [off 2 (by decide) (by decide)]; exact hM.tb i x hx
      · rw [off 3 (by decide) (by decide)]; exact hM.ft
    · rw [if_neg h, if_neg h, if_pos rfl]
      exact ⟨M, rfl, hM⟩
  · dsimp only
    unfold X_Model_keep
    have e3 := m_inV fuel (P := 2) (by decide) a0 M
    rw [show (nI 2 - 1 : Int32).toInt64 = 1 by decide] at e3
    rw [e3, bd_ret]
    by_cases h : vN a0 2 = true
    · obtain ⟨h1, h2⟩ := vN_y (by decide) h
      rw [if_pos h, if_pos h, if_neg i10]
      generalize pN a0 = k at *
      subst h2
      have fl : ∀ (c : Bool) (N : Mem), X_Model_flag fuel (nI (if c then 1 else 0)) N = some (nI (if c then 1 else 0), N) := fun c N => by cases c <;> rfl
      have hv : vp_in (nI k) 2 := vp_in_nI (by omega) (by decide)
      rw [gd_in hv, nI_clamp (by omega), hM.kp k h1, fl, bd_ret, gd_in hv, show vp_nar .boolean 1 = 1 from rfl, show (0 : Int32) = nI 0 from rfl, m_keep_L h1]
      generalize hP : si M 2 k 1 = P
      have hf1 : Fr (fun a j => a = 2 ∧ j = k) M P := by rw [← hP]; exact Fr.si ⟨rfl, rfl⟩
      have hf : Fr (fun a j => (a = 2 ∧ j = k) ∨ rg 1 (78 * (k + 1)) 78 a j) M (cpI P 1 0 1 (78 * (k + 1)) 78) := (hf1.mono (fun _ _ h => Or.inl h)).trans (Fr.cpI (fun j h1 h2 => Or.inr ⟨rfl, h1, h2⟩))
      refine ⟨_, rfl, ?_⟩
      refine ⟨hM.c.fr hf (fun j hj => by simp only [List.mem_cons, List.not_mem_nil, or_false] at hj; unfold rg; omega) (fun a j ha => by simp only [List.mem_cons, List.not_mem_nil, or_false] at ha; unfold rg; omega), hM.a.fr hS.hA.1 hf (fun j _ _ => by unfold rg; omega), fun j hj hs => ?_, fun j hj => ?_, ?_, ?_, fun i x hx => ?_, ?_, fun j hj => (hM.sh j hj).fr hf (fun a i _ _ => by unfold rg; omega)⟩
      · show MMi _ (78 * (j + 1)) (if j = k then S.A else S.I j)
        by_cases e : j = k
        · rw [if_pos e, e]
          exact (hM.a.fr hS.hA.1 hf1 (fun j _ _ => by omega)).cp hS.hA.1
        · rw [if_neg e]
          have hs' : (S.kp ||| 2 ^ k).testBit j = true := hs
          rw [kp_set] at hs'
          have hs2 : S.kp.testBit j = true := by simpa [show ¬ k = j from fun z => e z.symm] using hs'
          exact (hM.i j hj hs2).fr (hS.hI j hj hs2).1 hf (fun i _ _ => by unfold rg; omega)
      · show _ = nI (if (S.kp ||| 2 ^ k).testBit j then 1 else 0)
        rw [(cpI_off (by decide)).1, kp_set, ← hP]
        by_cases e : j = k
        · rw [e, si_at]; simp; rfl
        · rw [si_ne (Or.inr e), hM.kp j hj]
          simp [show ¬ k = j from fun z => e z.symm]
      · rw [(hf 0 54 (by unfold rg; omega)).1]; exact hM.tn
      · rw [(hf 0 26 (by unfold rg; omega)).1]; exact hM.tl
      · rw [(hf 14 i (by unfold rg; omega)).1]; exact hM.tb i x hx
      · rw [(hf 0 31 (by unfold rg; omega)).1]; exact hM.ft
    · rw [if_neg h, if_neg h, if_pos rfl]
      exact ⟨M, rfl, hM⟩
  · split
    · next h =>
      obtain ⟨h1, h2⟩ := vN_y (by decide) h
      refine ⟨hS.hR, hS.hA, fun j hj hs => ?_, ?_, hS.ht, hS.hb, hS.hf, hS.hn, hS.hs⟩
      · show OkMi S.R.1 (if j = pN a0 then S.A else S.I j)
        split
        · exact hS.hA
        · next e =>
          have hs' : (S.kp ||| 2 ^ pN a0).testBit j = true := hs
          rw [kp_set] at hs'
          exact hS.hI j hj (by simpa [show ¬ pN a0 = j from fun z => e z.symm] using hs')
      · exact or_lt (P := 2) hS.hk h1
    · exact hS
theorem m_back_L {k : Nat} (hk : k < 2) (kx : Mem → Option (Int32 × Mem)) (N : Mem) : X_Model_back_L26 fuel (nI k) kx fuel (nI 0) N = kx (cpI N 1 (78 * (k + 1)) 1 0 78) := by
  have key : ∀ (d i f : Nat), 78 - i = d → i ≤ 78 → d < f → X_Model_back_L26 fuel (nI k) kx f (nI i) (cpI N 1 (78 * (k + 1)) 1 0 i) = kx (cpI N 1 (78 * (k + 1)) 1 0 78) := by
    intro d
    induction d with
    | zero =>
      intro i f h1 h2 h3
      obtain ⟨f, rfl⟩ : ∃ g, f = g + 1 := ⟨f - 1, by omega⟩
      have e : i = 78 := by omega
      subst e
      show (if (78 : Int32) ≤ nI 78 then _ else _) = _
      rw [if_pos (by decide)]
    | succ d ih =>
      intro i f h1 h2 h3
      obtain ⟨f, rfl⟩ : ∃ g, f = g + 1 := ⟨f - 1, by omega⟩
      generalize hN : cpI N 1 (78 * (k + 1)) 1 0 i = P
      show (if (78 : Int32) ≤ nI i then _ else gd (((78 : Int32) * (nI k + 1)) + nI i) 234 (gd (nI i) 234 (X_Model_back_L26 fuel (nI k) kx f (nI i + 1) (si P 1 ((nI i).toNatClampNeg) (P.1 1 (((78 : Int32) * (nI k + 1)) + nI i).toNatClampNeg))))) = _
      rw [if_neg (show ¬ (78 : Int32) ≤ nI i from nI_ge (b := 78) (by omega) (by decide)), nI_1, show (78 : Int32) = nI 78 from rfl, pk_mul, nI_add, gd_in (vp_in_nI (by omega) (by decide)), gd_in (vp_in_nI (by omega) (by decide)), nI_clamp (by omega), nI_clamp (by omega), nI_1, ← hN]
      have := cp_step (M := N) (a := 1) (sp := 78 * (k + 1)) (b := 1) (dp := 0) (i := i) (Or.inr (Or.inr (by omega)))
      rw [Nat.zero_add] at this
      rw [this]
      exact ih (i + 1) f (by omega) (by omega) (by omega)
  have := key 78 0 fuel rfl (by decide) (by decide)
  rw [cp_0] at this
  exact this
def bkU (k : Nat) (S : Ab) : Int32 × Ab := (nI (anyN (S.I k).W S.R.1), S.setA (S.I k))
theorem sim_back (a0 : Int32) : Sm (fun M => X_ShakeHands_back fuel a0 M) (fun M => X_Model_back fuel a0 M) := by
  refine Sm_u (u := fun S => if vN a0 2 then (if S.kp.testBit (pN a0) then bkU (pN a0) S else (-2, S)) else (-1, S)) (fun M S hS hM => ?_) (fun M S hS hM => ?_) (fun S hS => ?_)
  · dsimp only
    have hk4 := hS.hk
    unfold X_ShakeHands_back
    rw [x_isImage, bd_ret]
    by_cases h : vN a0 2 = true
    · obtain ⟨h1, h2⟩ := vN_y (by decide) h
      rw [if_pos h, if_pos h, if_neg i10]
      generalize pN a0 = k at *
      subst h2
      rw [hM.kp, b_iu (by omega) (by omega)]
      by_cases e : S.kp.testBit k = true
      · rw [if_pos e, if_pos e, if_neg (by decide), gd_in (vp_in_nI (by omega) (by decide)), nI_clamp (by omega), img_id h1]
        obtain ⟨M1, g1, g2, g3⟩ := minds_copy 16 (20 + 3 * k) (by omega) (hM.i k h1 e)
        have hm := hS.hI k h1 e
        rw [g1, bd_ret, minds_known fuel (by decide) hm.1 g2.2.2.1, anyN_6 hS.p6 hm.2.1, bd_ret]
        exact ⟨M1, rfl, hM.newA (g3.mono (by decide)) g2⟩
      · rw [if_neg e, if_neg e, if_pos (by decide)]
        exact ⟨M, rfl, hM⟩
    · rw [if_neg h, if_neg h, if_pos rfl]
      exact ⟨M, rfl, hM⟩
  · dsimp only
    unfold X_Model_back
    have e3 := m_inV fuel (P := 2) (by decide) a0 M
    rw [show (nI 2 - 1 : Int32).toInt64 = 1 by decide] at e3
    rw [e3, bd_ret]
    by_cases h : vN a0 2 = true
    · obtain ⟨h1, h2⟩ := vN_y (by decide) h
      rw [if_pos h, if_pos h, if_neg i10]
      generalize pN a0 = k at *
      subst h2
      rw [gd_in (vp_in_nI (by omega) (by decide)), nI_clamp (by omega), hM.kp k h1]
      by_cases e : S.kp.testBit k = true
      · rw [if_pos e, if_pos e, if_neg (by decide), show (0 : Int32) = nI 0 from rfl, m_back_L h1]
        have hm := hS.hI k h1 e
        have hf : Fr (rg 1 0 78) M (cpI M 1 (78 * (k + 1)) 1 0 78) := Fr.cpI (fun j h1 h2 => ⟨rfl, h1, h2⟩)
        have hA : MA (cpI M 1 (78 * (k + 1)) 1 0 78) (S.setA (S.I k)) := hM.newA hS (hf.mono (fun a j q => Or.inr ⟨q.1, by have := q.2; omega⟩)) ((hM.i k h1 e).cp hm.1)
        have hO : Ok (S.setA (S.I k)) := hS.newA hm
        rw [m_anyNow hO hA, bd_ret]
        exact ⟨_, rfl, hA.fr hO (mh_S (m0_fr _))⟩
      · rw [if_neg e, if_neg e, if_pos (by decide)]
        exact ⟨M, rfl, hM⟩
    · rw [if_neg h, if_neg h, if_pos rfl]
      exact ⟨M, rfl, hM⟩
  · split
    · next h =>
      obtain ⟨h1, h2⟩ := vN_y (by decide) h
      split
      · next e => exact hS.newA (hS.hI _ h1 e)
      · exact hS
    · exact hS
