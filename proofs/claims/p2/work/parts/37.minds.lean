/-! CALLS: who knows what -/
def Ab.setA (S : Ab) (m : Mi) : Ab := (S.1, m, S.2.2)
def xA : List Nat := [16, 17, 18, 4, 5, 6, 7, 8, 9, 10, 15, 26, 27, 28, 29, 30, 31, 32, 33, 34, 35, 36, 37, 38, 39, 49]
theorem xA_in {a : Nat} (h : a ∈ xA) : (4 ≤ a ∧ a ≤ 10) ∨ a = 15 ∨ (26 ≤ a ∧ a ≤ 39) ∨ a = 49 ∨ (16 ≤ a ∧ a ≤ 18) := by
  simp only [xA, List.mem_cons, List.not_mem_nil, or_false] at h
  omega
theorem xS_xA {a : Nat} (h : a ∈ xS) : a ∈ xA := by
  simp only [xS, List.mem_cons, List.not_mem_nil, or_false] at h
  simp only [xA, List.mem_cons, List.not_mem_nil, or_false]
  omega
theorem XA.newA {M M' : Mem} {S : Ab} {m : Mi} (h : XA M S) (ho : Off xA M M') (ha : XMi M' 16 m) : XA M' (S.setA m) :=
  ⟨h.c.off ho (by decide), ha, fun k hk hs => (h.i k hk hs).off ho (fun q => by have := xA_in q; omega) (fun q => by have := xA_in q; omega) (fun q => by have := xA_in q; omega),
  (congrFun (ho 0 (by decide)).1 9).trans h.kp, (congrFun (ho 0 (by decide)).1 10).trans h.tn, (congrFun (ho 1 (by decide)).1 1).trans h.tl,
  fun i x hx => (congrFun (ho 2 (by decide)).1 i).trans (h.tb i x hx), (congrFun (ho 3 (by decide)).1 3).trans h.ft,
  fun k hk => (h.sh k hk).off ho (fun q => by have := xA_in q; omega) (fun q => by have := xA_in q; omega)⟩
def mA (a k : Nat) : Prop := mS a k ∨ (a = 1 ∧ k < 78)
theorem MA.newA {M M' : Mem} {S : Ab} {m : Mi} (hS : Ok S) (h : MA M S) (ho : Fr mA M M') (ha : MMi M' 0 m) : MA M' (S.setA m) :=
  ⟨h.c.fr ho (fun k hk => by simp only [List.mem_cons, List.not_mem_nil, or_false] at hk; unfold mA mS; omega) (fun a k ha => by simp only [List.mem_cons, List.not_mem_nil, or_false] at ha; unfold mA mS; omega), ha,
  fun k hk hs => (h.i k hk hs).fr (hS.hI k hk hs).1 ho (fun k _ _ => by unfold mA mS; omega),
  fun k hk => by rw [(ho 2 k (by unfold mA mS; omega)).1]; exact h.kp k hk,
  by rw [(ho 0 54 (by unfold mA mS; omega)).1]; exact h.tn,
  by rw [(ho 0 26 (by unfold mA mS; omega)).1]; exact h.tl,
  fun i x hx => by rw [(ho 14 i (by unfold mA mS; omega)).1]; exact h.tb i x hx,
  by rw [(ho 0 31 (by unfold mA mS; omega)).1]; exact h.ft,
  fun k hk => (h.sh k hk).fr ho (fun a j _ _ => by unfold mA mS; omega)⟩
theorem Ok.newA {S : Ab} {m : Mi} (h : Ok S) (hm : OkMi S.R.1 m) : Ok (S.setA m) := ⟨h.hR, hm, h.hI, h.hk, h.ht, h.hb, h.hf, h.hn, h.hs⟩
def Mi.setW (m : Mi) (W : Nat → List Nat) : Mi := (W, m.2)
theorem XA.newW {M M' : Mem} {S : Ab} {W : Nat → List Nat} (h : XA M S) (ho : Off [15, 17] M M') (hr : rowsAt M' 17 W) : XA M' (S.setA (S.A.setW W)) := by
  refine h.newA (ho.mono (by decide)) ⟨?_, ?_, hr, fun p hp hs => ?_⟩
  · rw [(ho 16 (by decide)).1]; exact h.a.1
  · rw [(ho 16 (by decide)).1]; exact h.a.2.1
  · rw [(ho 18 (by decide)).1]; exact h.a.2.2.2 p hp hs
theorem MA.newW {M M' : Mem} {S : Ab} {W : Nat → List Nat} (hS : Ok S) (h : MA M S) (ho : Fr (fun a k => mS a k ∨ rg 1 0 60 a k) M M') (hr : LyM M' 1 0 W) : MA M' (S.setA (S.A.setW W)) := by
  refine h.newA hS (ho.mono (fun a k q => q.elim Or.inl (fun r => Or.inr ⟨r.1, by have := r.2; omega⟩))) ⟨hr, h.a.2.1.fr ho (fun k _ _ => by unfold mS rg; omega), h.a.2.2.1.fr ho (fun k _ _ => by unfold mS rg; omega), fun p hp hs => ?_⟩
  rw [(ho 1 _ (by unfold mS rg; omega)).1]
  exact h.a.2.2.2 p hp hs
theorem sim_join (a0 : Int32) (a1 : Int32) : Sm (fun M => X_ShakeHands_join fuel a0 a1 M) (fun M => X_Model_join fuel a0 a1 M) := by
  refine Sm_q (q := fun S => if vN a0 S.R.2.2.1.length then (if vN a1 3 then nI (let q := S.R.2.2.1.getD (pN a0) (0, 0, 0); [q.1, q.2.1, q.2.2].getD (pN a1) 0) else -1) else -1) (fun M S hS hM => ⟨M, ?_, Off.rf⟩) (fun M S hS hM => ⟨M, ?_, Fr.rf⟩)
  · dsimp only
    have l1 := hS.hR.2.2.2.2.1
    have un : X_ShakeHands_join fuel a0 a1 M = if vN a0 S.R.2.2.1.length then (if vN a1 3 then gd (((3 : Int32) * a0) + a1) 12 (some ((M.1 12 (((3 : Int32) * a0) + a1).toNatClampNeg), M)) else some (-1, M)) else some (-1, M) := by
      unfold X_ShakeHands_join
      rw [hM.c.2.2.1, x_in, show (3 : Nat) = 2 + 1 from rfl]
      by_cases h : vN a0 S.R.2.2.1.length = true
      · rw [if_pos h, if_pos h, ← x_in]
        by_cases h0 : a1 < 0
        · rw [if_pos h0, if_pos h0]
        · rw [if_neg h0, if_neg h0]
          by_cases h2 : a1 ≤ 2
          · have : ¬ nI (2 + 1) ≤ a1 := by
              rw [Int32.le_iff_toInt_le] at *
              have e1 : (nI (2 + 1)).toInt = 3 := rfl
              have e2 : (2 : Int32).toInt = 2 := rfl
              omega
            rw [if_pos h2, if_neg this]
          · have : nI (2 + 1) ≤ a1 := by
              rw [Int32.le_iff_toInt_le] at *
              have e1 : (nI (2 + 1)).toInt = 3 := rfl
              have e2 : (2 : Int32).toInt = 2 := rfl
              omega
            rw [if_neg h2, if_pos this]
      · rw [if_neg h, if_neg h]
    rw [un]
    split
    · next h =>
      obtain ⟨h1, h2⟩ := vN_y (by omega) h
      split
      · next h' =>
        obtain ⟨h3, h4⟩ := vN_y (by omega) h'
        obtain ⟨b1, b2, b3⟩ := hM.c.2.2.2.2.2.1 _ _ (List.getElem?_eq_getElem h1)
        have hg : S.R.2.2.1.getD (pN a0) (0, 0, 0) = S.R.2.2.1[pN a0] := by rw [List.getD_eq_getElem?_getD, List.getElem?_eq_getElem h1]; rfl
        rw [hg]
        generalize S.R.2.2.1[pN a0] = q at *
        generalize pN a0 = j at *
        generalize pN a1 = i at *
        subst h2 h4
        rw [show (3 : Int32) = nI 3 from rfl, pk_mul, nI_add, gd_in (vp_in_nI (by omega) (by decide)), nI_clamp (by omega)]
        match i, h3 with
        | 0, _ => rw [Nat.add_zero, b1]; rfl
        | 1, _ => rw [b2]; rfl
        | 2, _ => rw [b3]; rfl
      · rfl
    · rfl
  · dsimp only
    have l1 := hS.hR.2.2.2.2.1
    unfold X_Model_join
    have e3 := m_inV fuel (P := 3) (by decide) a1 M
    rw [show (nI 3 - 1 : Int32).toInt64 = 2 by decide] at e3
    rw [hM.c.2.2.1, m_inV fuel (by omega), bd_ret, e3, bd_ret]
    by_cases h : vN a0 S.R.2.2.1.length = true
    · rw [if_pos h, if_pos h, if_neg i10]
      obtain ⟨h1, h2⟩ := vN_y (by omega) h
      by_cases h' : vN a1 3 = true
      · rw [if_pos h', if_pos h', if_neg i10]
        obtain ⟨h3, h4⟩ := vN_y (by omega) h'
        obtain ⟨b1, b2, b3⟩ := hM.c.2.2.2.2.2.1 _ _ (List.getElem?_eq_getElem h1)
        have hg : S.R.2.2.1.getD (pN a0) (0, 0, 0) = S.R.2.2.1[pN a0] := by rw [List.getD_eq_getElem?_getD, List.getElem?_eq_getElem h1]; rfl
        rw [hg]
        generalize S.R.2.2.1[pN a0] = q at *
        generalize pN a0 = j at *
        generalize pN a1 = i at *
        subst h2 h4
        rw [show (3 : Int32) = nI 3 from rfl, pk_mul, nI_add, gd_in (vp_in_nI (by omega) (by decide)), nI_clamp (by omega)]
        match i, h3 with
        | 0, _ => rw [Nat.add_zero, b1]; rfl
        | 1, _ => rw [b2]; rfl
        | 2, _ => rw [b3]; rfl
      · rw [if_neg h', if_neg h', if_pos rfl]
    · rw [if_neg h, if_neg h, if_pos rfl]
theorem sim_knows (a0 : Int32) : Sm (fun M => X_ShakeHands_knows fuel a0 M) (fun M => X_Model_knows fuel a0 M) := by
  refine Sm_q (q := fun S => if vN a0 S.R.1 then nI (knN (S.A.W (pN a0))) else -1) (fun M S hS hM => ⟨M, ?_, Off.rf⟩) (fun M S hS hM => ?_)
  · dsimp only
    unfold X_ShakeHands_knows
    rw [x_isOne fuel hM.c.1, bd_ret]
    by_cases h : vN a0 S.R.1 = true
    · obtain ⟨h1, h2⟩ := vN_y hS.p31 h
      have h6 := hS.p6
      rw [if_pos h, if_pos h, if_neg i10]
      generalize pN a0 = p at *
      subst h2
      rw [gd_in (vp_in_nI (by omega) (by decide)), nI_clamp (by omega), hM.a.2.2.1 p (by omega), row_known fuel (hS.hA.1 p).1 (hS.hA.1 p).2, bd_ret]
    · rw [if_neg h, if_neg h, if_pos rfl]
  · dsimp only
    unfold X_Model_knows
    rw [m_isOne fuel hS.p31 hM.c.1, bd_ret]
    by_cases h : vN a0 S.R.1 = true
    · obtain ⟨h1, h2⟩ := vN_y hS.p31 h
      rw [if_pos h, if_pos h, if_neg i10]
      generalize pN a0 = p at *
      subst h2
      rw [m_knowsNow hS hM h1, bd_ret]
      exact ⟨_, rfl, mh_S (m0_fr M)⟩
    · rw [if_neg h, if_neg h, if_pos rfl]
      exact ⟨_, rfl, Fr.rf⟩
theorem sim_row (a0 : Int32) (a1 : Int32) : Sm (fun M => X_ShakeHands_row fuel a0 a1 M) (fun M => X_Model_row fuel a0 a1 M) := by
  refine Sm_q (q := fun S => if vN a0 S.R.1 then (if 0 ≤ a1 then (if nI (S.A.W (pN a0)).length ≤ a1 then -4 else nI ((S.A.W (pN a0)).getD (pN a1) 0)) else -1) else -1) (fun M S hS hM => ⟨M, ?_, Off.rf⟩) (fun M S hS hM => ⟨M, ?_, Fr.rf⟩)
  · dsimp only
    unfold X_ShakeHands_row
    rw [x_isOne fuel hM.c.1, bd_ret]
    by_cases h : vN a0 S.R.1 = true
    · obtain ⟨h1, h2⟩ := vN_y hS.p31 h
      have h6 := hS.p6
      rw [if_pos h, if_pos h, if_neg i10]
      generalize pN a0 = p at *
      subst h2
      have hW := hS.hA.1 p
      split
      · next h3 =>
        rw [gd_in (vp_in_nI (by omega) (by decide)), nI_clamp (by omega), hM.a.2.2.1 p (by omega)]
        unfold nm
        dsimp only
        rw [row_size fuel hW.1 hW.2, bd_ret]
        split
        · rfl
        · next h4 =>
          have hv : vN a1 (S.A.W p).length = true := by
            unfold vN
            simp only [Bool.and_eq_true, decide_eq_true_eq]
            exact ⟨h3, Int32.not_le.mp h4⟩
          obtain ⟨h5, h7⟩ := vN_y (by omega) hv
          generalize pN a1 = i at *
          subst h7
          rw [row_thing fuel hW.1 hW.2 h5, bd_ret, List.getD_eq_getElem?_getD, List.getElem?_eq_getElem h5]
          rfl
      · rfl
    · rw [if_neg h, if_neg h, if_pos rfl]
  · dsimp only
    unfold X_Model_row
    rw [m_isOne fuel hS.p31 hM.c.1, bd_ret]
    by_cases h : vN a0 S.R.1 = true
    · obtain ⟨h1, h2⟩ := vN_y hS.p31 h
      have h6 := hS.p6
      rw [if_pos h, if_pos h, if_neg i10]
      generalize pN a0 = p at *
      subst h2
      have hW := hS.hA.1 p
      have hr := hM.a.1 p (by omega)
      rw [Nat.zero_add] at hr
      split
      · next h3 =>
        rw [show (10 : Int32) = nI 10 from rfl, pk_mul, gd_in (vp_in_nI (by omega) (by decide)), nI_clamp (by omega), hr.1]
        split
        · rfl
        · next h4 =>
          have hv : vN a1 (S.A.W p).length = true := by
            unfold vN
            simp only [Bool.and_eq_true, decide_eq_true_eq]
            exact ⟨h3, Int32.not_le.mp h4⟩
          obtain ⟨h5, h7⟩ := vN_y (by omega) hv
          generalize pN a1 = i at *
          subst h7
          rw [nI_1, nI_add, gd_in (vp_in_nI (by omega) (by decide)), nI_clamp (by omega), hr.2 i _ (List.getElem?_eq_getElem h5), List.getD_eq_getElem?_getD, List.getElem?_eq_getElem h5]
          rfl
      · rfl
    · rw [if_neg h, if_neg h, if_pos rfl]
theorem m_whoNow {M : Mem} {S : Ab} (hS : Ok S) (h : MA M S) {t : Nat} (ht : t < 16) : X_Model_whoNow fuel (nI t) M = some (nI (whoN S.A.W t S.R.1), m0 M) := by
  unfold X_Model_whoNow
  have hc : MC (m0 M) S.R := h.c.mh (m0_fr M)
  rw [show (0 : Int32) = nI 0 from rfl, m0_b, bd_ret, m_whoIn fuel (by decide) hc.1 hS.p6 (by decide) ht hS.hA.1 (m0_ly hS h), bd_ret]
theorem x_whoNow {M : Mem} {S : Ab} (hS : Ok S) (h : XA M S) {t : Nat} (ht : t < 16) : X_Minds_knowers fuel 17 (nI t) M = some (nI (whoN S.A.W t S.R.1), M) := by
  rw [minds_knowers fuel (by decide) hS.hA.1 h.a.2.2.1 ht, whoN_6 hS.p6 hS.hA.2.1]
theorem sim_who (a0 : Int32) : Sm (fun M => X_ShakeHands_who fuel a0 M) (fun M => X_Model_who fuel a0 M) := by
  refine Sm_q (q := fun S => if vN a0 16 then nI (whoN S.A.W (pN a0) S.R.1) else -1) (fun M S hS hM => ⟨M, ?_, Off.rf⟩) (fun M S hS hM => ?_)
  · dsimp only
    unfold X_ShakeHands_who
    rw [x_isThing, bd_ret]
    by_cases h : vN a0 16 = true
    · obtain ⟨h1, h2⟩ := vN_y (by decide) h
      rw [if_pos h, if_pos h, if_neg i10]
      generalize pN a0 = t at *
      subst h2
      rw [x_whoNow hS hM h1, bd_ret]
    · rw [if_neg h, if_neg h, if_pos rfl]
  · dsimp only
    unfold X_Model_who
    rw [m_isThing, bd_ret]
    by_cases h : vN a0 16 = true
    · obtain ⟨h1, h2⟩ := vN_y (by decide) h
      rw [if_pos h, if_pos h, if_neg i10]
      generalize pN a0 = t at *
      subst h2
      rw [m_whoNow hS hM h1, bd_ret]
      exact ⟨_, rfl, mh_S (m0_fr M)⟩
    · rw [if_neg h, if_neg h, if_pos rfl]
      exact ⟨_, rfl, Fr.rf⟩
