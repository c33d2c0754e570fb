/-! CALLS: lay, feed -/
def nar (l : Nat) (v : Int32) : Int32 := if l = 0 then v.toInt8.toInt32 else if l = 1 then v.toInt16.toInt32 else v
def layF (k : Nat) (p v : Int32) (S : Ab) : Int32 × Ab := match S.sh k with
  | none => (-11, S)
  | some q => if vN p q.2 then (1, shU k (some q) (fun i => if i = pN p then nar q.1 v else S.ce k i) S) else (-12, S)
theorem nar_x {l : Nat} (hl : l < 3) (v : Int32) {α : Type} (F : Int32 → α) : (if nI l = 0 then F v.toInt8.toInt32 else if nI l = 1 then F v.toInt16.toInt32 else F v) = F (nar l v) := by
  match l, hl with
  | 0, _ => rfl
  | 1, _ => rfl
  | 2, _ => rfl
theorem sim_lay (a0 : Int32) (a1 : Int32) (a2 : Int32) : Sm (fun M => X_ShakeHands_lay fuel a0 a1 a2 M) (fun M => X_Model_lay fuel a0 a1 a2 M) := by
  refine Sm_u (u := fun S => if vN a0 4 then layF (pN a0) a1 a2 S else (-1, S)) (fun M S hS hM => ?_) (fun M S hS hM => ?_) (fun S hS => ?_)
  · dsimp only
    unfold X_ShakeHands_lay
    rw [x_isSheet, bd_ret]
    by_cases h : vN a0 4 = true
    · obtain ⟨h1, h2⟩ := vN_y (by decide) h
      rw [if_pos h, if_pos h, if_neg i10]
      generalize pN a0 = k at *
      subst h2
      have hs := hM.sh k h1
      rw [gd_in (vp_in_nI (by omega) (by decide)), nI_clamp (by omega), sh_id h1]
      unfold layF
      cases hq : S.sh k with
      | none =>
        dsimp only
        rw [x_fault_none hS hM h1 hq, bd_ret, if_neg i10]
        exact ⟨M, rfl, hM⟩
      | some q =>
        obtain ⟨l, z⟩ := q
        rw [hq] at hs
        obtain ⟨s1, s2, s3, s4⟩ := hs
        have s1 : M.1 (41 + 2 * k) 0 = 1 := s1
        have s2 : M.1 (41 + 2 * k) 1 = nI z := s2
        have s3 : M.1 (41 + 2 * k) 2 = nI l := s3
        have hlz := hS.hs k l z hq
        dsimp only
        by_cases hv : vN a1 z = true
        · obtain ⟨h3, h4⟩ := vN_y (by omega) hv
          rw [x_fault_in hS hM h1 hq hv, bd_ret, if_pos hv, if_pos rfl, gd_in (vp_in_nI (by omega) (by decide))]
          have hput : X_Sheet_put fuel (41 + 2 * k) a1 a2 M = some ((), si M (42 + 2 * k) (pN a1) (nar l a2)) := by
            unfold X_Sheet_put
            rw [x_fault_in hS hM h1 hq hv, bd_ret, if_pos rfl, s3]
            unfold nm
            dsimp only
            rw [nar_x hlz.1 a2 (fun u3 => gd a1 40 (some ((), si M (41 + 2 * k + 1) (a1.toNatClampNeg) u3)))]
            generalize pN a1 = i at *
            subst h4
            rw [gd_in (vp_in_nI (by omega) (by decide)), nI_clamp (by omega), show 41 + 2 * k + 1 = 42 + 2 * k by omega]
          rw [hput, bd_ret]
          refine ⟨_, rfl, hM.newSh h1 (Off.si (by simp)) ⟨?_, ?_, ?_, fun i hi => ?_⟩⟩
          · rw [si_ne (Or.inl (by omega))]; exact s1
          · rw [si_ne (Or.inl (by omega))]; exact s2
          · rw [si_ne (Or.inl (by omega))]; exact s3
          · show _ = if i = pN a1 then nar l a2 else S.ce k i
            by_cases e : i = pN a1
            · rw [if_pos e, e, si_at]
            · rw [if_neg e, si_ne (Or.inr e)]; exact s4 i hi
        · rw [x_fault_out hS hM h1 hq hv, bd_ret, if_neg hv, if_neg (by decide)]
          exact ⟨M, rfl, hM⟩
    · rw [if_neg h, if_neg h, if_pos rfl]
      exact ⟨M, rfl, hM⟩
  · dsimp only
    unfold X_Model_lay
    rw [m_isSheet, bd_ret, show vN 0 3 = true by decide, Bool.and_true]
    by_cases h : vN a0 4 = true
    · obtain ⟨h1, h2⟩ := vN_y (by decide) h
      rw [if_pos h, if_pos h, if_neg i10]
      generalize pN a0 = k at *
      subst h2
      have hs := hM.sh k h1
      have hv4 : vp_in (nI k) 4 := vp_in_nI (by omega) (by decide)
      simp only [gd_in hv4]
      rw [nI_clamp (by omega)]
      unfold layF
      cases hq : S.sh k with
      | none =>
        rw [hq] at hs
        have hs : M.1 23 k = -4 := hs
        dsimp only
        rw [if_pos hs]
        exact ⟨M, rfl, hM⟩
      | some q =>
        obtain ⟨l, z⟩ := q
        rw [hq] at hs
        obtain ⟨s1, s2, s3⟩ := hs
        have hlz := hS.hs k l z hq
        dsimp only
        have e3 := m_inV fuel (P := z) (by omega) a1 M
        rw [s1, if_neg (i_ne4 (by omega)), s2, e3, bd_ret]
        by_cases hv : vN a1 z = true
        · obtain ⟨h3, h4⟩ := vN_y (by omega) hv
          rw [if_pos hv, if_pos hv, if_neg i10]
          simp only [nm]
          rw [s1, nar_x hlz.1 a2 (fun u5 => gd (((40 : Int32) * nI k) + a1) 160 (some (1, si M 25 ((((40 : Int32) * nI k) + a1).toNatClampNeg) u5)))]
          generalize pN a1 = i at *
          subst h4
          rw [show (40 : Int32) = nI 40 from rfl, pk_mul, nI_add, gd_in (vp_in_nI (by omega) (by decide)), nI_clamp (by omega)]
          refine ⟨_, rfl, hM.newSh hS (Fr.si (Or.inr (Or.inr ⟨rfl, by omega, by omega⟩))) ⟨?_, ?_, fun j hj => ?_⟩⟩
          · rw [si_ne (Or.inl (by omega))]; exact s1
          · rw [si_ne (Or.inl (by omega))]; exact s2
          · show _ = if j = i then nar l a2 else S.ce k j
            by_cases e : j = i
            · rw [if_pos e, e, si_at]
            · rw [if_neg e, si_ne (Or.inr (by omega))]; exact s3 j hj
        · rw [if_neg hv, if_neg hv, if_pos rfl]
          exact ⟨M, rfl, hM⟩
    · rw [if_neg h, if_neg h, if_pos rfl]
      exact ⟨M, rfl, hM⟩
  · split
    · unfold layF
      cases hq : S.sh (pN a0) with
      | none => exact hS
      | some q =>
        dsimp only
        split
        · exact hS.newSh (fun l z hq2 => by cases hq2; exact hS.hs _ _ _ hq)
        · exact hS
    · exact hS
