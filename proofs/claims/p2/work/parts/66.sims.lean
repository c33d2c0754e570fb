/-! CALLS: fewest, lose -/
theorem sim_fewest (a0 a1 a2 a3 : Int32) : Sm (fun M => X_ShakeHands_fewest fuel a0 a1 a2 a3 M) (fun M => X_Model_fewest fuel a0 a1 a2 a3 M) := by
  intro Mx Mm hR
  have hR0 := hR
  obtain ⟨S, hS, hx, hm⟩ := hR
  have hg := hS.gl
  have h6 := hS.p6
  have hpw := pw6 h6
  show ∃ r Mx2 Mm2, X_ShakeHands_fewest fuel a0 a1 a2 a3 Mx = some (r, Mx2) ∧ X_Model_fewest fuel a0 a1 a2 a3 Mm = some (r, Mm2) ∧ Rel Mx2 Mm2
  generalize hu : (if 10 ≤ a3 ∧ a3 ≤ 13 then (1 : Int32) else 0) = u1
  have ux : X_ShakeHands_fewest fuel a0 a1 a2 a3 Mx = (if vN a0 16 then (if vN a1 (2 ^ S.R.1) then (if vN a2 (2 ^ S.R.1) then (if a3 = 0 ∨ ¬ u1 = 0 then (bd (X_Search_begin fuel Mx) fun _ M9 => bd (X_Search_aim fuel a0 a1 0 a2 M9) fun _ M11 => bd (X_Search_fewestHands fuel M11) fun r12 M13 => (if u1 = 0 then some (r12, M13) else (if r12 = (-4) then some (r12, M13) else (if r12 ≤ (a3 - 10) then some ((-4), M13) else gd (a3 - 10) 6 (some ((M13.1 27 (a3 - 10).toNatClampNeg), M13)))))) else some (-1, Mx)) else some (-1, Mx)) else some (-1, Mx)) else some (-1, Mx)) := by
    have body : ∀ u1 : Int32, (bd (X_ShakeHands_isThing fuel a0 Mx) fun r2 M3 => (if r2 = 0 then some ((-1), M3) else bd (X_ShakeHands_arePeople fuel a1 M3) fun r4 M5 => (if r4 = 0 then some ((-1), M5) else bd (X_ShakeHands_arePeople fuel a2 M5) fun r6 M7 => (if r6 = 0 then some ((-1), M7) else nm (bd (X_Search_begin fuel M7) fun _ M9 => bd (X_Search_aim fuel a0 a1 0 a2 M9) fun _ M11 => bd (X_Search_fewestHands fuel M11) fun r12 M13 => (if u1 = 0 then some (r12, M13) else (if r12 = (-4) then some (r12, M13) else (if r12 ≤ (a3 - 10) then some ((-4), M13) else gd (a3 - 10) 6 (some ((M13.1 27 (a3 - 10).toNatClampNeg), M13))))) : Option (Int32 × Mem)) fun k56 => (if a3 = 0 then k56 else (if u1 = 0 then some ((-1), M7) else k56))))) : Option (Int32 × Mem)) = (if vN a0 16 then (if vN a1 (2 ^ S.R.1) then (if vN a2 (2 ^ S.R.1) then (if a3 = 0 ∨ ¬ u1 = 0 then (bd (X_Search_begin fuel Mx) fun _ M9 => bd (X_Search_aim fuel a0 a1 0 a2 M9) fun _ M11 => bd (X_Search_fewestHands fuel M11) fun r12 M13 => (if u1 = 0 then some (r12, M13) else (if r12 = (-4) then some (r12, M13) else (if r12 ≤ (a3 - 10) then some ((-4), M13) else gd (a3 - 10) 6 (some ((M13.1 27 (a3 - 10).toNatClampNeg), M13)))))) else some (-1, Mx)) else some (-1, Mx)) else some (-1, Mx)) else some (-1, Mx)) := fun u1 => by
      rw [x_isThing, bd_ret, x_areP h6 hx.c.1, bd_ret, x_areP h6 hx.c.1, bd_ret]
      cases vN a0 16 with
      | false => rfl
      | true =>
        cases vN a1 (2 ^ S.R.1) with
        | false => rfl
        | true =>
          cases vN a2 (2 ^ S.R.1) with
          | false => rfl
          | true =>
            simp only [nm, if_true, if_neg i10]
            by_cases e1 : a3 = 0
            · rw [if_pos e1, if_pos (Or.inl e1)]
            · rw [if_neg e1]
              by_cases e2 : u1 = 0
              · rw [if_pos e2, if_neg (fun q => q.elim e1 (fun r => r e2))]
              · rw [if_neg e2, if_pos (Or.inr e2)]
    rw [← body u1]
    show (if a3 < 10 then _ else (if 14 ≤ a3 then _ else _)) = _
    rcases t_cases a3 with ⟨q1, q2⟩ | ⟨q1, q2, q3, -⟩ | ⟨k, q1, q2⟩
    · rw [if_pos q1, ← hu, if_neg q2]
    · rw [if_neg q2, if_pos q1, ← hu, if_neg q3]
    · have h10 : ¬ a3 < 10 := by rw [q2]; exact Int32.not_lt.mpr (nI_le (a := 10) (by omega) (by omega))
      have h14 : ¬ (14 : Int32) ≤ a3 := by rw [q2]; exact nI_ge (b := 14) (by omega) (by omega)
      have hin : 10 ≤ a3 ∧ a3 ≤ 13 := ⟨Int32.not_lt.mp h10, by rw [q2]; exact nI_le (b := 13) (by omega) (by decide)⟩
      rw [if_neg h10, if_neg h14, ← hu, if_pos hin]
  have um : X_Model_fewest fuel a0 a1 a2 a3 Mm = (if vN a0 16 then (if vN a1 (2 ^ S.R.1) then (if vN a2 (2 ^ S.R.1) then (if a3 = 0 ∨ ¬ u1 = 0 then (bd (X_Model_asks fuel 0 a0 a1 a2 Mm) fun _ M9 => bd (X_Model_fewestHands fuel M9) fun r10 M11 => (if r10 = (-4) then some ((-4), M11) else (if a3 = 0 then some (r10, M11) else (if r10 ≤ (a3 - 10) then some ((-4), M11) else gd (a3 - 10) 4 (some ((M11.1 18 (a3 - 10).toNatClampNeg), M11)))))) else some (-1, Mm)) else some (-1, Mm)) else some (-1, Mm)) else some (-1, Mm)) := by
    unfold X_Model_fewest
    rw [m_isThing, bd_ret, m_areP fuel h6 hm.c.1, bd_ret, m_areP fuel h6 hm.c.1, bd_ret, show X_Model_in fuel a3.toInt64 10 13 Mm = _ from m_in fuel a3 10 13 Mm, hu]
    cases vN a0 16 with
    | false => rfl
    | true =>
      cases vN a1 (2 ^ S.R.1) with
      | false => rfl
      | true =>
        cases vN a2 (2 ^ S.R.1) with
        | false => rfl
        | true =>
          simp only [nm, bd_ret, if_true, if_neg i10]
          by_cases e1 : a3 = 0
          · rw [if_pos e1, if_pos (Or.inl e1)]
          · rw [if_neg e1]
            by_cases e2 : u1 = 0
            · rw [if_pos e2, if_neg (fun q => q.elim e1 (fun r => r e2))]
            · rw [if_neg e2, if_pos (Or.inr e2)]
  rw [ux, um]
  cases ev0 : vN a0 16 with
  | false => exact ⟨_, _, _, rfl, rfl, hR0⟩
  | true =>
    cases ev1 : vN a1 (2 ^ S.R.1) with
    | false => exact ⟨_, _, _, rfl, rfl, hR0⟩
    | true =>
      cases ev2 : vN a2 (2 ^ S.R.1) with
      | false => exact ⟨_, _, _, rfl, rfl, hR0⟩
      | true =>
        rw [if_pos rfl, if_pos rfl, if_pos rfl, if_pos rfl, if_pos rfl, if_pos rfl]
        by_cases eok : a3 = 0 ∨ ¬ u1 = 0
        · rw [if_pos eok, if_pos eok]
          obtain ⟨b1, b2⟩ := vN_y (by decide) ev0
          obtain ⟨c1, c2⟩ := vN_y (by omega) ev1
          obtain ⟨d1, d2⟩ := vN_y (by omega) ev2
          obtain ⟨r, M', f1, f2, f3⟩ := x_look hS hx (t := pN a0) (so := pN a1) (sh := 0) (ne := pN a2) b1 (by omega) (by decide)
          obtain ⟨r', M2, g1, g2, g3⟩ := m_look hS hm (t := pN a0) (so := pN a1) (ot := pN a2) b1 (by omega)
          rw [← b2, ← c2, ← d2] at f1 g1
          rw [show nI 0 = (0 : Int32) from rfl] at f1
          have hRel : Rel M' M2 := ⟨S, hS, f2, g2⟩
          rw [f1 (fun r12 M13 => (if u1 = 0 then some (r12, M13) else (if r12 = (-4) then some (r12, M13) else (if r12 ≤ (a3 - 10) then some ((-4), M13) else gd (a3 - 10) 6 (some ((M13.1 27 (a3 - 10).toNatClampNeg), M13)))))), g1 (fun r10 M11 => (if r10 = (-4) then some ((-4), M11) else (if a3 = 0 then some (r10, M11) else (if r10 ≤ (a3 - 10) then some ((-4), M11) else gd (a3 - 10) 4 (some ((M11.1 18 (a3 - 10).toNatClampNeg), M11))))))]
          rcases FwR_two f3 g3 with ⟨e1, e2⟩ | ⟨N, w, n1, n2, n3, n4, n5⟩
          · rw [e1, e2]
            refine ⟨-4, M', M2, ?_, rfl, hRel⟩
            by_cases q : u1 = 0
            · rw [if_pos q]
            · rw [if_neg q, if_pos rfl]
          · rw [n2, n3, if_neg (i_ne4 (by omega)), if_neg (i_ne4 (by omega))]
            rcases t_cases a3 with ⟨q1, q2⟩ | ⟨q1, q2, q3, q4⟩ | ⟨k, q1, q2⟩
            · rw [if_neg q2] at hu
              have h0 : a3 = 0 := eok.resolve_right (fun q => q hu.symm)
              rw [← hu, if_pos rfl, if_pos h0]
              exact ⟨_, _, _, rfl, rfl, hRel⟩
            · rw [if_neg q3] at hu
              have h0 : a3 = 0 := eok.resolve_right (fun q => q hu.symm)
              exact absurd h0 q4
            · have h10 : ¬ a3 < 10 := by rw [q2]; exact Int32.not_lt.mpr (nI_le (a := 10) (by omega) (by omega))
              have hin : 10 ≤ a3 ∧ a3 ≤ 13 := ⟨Int32.not_lt.mp h10, by rw [q2]; exact nI_le (b := 13) (by omega) (by decide)⟩
              have h0 : ¬ a3 = 0 := fun q => by rw [q2] at q; have := (i_z (k := 10 + k) (by omega)).mp q; omega
              have es : a3 - 10 = nI k := by rw [q2, show (10 : Int32) = nI 10 from rfl, pk_sub (by omega), show 10 + k - 10 = k by omega]
              rw [if_pos hin] at hu
              rw [← hu, if_neg i10, if_neg h0, es]
              by_cases hk : N ≤ k
              · rw [if_pos (nI_le hk (by omega)), if_pos (nI_le hk (by omega))]
                exact ⟨_, _, _, rfl, rfl, hRel⟩
              · have hkw : k < w.length := by omega
                obtain ⟨y1, y2⟩ := n5 k w[k] (List.getElem?_eq_getElem hkw)
                rw [if_neg (nI_ge (by omega) (by omega)), if_neg (nI_ge (by omega) (by omega)), gd_in (vp_in_nI (n := k) (by omega) (by decide)), gd_in (vp_in_nI (n := k) (by omega) (by decide)), nI_clamp (by omega), y1, y2]
                exact ⟨_, _, _, rfl, rfl, hRel⟩
        · rw [if_neg eok, if_neg eok]
          exact ⟨_, _, _, rfl, rfl, hR0⟩
theorem sim_lose (a0 : Int32) : Sm (fun M => X_ShakeHands_lose fuel a0 M) (fun M => X_Model_lose fuel a0 M) := by
  intro Mx Mm hR
  have hR0 := hR
  obtain ⟨S, hS, hx, hm⟩ := hR
  have h6 := hS.p6
  have hpw := pw6 h6
  show ∃ r Mx2 Mm2, X_ShakeHands_lose fuel a0 Mx = some (r, Mx2) ∧ X_Model_lose fuel a0 Mm = some (r, Mm2) ∧ Rel Mx2 Mm2
  unfold X_ShakeHands_lose X_Model_lose
  rw [x_isThing, m_isThing, bd_ret, bd_ret]
  cases ev0 : vN a0 16 with
  | false => exact ⟨_, _, _, rfl, rfl, hR0⟩
  | true =>
    obtain ⟨b1, b2⟩ := vN_y (by decide) ev0
    obtain ⟨M9, c1, c2, c3, c4⟩ := x_begin hS hx
    have hM9 : XA M9 S := hx.off (c2.mono (fun a ha => xQ_S (xQ_of (by simp at ha; omega))))
    obtain ⟨M11, d1, d2, d3⟩ := x_aim fuel a0 (nI 0) (nI (2 ^ S.R.1 - 1)) (nI 0) hM9 c3
    rw [b2] at d3
    obtain ⟨r, M13, f1, f2, f3⟩ := x_fewestHands fuel (by decide) hS (amF_ok (P := S.R.1) (t := pN a0) (so := 0) (sh := 2 ^ S.R.1 - 1) (by decide) (by omega)) (am_k fuel (by decide) hS b1) (ba_k fuel (by decide) hS b1) d3 (c4.off d2 (by simp))
    obtain ⟨M4, g1, g2, g3⟩ := m_asks fuel 1 a0 0 0 hS hm
    rw [b2] at g3
    obtain ⟨r', M6, k1, k2, k3⟩ := m_fewestHands fuel (by decide) hS (gd_k1 fuel (by decide) hS b1) (st_k1 fuel (by decide) (pN a0)) g2 g3
    have hRel : Rel M13 M6 := ⟨S, hS, d3.1.off (f2.mono (fun a ha => xQ_S ha)), k2⟩
    simp only [if_true, if_neg i10]
    rw [c1, bd_ret, x_everybody h6 hM9.c.1, bd_ret, show X_Search_aim fuel a0 0 (nI (2 ^ S.R.1 - 1)) 0 M9 = _ from d1, bd_ret, f1, bd_ret, g1, bd_ret, k1, bd_ret]
    rcases FwR_two f3 k3 with ⟨e1, e2⟩ | ⟨N, w, n1, n2, n3, n4, n5⟩
    · rw [e1, e2]; exact ⟨_, _, _, rfl, rfl, hRel⟩
    · rw [n2, n3]; exact ⟨_, _, _, rfl, rfl, hRel⟩
