/-! CALLS: seats, the whole -/
theorem nm_eq {α β : Sort _} (a : α) (f : α → β) : nm a f = f a := rfl
theorem x_seatlook {S : Ab} (hS : Ok S) {M : Mem} (hx : XA M S) {t p : Nat} (b1 : t < 16) (c1 : p < S.R.1) : ∃ M', (∀ F : Mem → Option (Int32 × Mem), (bd (X_ShakeHands_everybody fuel M) fun r8 M9 => bd (X_Minds_knowers fuel 17 (nI t) M9) fun r10 M11 => nm (r8 &&& (r10 ^^^ (-1))) fun x12 => bd (X_Search_begin fuel M11) fun _ M14 => bd (X_Search_aim fuel (nI t) ((1 : Int32) <<< (nI p &&& 31)) (x12 &&& (((1 : Int32) <<< (nI p &&& 31)) ^^^ (-1))) 0 M14) fun _ M16 => bd (X_Search_countSeats fuel M16) fun _ M18 => F M18) = F M') ∧ XA M' S ∧ WA M' ([] ++ (pl S.R.1 S.R.1 0 []).filter (fun w => decide (amF S.R.1 t (2 ^ p) (clN ((2 ^ S.R.1 - 1) &&& (whoN S.A.W t S.R.1 ^^^ (2 ^ 32 - 1))) p) (wk S.R S.A.gl S.A.W w (S.R.1 - 1)) = 0))) := by
  have h6 := hS.p6
  have hP2 := hS.hR.1
  have hpw := pw6 h6
  have hw64 := wlt h6 S.A.W t
  have h2p : 2 ^ p < 2 ^ 6 := Nat.pow_lt_pow_right (by decide) (by omega)
  have hxx : (2 ^ S.R.1 - 1) &&& (whoN S.A.W t S.R.1 ^^^ (2 ^ 32 - 1)) < 2 ^ S.R.1 := Nat.lt_of_le_of_lt Nat.and_le_left (by omega)
  have hsh : clN ((2 ^ S.R.1 - 1) &&& (whoN S.A.W t S.R.1 ^^^ (2 ^ 32 - 1))) p < 64 := Nat.lt_of_lt_of_le (clN_lt hxx) hpw.2
  obtain ⟨M9, f1, f2, f3, f4⟩ := x_begin hS hx
  have hM9 : XA M9 S := hx.off (f2.mono (fun a ha => xQ_S (xQ_of (by simp at ha; omega))))
  obtain ⟨M11, k1, k2, hK⟩ := x_aim fuel (nI t) (nI (2 ^ p)) (nI (clN ((2 ^ S.R.1 - 1) &&& (whoN S.A.W t S.R.1 ^^^ (2 ^ 32 - 1))) p)) (nI 0) hM9 f3
  have hr : rowsAt M11 (30 + 0) S.A.W := f4.off k2 (by simp)
  have hA : OkA (amF S.R.1 t (2 ^ p) (clN ((2 ^ S.R.1 - 1) &&& (whoN S.A.W t S.R.1 ^^^ (2 ^ 32 - 1))) p)) := amF_ok h2p hsh
  have hK2 : Ks S _ (si M11 26 2 0) := hK.fr (d := 0) (Xf.acc (by decide))
  have hplen := pl_len (P := S.R.1) (by omega) hP2
  have hfc := fc_le S.R.1 (by omega)
  obtain ⟨M12, s1, s2, s3⟩ := x_sit fuel (by decide) hS hA (am_k fuel (by decide) hS b1) S.R.1 12 0 0 [] (si M11 26 2 0) [] (by omega) (by omega) rfl (by decide) (fun x hx => absurd hx List.not_mem_nil) hK2 hS.hA.1 hS.hA.2.1 hr (fun i x h => absurd h (by simp)) ⟨si_at _ _ _ _, fun w t e => absurd e (by simp)⟩ (by rw [hplen, List.length_nil]; omega)
  have hX12 : XA M12 S := (hK2.fr s2).1
  have un1 : X_Search_countSeats fuel M11 = some ((), M12) := by
    unfold X_Search_countSeats
    simp only [nm]
    rw [show X_Search_sit fuel 12 0 0 (si M11 26 2 0) = _ from s1, bd_ret]
  have un2 : ∀ F : Mem → Option (Int32 × Mem), (bd (X_Search_countSeats fuel M11) fun _ M18 => F M18) = F M12 := fun F => by rw [un1, bd_ret]
  have un3 : ∀ F : Mem → Option (Int32 × Mem), (bd (X_Search_aim fuel (nI t) (nI (2 ^ p)) (nI (clN ((2 ^ S.R.1 - 1) &&& (whoN S.A.W t S.R.1 ^^^ (2 ^ 32 - 1))) p)) 0 M9) fun _ M16 => F M16) = F M11 := fun F => by
    rw [show (0 : Int32) = nI 0 from rfl, k1, bd_ret]
  refine ⟨M12, fun F => ?_, hX12, s3⟩
  rw [x_everybody h6 hx.c.1, bd_ret, x_whoNow hS hx b1, bd_ret, i_com _ (by omega), nm_eq]
  rw [f1, bd_ret, i_clr (by omega) (by omega), i_shl1 (by omega), un3, un2]
theorem sim_seats (a0' a1' a2' : Int32) : Sm (fun M => X_ShakeHands_seats fuel a0' a1' a2' M) (fun M => X_Model_seats fuel a0' a1' a2' M) := by
  intro Mx Mm hR
  have hR0 := hR
  obtain ⟨S, hS, hx, hm⟩ := hR
  have h6 := hS.p6
  have hP2 := hS.hR.1
  have hpw := pw6 h6
  show ∃ r Mx2 Mm2, X_ShakeHands_seats fuel a0' a1' a2' Mx = some (r, Mx2) ∧ X_Model_seats fuel a0' a1' a2' Mm = some (r, Mm2) ∧ Rel Mx2 Mm2
  generalize hu : (if vN (a2' - 10) S.R.1 then (1 : Int32) else 0) = u1
  generalize hX : (fun (u1 : Int32) (M5 : Mem) => (bd (X_ShakeHands_knowsNow fuel a1' a0' M5) fun r6 M7 => (if r6 = 0 then bd (X_ShakeHands_everybody fuel M7) fun r8 M9 => bd (X_Minds_knowers fuel 17 a0' M9) fun r10 M11 => nm (r8 &&& (r10 ^^^ (-1))) fun x12 => bd (X_Search_begin fuel M11) fun _ M14 => bd (X_Search_aim fuel a0' ((1 : Int32) <<< (a1' &&& 31)) (x12 &&& (((1 : Int32) <<< (a1' &&& 31)) ^^^ (-1))) 0 M14) fun _ M16 => bd (X_Search_countSeats fuel M16) fun _ M18 => (if u1 = 0 then some ((M18.1 26 2), M18) else (if (M18.1 26 2) = 0 then some ((-4), M18) else gd (a2' - 10) 6 (some ((M18.1 28 (a2' - 10).toNatClampNeg), M18)))) else some ((-2), M7)) : Option (Int32 × Mem))) = bX
  have ux : X_ShakeHands_seats fuel a0' a1' a2' Mx = (if vN a0' 16 then (if vN a1' S.R.1 then (if a2' = 0 ∨ ¬ u1 = 0 then bX u1 Mx else some (-1, Mx)) else some (-1, Mx)) else some (-1, Mx)) := by
    have body : ∀ u1 : Int32, (bd (X_ShakeHands_isThing fuel a0' Mx) fun r2 M3 => (if r2 = 0 then some ((-1), M3) else bd (X_ShakeHands_isOne fuel a1' M3) fun r4 M5 => (if r4 = 0 then some ((-1), M5) else (if a2' = 0 then bX u1 M5 else (if u1 = 0 then some ((-1), M5) else bX u1 M5)))) : Option (Int32 × Mem)) = (if vN a0' 16 then (if vN a1' S.R.1 then (if a2' = 0 ∨ ¬ u1 = 0 then bX u1 Mx else some (-1, Mx)) else some (-1, Mx)) else some (-1, Mx)) := fun u1 => by
      rw [x_isThing, bd_ret, x_isOne fuel hx.c.1, bd_ret]
      cases vN a0' 16 with
      | false => rfl
      | true =>
        cases vN a1' S.R.1 with
        | false => rfl
        | true =>
          simp only [if_true, if_neg i10]
          by_cases e1 : a2' = 0
          · rw [if_pos e1, if_pos (Or.inl e1)]
          · rw [if_neg e1]
            by_cases e2 : u1 = 0
            · rw [if_pos e2, if_neg (fun q => q.elim e1 (fun r => r e2))]
            · rw [if_neg e2, if_pos (Or.inr e2)]
    rw [← body u1, ← hX]
    show (if a2' < 10 then _ else (if ((10 : Int32) + (Mx.1 11 0)) ≤ a2' then _ else _)) = _
    rw [hx.c.1, show (10 : Int32) + nI S.R.1 = nI (10 + S.R.1) from nI_add 10 _]
    rcases s_cases h6 a2' with ⟨q1 | ⟨q1, q2, -⟩, q4⟩ | ⟨k, q1, q2, q3⟩
    · rw [if_pos q1, ← hu, q4]
      rfl
    · rw [if_neg q1, if_pos q2, ← hu, q4]
      rfl
    · rw [if_neg (by rw [q2]; exact Int32.not_lt.mpr (nI_le (a := 10) (by omega) (by omega))), if_neg (by rw [q2]; exact nI_ge (by omega) (by omega)), ← hu, q3]
      rfl
  generalize hY : (fun (M5 : Mem) => (bd (X_Model_whoNow fuel a0' M5) fun r6 M7 => (if ((r6 >>> (a1' &&& 31)) &&& 1) = 1 then some ((-2), M7) else X_Model_seats_L58 fuel a0' a1' a2' r6 (fun y9 => X_Model_seats_L86 fuel a0' a1' a2' r6 y9 (fun y26 M27 => (if a2' = 0 then some (y26, M27) else (if y26 = 0 then some ((-4), M27) else gd (a2' - 10) 6 (some ((M27.1 22 (a2' - 10).toNatClampNeg), M27))))) fuel 0 0 M7) M7 fuel 1 2) : Option (Int32 × Mem))) = bY
  have um : X_Model_seats fuel a0' a1' a2' Mm = (if vN a0' 16 then (if vN a1' S.R.1 then (if a2' = 0 ∨ ¬ u1 = 0 then bY Mm else some (-1, Mm)) else some (-1, Mm)) else some (-1, Mm)) := by
    have e0 : X_Model_seats fuel a0' a1' a2' Mm = (bd (X_Model_isThing fuel a0' Mm) fun r1 M2 => (if r1 = 0 then some ((-1), M2) else bd (X_Model_isOne fuel a1' M2) fun r3 M4 => (if r3 = 0 then some ((-1), M4) else (if a2' = 0 then bY M4 else bd (X_Model_isOne fuel (a2' - 10) M4) fun r28 M29 => (if r28 = 0 then some ((-1), M29) else bY M29))))) := by rw [← hY]; rfl
    rw [e0, m_isThing, bd_ret, m_isOne fuel hS.p31 hm.c.1, bd_ret, m_isOne fuel hS.p31 hm.c.1, bd_ret, hu]
    cases vN a0' 16 with
    | false => rfl
    | true =>
      cases vN a1' S.R.1 with
      | false => rfl
      | true =>
        simp only [if_true, if_neg i10]
        by_cases e1 : a2' = 0
        · rw [if_pos e1, if_pos (Or.inl e1)]
        · rw [if_neg e1]
          by_cases e2 : u1 = 0
          · rw [if_pos e2, if_neg (fun q => q.elim e1 (fun r => r e2))]
          · rw [if_neg e2, if_pos (Or.inr e2)]
  rw [ux, um]
  cases ev0 : vN a0' 16 with
  | false => exact ⟨_, _, _, rfl, rfl, hR0⟩
  | true =>
    cases ev1 : vN a1' S.R.1 with
    | false => exact ⟨_, _, _, rfl, rfl, hR0⟩
    | true =>
      rw [if_pos rfl, if_pos rfl, if_pos rfl, if_pos rfl]
      by_cases eok : a2' = 0 ∨ ¬ u1 = 0
      · rw [if_pos eok, if_pos eok, ← hX, ← hY]
        dsimp only
        obtain ⟨b1, b2⟩ := vN_y (by decide) ev0
        obtain ⟨c1, c2⟩ := vN_y hS.p31 ev1
        generalize pN a0' = t at b1 b2
        generalize pN a1' = p at c1 c2
        subst b2 c2
        have hm0 : MA (m0 Mm) S := hm.fr hS (mh_S (m0_fr Mm))
        have hw64 := wlt h6 S.A.W t
        rw [x_knowsNow hS hx c1 b1, bd_ret, m_whoNow hS hm b1, bd_ret, b_is (by omega) (by omega), whoN_bit]
        by_cases ek : t ∈ S.A.W p
        · rw [if_pos ek, if_neg i10, decide_eq_true ⟨c1, ek⟩, if_pos (show nI (if true = true then 1 else 0) = 1 from rfl)]
          exact ⟨_, _, _, rfl, rfl, ⟨S, hS, hx, hm0⟩⟩
        · rw [if_neg ek, if_pos rfl, decide_eq_false (fun q => ek q.2), if_neg (show ¬ nI (if false = true then 1 else 0) = 1 by decide)]
          have hbit : (whoN S.A.W t S.R.1).testBit p = false := by rw [whoN_bit]; exact decide_eq_false (fun q => ek q.2)
          obtain ⟨M12, u1', hX12, s3⟩ := x_seatlook hS hx b1 c1
          have hplen := pl_len (P := S.R.1) (by omega) hP2
          have hfc := fc_le S.R.1 (by omega)
          rw [u1' (fun M18 => (if u1 = 0 then some ((M18.1 26 2), M18) else (if (M18.1 26 2) = 0 then some ((-4), M18) else gd (a2' - 10) 6 (some ((M18.1 28 (a2' - 10).toNatClampNeg), M18)))))]
          -- the reference
          obtain ⟨M13, g1, g2, g3⟩ := m_L86 hS fuel (by decide) b1 hw64 (show p < 6 by omega) (a3 := a2') (fun y26 M27 => (if a2' = 0 then some (y26, M27) else (if y26 = 0 then some ((-4), M27) else gd (a2' - 10) 6 (some ((M27.1 22 (a2' - 10).toNatClampNeg), M27))))) (pl S.R.1 S.R.1 0 []) [] fuel (m0 Mm) rfl (by rw [hplen]; exact Nat.lt_of_le_of_lt hfc (by decide)) hm0 (fun w t e => absurd e (by simp))
          have h58 := m_seats_58 fuel (a1 := nI t) (a2 := nI p) (a3 := a2') (a4 := nI (whoN S.A.W t S.R.1)) (fun y9 => X_Model_seats_L86 fuel (nI t) (nI p) a2' (nI (whoN S.A.W t S.R.1)) y9 (fun y26 M27 => (if a2' = 0 then some (y26, M27) else (if y26 = 0 then some ((-4), M27) else gd (a2' - 10) 6 (some ((M27.1 22 (a2' - 10).toNatClampNeg), M27))))) fuel 0 0 (m0 Mm)) (M := m0 Mm) h6 hm0.c.1 (S.R.1 - 1) 1 fuel (by omega) (Nat.lt_of_le_of_lt (show S.R.1 - 1 ≤ 6 by omega) (by decide))
          simp only [List.filter_nil, List.length_nil] at g1
          rw [show nI 0 = (0 : Int32) from rfl] at g1
          rw [show nI (fc 1) = (1 : Int32) by decide, show nI (1 + 1) = (2 : Int32) by decide] at h58
          have h58' := h58.trans g1
          rw [h58']
          have hRel : Rel M12 M13 := ⟨S, hS, hX12, g2⟩
          have egd : (fun w => decide (amF S.R.1 t (2 ^ p) (clN ((2 ^ S.R.1 - 1) &&& (whoN S.A.W t S.R.1 ^^^ (2 ^ 32 - 1))) p) (wk S.R S.A.gl S.A.W w (S.R.1 - 1)) = 0)) = gdS S t (whoN S.A.W t S.R.1) p := by
            funext w
            unfold gdS
            exact decide_eq_decide.mpr (seat_bits h6 (whoN_lt _ _ _) c1 hbit).symm
          rw [egd, List.nil_append] at s3
          have hin : ∀ w ∈ (pl S.R.1 S.R.1 0 []).filter (gdS S t (whoN S.A.W t S.R.1) p), w.length = S.R.1 := fun w hw => (okw_p (List.all_eq_true.mp (pl_okw S.R.1 (by omega) hP2) w (List.mem_filter.mp hw).1)).1
          have hgl : ((pl S.R.1 S.R.1 0 []).filter (gdS S t (whoN S.A.W t S.R.1) p)).length ≤ 720 := Nat.le_trans (List.length_filter_le _ _) (by omega)
          generalize (pl S.R.1 S.R.1 0 []).filter (gdS S t (whoN S.A.W t S.R.1) p) = G at s3 g3 hin hgl
          rw [s3.1]
          rcases s_cases h6 a2' with ⟨q1, q4⟩ | ⟨k, q1, q2, q3⟩
          · rw [q4] at hu
            have hu0 : u1 = 0 := hu.symm
            have h0 : a2' = 0 := eok.resolve_right (fun q => q hu0)
            rw [if_pos hu0, if_pos h0]
            exact ⟨_, _, _, rfl, rfl, hRel⟩
          · rw [q3] at hu
            have hu1 : ¬ u1 = 0 := by rw [← hu]; decide
            have h0 : ¬ a2' = 0 := fun q => by rw [q2] at q; have := (i_z (k := 10 + k) (by omega)).mp q; omega
            rw [if_neg hu1, if_neg h0]
            have es : a2' - 10 = nI k := by rw [q2, show (10 : Int32) = nI 10 from rfl, pk_sub (by omega), show 10 + k - 10 = k by omega]
            cases G with
            | nil =>
              rw [if_pos (show nI (List.length ([] : List (List Nat))) = 0 from rfl), if_pos (show nI (List.length ([] : List (List Nat))) = 0 from rfl)]
              exact ⟨_, _, _, rfl, rfl, hRel⟩
            | cons w G =>
              have hn0 : ¬ nI (w :: G).length = 0 := fun q => by have := (i_z (by omega)).mp q; rw [List.length_cons] at this; omega
              have hwl := hin w List.mem_cons_self
              have hkw : w[k]? = some (w.getD k 0) := getD_some (by omega)
              rw [if_neg hn0, if_neg hn0, es, gd_in (vp_in_nI (n := k) (by omega) (by decide)), gd_in (vp_in_nI (n := k) (by omega) (by decide)), nI_clamp (by omega), s3.2 w G rfl k _ hkw, g3 w G rfl k _ hkw]
              exact ⟨_, _, _, rfl, rfl, hRel⟩
      · rw [if_neg eok, if_neg eok]
        exact ⟨_, _, _, rfl, rfl, hR0⟩
