/-! CALLS: told, days, lives -/
theorem sim_told (a0 : Int32) (a1 : Int32) : Sm (fun M => X_ShakeHands_told fuel a0 a1 M) (fun M => X_Model_told fuel a0 a1 M) := by
  refine Sm_q (q := fun S => if vN a0 S.R.1 then (if vN a1 16 then (if pN a1 ∈ S.A.W (pN a0) then -2 else tldF S.R S.A.gl (pN a0) (pN a1) S.R.2.2.2.1 0 S.A.W) else -1) else -1) (fun M S hS hM => ?_) (fun M S hS hM => ?_)
  · dsimp only
    have h16 := hS.hl
    have hg := hS.gl
    have h6 := hS.p6
    unfold X_ShakeHands_told
    rw [x_isOne fuel hM.c.1, bd_ret]
    by_cases h : vN a0 S.R.1 = true
    · obtain ⟨h1, h2⟩ := vN_y hS.p31 h
      rw [if_pos h, if_pos h, if_neg i10, x_isThing, bd_ret]
      by_cases h' : vN a1 16 = true
      · obtain ⟨h3, h4⟩ := vN_y (by decide) h'
        rw [if_pos h', if_pos h', if_neg i10]
        generalize pN a0 = p at *
        generalize pN a1 = t at *
        subst h2 h4
        rw [x_knowsNow hS hM h1 h3, bd_ret]
        by_cases e : t ∈ S.A.W p
        · rw [if_pos e, if_pos e, if_neg i10]
          exact ⟨M, rfl, Off.rf⟩
        · rw [if_neg e, if_neg e, if_pos rfl]
          obtain ⟨t1, t2, t3⟩ := x_trial hM.a.2.2.1
          rw [t1, bd_ret]
          have key : ∀ (d i f : Nat) (N : Mem) (W : Nat → List Nat), S.R.2.2.2.1.length - i = d → i ≤ S.R.2.2.2.1.length → d < f → XA N S → rowsAt N 49 W → OkW W → ∃ M', X_ShakeHands_told_L35 fuel (nI p) (nI t) f (nI i) N = some (tldF S.R S.A.gl p t (S.R.2.2.2.1.drop i) i W, M') ∧ Off xS N M' := by
            intro d
            induction d with
            | zero =>
              intro i f N W g1 g2 g3 hN hr hW
              obtain ⟨f, rfl⟩ : ∃ g, f = g + 1 := ⟨f - 1, by omega⟩
              refine ⟨N, ?_, Off.rf⟩
              show (if N.1 11 5 ≤ nI i then _ else _) = _
              rw [hN.c.2.2.2.1, if_pos (nI_le (by omega) (by omega)), List.drop_eq_nil_of_le (by omega)]
              rfl
            | succ d ih =>
              intro i f N W g1 g2 g3 hN hr hW
              obtain ⟨f, rfl⟩ : ∃ g, f = g + 1 := ⟨f - 1, by omega⟩
              have hi : i < S.R.2.2.2.1.length := by omega
              have e2 := hN.c.2.2.2.2.2.2.1 i _ (List.getElem?_eq_getElem hi)
              have hx := hS.hR.2.2.2.2.2.2.2.1 _ (List.getElem_mem hi)
              obtain ⟨r, M1, k1, k2, k3, -⟩ := circ_meet fuel (by decide) hS.hR hN.c (rows := 49) (by decide) hW hr (show S.A.gl < 2 ^ 31 by omega) hx.1
              have hW' := hW.hand hS.hR S.A.gl S.R.2.2.2.1[i]
              have k4 : Off xS N M1 := xS_of k2 (by decide)
              have un : X_ShakeHands_told_L35 fuel (nI p) (nI t) (f + 1) (nI i) N = if t ∈ handF S.R S.A.gl S.R.2.2.2.1[i] W p then some (nI i, M1) else X_ShakeHands_told_L35 fuel (nI p) (nI t) f (nI (i + 1)) M1 := by
                show (if N.1 11 5 ≤ nI i then _ else gd (nI i) 16 (bd (X_Circle_meet fuel 49 (N.1 16 1) (N.1 13 (nI i).toNatClampNeg) N) fun r9 M10 => gd (nI p) 6 (bd (X_Row_knowsIt fuel (M10.2 49 (nI p).toNatClampNeg) (nI t) M10) fun r11 M12 => (if r11 = 0 then X_ShakeHands_told_L35 fuel (nI p) (nI t) f (nI i + 1) M12 else some (nI i, M12))))) = _
                rw [hN.c.2.2.2.1, if_neg (nI_ge (by omega) (by omega)), gd_in (vp_in_nI (by omega) (by decide)), nI_clamp (by omega), e2, hN.a.1, k1, bd_ret, gd_in (vp_in_nI (by omega) (by decide)), nI_clamp (by omega), k3 p (by omega), row_knowsIt fuel (hW' p).1 (hW' p).2 h3, bd_ret, nI_1]
                by_cases e3 : t ∈ handF S.R S.A.gl S.R.2.2.2.1[i] W p
                · rw [if_pos e3, if_pos e3, if_neg i10]
                · rw [if_neg e3, if_neg e3, if_pos rfl]
              rw [un, List.drop_eq_getElem_cons hi]
              unfold tldF
              by_cases e3 : t ∈ handF S.R S.A.gl S.R.2.2.2.1[i] W p
              · rw [if_pos e3, if_pos e3]
                exact ⟨M1, rfl, k4⟩
              · rw [if_neg e3, if_neg e3]
                obtain ⟨M2, q1, q2⟩ := ih (i + 1) f M1 _ (by omega) (by omega) (by omega) (hN.off k4) k3 hW'
                exact ⟨M2, q1, k4.trans q2⟩
          obtain ⟨M', q1, q2⟩ := key _ 0 fuel (cpL M 17 0 49 0 6) S.A.W rfl (Nat.zero_le _) (by have := fu; omega) (hM.off (xS_of t3 (by decide))) t2 hS.hA.1
          exact ⟨M', q1, (xS_of t3 (by decide)).trans q2⟩
      · rw [if_neg h', if_neg h', if_pos rfl]
        exact ⟨M, rfl, Off.rf⟩
    · rw [if_neg h, if_neg h, if_pos rfl]
      exact ⟨M, rfl, Off.rf⟩
  · dsimp only
    have h16 := hS.hl
    have hg := hS.gl
    have h6 := hS.p6
    unfold X_Model_told
    rw [m_isOne fuel hS.p31 hM.c.1, bd_ret]
    by_cases h : vN a0 S.R.1 = true
    · obtain ⟨h1, h2⟩ := vN_y hS.p31 h
      rw [if_pos h, if_pos h, if_neg i10, m_isThing, bd_ret]
      by_cases h' : vN a1 16 = true
      · obtain ⟨h3, h4⟩ := vN_y (by decide) h'
        rw [if_pos h', if_pos h', if_neg i10]
        generalize pN a0 = p at *
        generalize pN a1 = t at *
        subst h2 h4
        rw [m_knowsIt hS hM h1 h3, bd_ret]
        by_cases e : t ∈ S.A.W p
        · rw [if_pos e, if_pos e, if_neg i10]
          exact ⟨_, rfl, mh_S (m0_fr M)⟩
        · rw [if_neg e, if_neg e, if_pos rfl]
          have key : ∀ (d i f : Nat) (N : Mem) (W : Nat → List Nat), S.R.2.2.2.1.length - i = d → i ≤ S.R.2.2.2.1.length → d < f → Fr (mh 0) M N → LyM N 15 (60 * 0) W → OkW W → ∃ M', X_Model_told_L31 fuel (nI p) (nI t) f (nI i) N = some (tldF S.R S.A.gl p t (S.R.2.2.2.1.drop i) i W, M') ∧ Fr (mh 0) N M' := by
            intro d
            induction d with
            | zero =>
              intro i f N W g1 g2 g3 hN hr hW
              obtain ⟨f, rfl⟩ : ∃ g, f = g + 1 := ⟨f - 1, by omega⟩
              refine ⟨N, ?_, Fr.rf⟩
              show (if N.1 0 5 ≤ nI i then _ else _) = _
              rw [(hM.c.mh hN).2.2.2.1, if_pos (nI_le (by omega) (by omega)), List.drop_eq_nil_of_le (by omega)]
              rfl
            | succ d ih =>
              intro i f N W g1 g2 g3 hN hr hW
              obtain ⟨f, rfl⟩ : ∃ g, f = g + 1 := ⟨f - 1, by omega⟩
              have hi : i < S.R.2.2.2.1.length := by omega
              have hc := hM.c.mh hN
              have e2 := hc.2.2.2.2.2.2.1 i _ (List.getElem?_eq_getElem hi)
              have hx := hS.hR.2.2.2.2.2.2.2.1 _ (List.getElem_mem hi)
              obtain ⟨M1, k1, k2, k3⟩ := m_shakes fuel (by decide) hS.hR hc (L := 0) (by decide) hW hr (show S.A.gl < 2 ^ 31 by omega) hx.1
              have hW' := hW.hand hS.hR S.A.gl S.R.2.2.2.1[i]
              have hk := knN_lt (hW' p).1.2
              have un : X_Model_told_L31 fuel (nI p) (nI t) (f + 1) (nI i) N = if t ∈ handF S.R S.A.gl S.R.2.2.2.1[i] W p then some (nI i, M1) else X_Model_told_L31 fuel (nI p) (nI t) f (nI (i + 1)) M1 := by
                show (if N.1 0 5 ≤ nI i then _ else gd (nI i) 16 (bd (X_Model_worn fuel N) fun r7 M8 => bd (X_Model_shakes fuel (nI 0) (N.1 4 (nI i).toNatClampNeg) r7 M8) fun _ M10 => bd (X_Model_knowsIn fuel (nI 0) (nI p) M10) fun r11 M12 => (if ((r11 >>> (nI t &&& 31)) &&& 1) = 1 then some (nI i, M12) else X_Model_told_L31 fuel (nI p) (nI t) f (nI i + 1) M12))) = _
                rw [hc.2.2.2.1, if_neg (nI_ge (by omega) (by omega)), gd_in (vp_in_nI (by omega) (by decide)), nI_clamp (by omega), e2, m_worn0 hS hM hN, bd_ret, k1, bd_ret, m_knowsIn fuel (by decide) (by decide) (by omega) (k3 p (by omega)) (hW' p).1 (hW' p).2, bd_ret, nI_1, b_is (by omega) (by omega), knN_bit]
                by_cases e3 : t ∈ handF S.R S.A.gl S.R.2.2.2.1[i] W p
                · rw [if_pos e3, if_pos (by simp [e3]; rfl)]
                · rw [if_neg e3, if_neg (by simp [e3]; decide)]
              rw [un, List.drop_eq_getElem_cons hi]
              unfold tldF
              by_cases e3 : t ∈ handF S.R S.A.gl S.R.2.2.2.1[i] W p
              · rw [if_pos e3, if_pos e3]
                exact ⟨M1, rfl, k2⟩
              · rw [if_neg e3, if_neg e3]
                obtain ⟨M2, q1, q2⟩ := ih (i + 1) f M1 _ (by omega) (by omega) (by omega) (hN.trans k2) k3 hW'
                exact ⟨M2, q1, k2.trans q2⟩
          obtain ⟨M', q1, q2⟩ := key _ 0 fuel (m0 M) S.A.W rfl (Nat.zero_le _) (by have := fu; omega) (m0_fr M) (m0_ly hS hM) hS.hA.1
          exact ⟨M', q1, mh_S ((m0_fr M).trans q2)⟩
      · rw [if_neg h', if_neg h', if_pos rfl]
        exact ⟨M, rfl, Fr.rf⟩
    · rw [if_neg h, if_neg h, if_pos rfl]
      exact ⟨M, rfl, Fr.rf⟩
-- the habit
def dayF (R : Rl) (g : Nat) (W : Nat → List Nat) : Nat → List Nat := feastF R g R.2.2.2.2 W
def daysF (R : Rl) (g : Nat) : Nat → (Nat → List Nat) → Nat → List Nat
  | 0, W => W
  | d + 1, W => daysF R g d (dayF R g W)
theorem OkW.day {R : Rl} (hR : OkR R) {g : Nat} {W : Nat → List Nat} (h : OkW W) : OkW (dayF R g W) := OkW.feast hR _ h
theorem dayF_end {R : Rl} (hR : OkR R) {g : Nat} {W : Nat → List Nat} (h : ∀ p, R.1 ≤ p → W p = []) : ∀ p, R.1 ≤ p → dayF R g W p = [] := feastF_end _ hR.2.2.2.2.2.2.2.2.2 h
theorem daysF_ok {R : Rl} (hR : OkR R) {g : Nat} : ∀ (d : Nat) {W : Nat → List Nat}, OkW W → (∀ p, R.1 ≤ p → W p = []) → OkW (daysF R g d W) ∧ ∀ p, R.1 ≤ p → daysF R g d W p = []
  | 0, _, h1, h2 => ⟨h1, h2⟩
  | d + 1, _, h1, h2 => daysF_ok hR d (h1.day hR) (dayF_end hR h2)
def dysU (k : Nat) (S : Ab) : Int32 × Ab := let V := daysF S.R S.A.gl k S.A.W; (nI (anyN V S.R.1), S.setA (S.A.setW V))
theorem d99 (p : Int32) : (1 ≤ p ∧ p ≤ 99) ↔ ∃ k, 1 ≤ k ∧ k < 100 ∧ p = nI k := by
  constructor
  · intro ⟨h1, h2⟩
    rcases i_cases p with h | ⟨k, hk, rfl⟩
    · rw [Int32.lt_iff_toInt_lt] at h
      rw [Int32.le_iff_toInt_le] at h1
      have e1 : (1 : Int32).toInt = 1 := rfl
      have e2 : (0 : Int32).toInt = 0 := rfl
      omega
    · refine ⟨k, ?_, ?_, rfl⟩
      · rw [Int32.le_iff_toInt_le, nI_toInt hk] at h1
        have e1 : (1 : Int32).toInt = 1 := rfl
        omega
      · rw [Int32.le_iff_toInt_le, nI_toInt hk] at h2
        have e1 : (99 : Int32).toInt = 99 := rfl
        omega
  · rintro ⟨k, h1, h2, rfl⟩
    exact ⟨nI_le (a := 1) h1 (by omega), nI_le (b := 99) (by omega) (by decide)⟩
theorem sim_days (a0 : Int32) : Sm (fun M => X_ShakeHands_days fuel a0 M) (fun M => X_Model_days fuel a0 M) := by
  by_cases hv : 1 ≤ a0 ∧ a0 ≤ 99
  · obtain ⟨k, hk1, hk2, rfl⟩ := (d99 a0).mp hv
    refine Sm_u (u := dysU k) (fun M S hS hM => ?_) (fun M S hS hM => ?_) (fun S hS => ?_)
    · skip
      have hg := hS.gl
      unfold X_ShakeHands_days
      rw [if_neg (Int32.not_lt.mpr hv.1), if_pos hv.2]
      have key : ∀ (d i f : Nat) (N : Mem) (W : Nat → List Nat), k - i = d → i ≤ k → d < f → Off [15, 17] M N → rowsAt N 17 W → OkW W → (∀ p, S.R.1 ≤ p → W p = []) → ∃ M', X_ShakeHands_days_L15 fuel (nI k) (fun M3 => bd (X_Minds_known fuel 17 M3) fun r4 M5 => some (r4, M5)) f (nI i) N = some (nI (anyN (daysF S.R S.A.gl d W) S.R.1), M') ∧ Off [15, 17] M M' ∧ rowsAt M' 17 (daysF S.R S.A.gl d W) := by
        intro d
        induction d with
        | zero =>
          intro i f N W g1 g2 g3 hN hr hW hE
          obtain ⟨f, rfl⟩ : ∃ g, f = g + 1 := ⟨f - 1, by omega⟩
          refine ⟨N, ?_, hN, hr⟩
          show (if nI k ≤ nI i then bd (X_Minds_known fuel 17 N) (fun r4 M5 => some (r4, M5)) else _) = _
          rw [if_pos (nI_le (by omega) (by omega)), minds_known fuel (by decide) hW hr, bd_ret, anyN_6 hS.p6 hE]
          rfl
        | succ d ih =>
          intro i f N W g1 g2 g3 hN hr hW hE
          obtain ⟨f, rfl⟩ : ∃ g, f = g + 1 := ⟨f - 1, by omega⟩
          have hNX := hM.newW hN hr
          obtain ⟨M1, k1, k2, k3⟩ := circ_liveDay fuel (by decide) hS.hR (rows := 17) (by decide) (show S.A.gl < 2 ^ 31 by omega) hNX.c hW hr
          obtain ⟨M2, q1, q2, q3⟩ := ih (i + 1) f M1 _ (by omega) (by omega) (by omega) (hN.trans k2) k3 (hW.day hS.hR) (dayF_end hS.hR hE)
          refine ⟨M2, ?_, q2, q3⟩
          have hgl : N.1 16 1 = nI S.A.gl := hNX.a.1
          show (if nI k ≤ nI i then _ else bd (X_Circle_liveDay fuel 17 (N.1 16 1) N) fun _ M2 => X_ShakeHands_days_L15 fuel (nI k) _ f (nI i + 1) M2) = _
          rw [if_neg (nI_ge (by omega) (by omega)), hgl, k1, bd_ret, nI_1]
          exact q1
      obtain ⟨M', q1, q2, q3⟩ := key k 0 fuel M S.A.W rfl (Nat.zero_le _) (by have := fu; omega) Off.rf hM.a.2.2.1 hS.hA.1 hS.hA.2.1
      exact ⟨M', q1, hM.newW q2 q3⟩
    · skip
      have hg := hS.gl
      unfold X_Model_days
      have e1 := m_in fuel (nI k) 1 99 M
      rw [if_pos hv, show (1 : Int32).toInt64 = 1 by decide, show (99 : Int32).toInt64 = 99 by decide] at e1
      rw [e1, bd_ret, if_neg i10, show (0 : Int32) = nI 0 from rfl, m0_b, bd_ret]
      obtain ⟨kx, hkx⟩ : ∃ kx : Mem → Option (Int32 × Mem), kx = fun M7 => bd (X_Model_becomes fuel (nI 0) M7) fun _ M9 => bd (X_Model_anyIn fuel (nI 0) M9) fun r10 M11 => some (r10, M11) := ⟨_, rfl⟩
      have un : X_Model_days_L21 fuel (nI k) (fun M7 => bd (X_Model_becomes fuel (nI 0) M7) fun _ M9 => bd (X_Model_anyIn fuel (nI 0) M9) fun r10 M11 => some (r10, M11)) fuel (nI 0) (m0 M) = X_Model_days_L21 fuel (nI k) kx fuel (nI 0) (m0 M) := by rw [hkx]
      show ∃ M', X_Model_days_L21 fuel (nI k) (fun M7 => bd (X_Model_becomes fuel (nI 0) M7) fun _ M9 => bd (X_Model_anyIn fuel (nI 0) M9) fun r10 M11 => some (r10, M11)) fuel (nI 0) (m0 M) = some ((dysU k S).1, M') ∧ MA M' (dysU k S).2
      rw [un]
      clear un
      have key : ∀ (d i f : Nat) (N : Mem) (W : Nat → List Nat), k - i = d → i ≤ k → d < f → Fr (mh 0) M N → LyM N 15 (60 * 0) W → OkW W → ∃ M', X_Model_days_L21 fuel (nI k) kx f (nI i) N = kx M' ∧ Fr (mh 0) M M' ∧ LyM M' 15 (60 * 0) (daysF S.R S.A.gl d W) := by
        intro d
        induction d with
        | zero =>
          intro i f N W g1 g2 g3 hN hr hW
          obtain ⟨f, rfl⟩ : ∃ g, f = g + 1 := ⟨f - 1, by omega⟩
          refine ⟨N, ?_, hN, hr⟩
          show (if nI k ≤ nI i then kx N else _) = _
          rw [if_pos (nI_le (by omega) (by omega))]
        | succ d ih =>
          intro i f N W g1 g2 g3 hN hr hW
          obtain ⟨f, rfl⟩ : ∃ g, f = g + 1 := ⟨f - 1, by omega⟩
          have hG : GlM N 60 S.A.gl := by
            have := hM.a.2.1
            rw [Nat.zero_add] at this
            exact this.fr hN (fun k _ _ => mh_1 k)
          obtain ⟨M1, k1, k2, k3⟩ := m_aDay fuel (by decide) hS.hR hS.hA.2.2.1 (hM.c.mh hN) hG hW hr
          obtain ⟨M2, q1, q2, q3⟩ := ih (i + 1) f M1 _ (by omega) (by omega) (by omega) (hN.trans k2) k3 (hW.day hS.hR)
          refine ⟨M2, ?_, q2, q3⟩
          show (if nI k ≤ nI i then kx N else bd (X_Model_aDay fuel (nI 0) N) fun _ M6 => X_Model_days_L21 fuel (nI k) kx f (nI i + 1) M6) = _
          rw [if_neg (nI_ge (by omega) (by omega)), k1, bd_ret, nI_1]
          exact q1
      obtain ⟨M', q1, q2, q3⟩ := key k 0 fuel (m0 M) S.A.W rfl (Nat.zero_le _) (by have := fu; omega) (m0_fr M) (m0_ly hS hM) hS.hA.1
      obtain ⟨w1, w2⟩ := daysF_ok hS.hR (g := S.A.gl) k hS.hA.1 hS.hA.2.1
      rw [q1, hkx]
      dsimp only
      have hf := m_fin hS hM q2 w1 q3
      have hly : LyM (cpI M' 15 (60 * 0) 1 0 60) 15 (60 * 0) (daysF S.R S.A.gl k S.A.W) := q3.fr w1 (P := rg 1 0 60) (Fr.cpI (fun k h1 h2 => ⟨rfl, h1, h2⟩)) (fun k _ _ => by unfold rg; omega)
      have h0 := hf.c.1
      rw [m_becomes fuel (by decide) (by decide), bd_ret, m_anyIn fuel (by decide) h0 hS.p6 (by decide) w1 hly, bd_ret]
      exact ⟨_, rfl, hf⟩
    · obtain ⟨w1, w2⟩ := daysF_ok hS.hR (g := S.A.gl) k hS.hA.1 hS.hA.2.1
      exact hS.newA (hS.hA.setW w1 w2)
  · refine Sm_q (q := fun _ => -1) (fun M S hS hM => ⟨M, ?_, Off.rf⟩) (fun M S hS hM => ⟨M, ?_, Fr.rf⟩)
    · dsimp only
      unfold X_ShakeHands_days
      by_cases h1 : a0 < 1
      · rw [if_pos h1]
      · rw [if_neg h1, if_neg (fun q => hv ⟨Int32.not_lt.mp h1, q⟩)]
    · dsimp only
      unfold X_Model_days
      have e1 := m_in fuel a0 1 99 M
      rw [if_neg hv, show (1 : Int32).toInt64 = 1 by decide, show (99 : Int32).toInt64 = 99 by decide] at e1
      rw [e1, bd_ret, if_pos rfl]
def livF (R : Rl) (g t : Nat) : Nat → Nat → (Nat → List Nat) → Int32
  | 0, _, _ => -4
  | d + 1, day, W => if whoN W t R.1 = 0 then nI day else livF R g t d (day + 1) (dayF R g W)
theorem sim_lives (a0 : Int32) : Sm (fun M => X_ShakeHands_lives fuel a0 M) (fun M => X_Model_lives fuel a0 M) := by
  refine Sm_q (q := fun S => if vN a0 16 then livF S.R S.A.gl (pN a0) 201 0 S.A.W else -1) (fun M S hS hM => ?_) (fun M S hS hM => ?_)
  · dsimp only
    have hg := hS.gl
    have h6 := hS.p6
    unfold X_ShakeHands_lives
    rw [x_isThing, bd_ret]
    by_cases h : vN a0 16 = true
    · obtain ⟨h1, h2⟩ := vN_y (by decide) h
      rw [if_pos h, if_pos h, if_neg i10]
      generalize pN a0 = t at *
      subst h2
      have c1 : Off [39] M (cpL M 17 0 39 0 6) := Off.cpL (by decide)
      have c2 : rowsAt (cpL M 17 0 39 0 6) 39 S.A.W := fun p hp => by
        show (if 39 = 39 ∧ 0 ≤ p ∧ p < 0 + 6 then M.2 17 (0 + (p - 0)) else _) = _
        rw [if_pos ⟨rfl, by omega, by omega⟩, Nat.zero_add, Nat.sub_zero]
        exact hM.a.2.2.1 p hp
      have un : X_Habit_lastDay fuel (nI t) M = X_Habit_lastDay_L20 fuel (nI t) fuel (nI 0) (cpL M 17 0 39 0 6) := by
        unfold X_Habit_lastDay gc
        rw [if_neg (by decide)]
        rfl
      have key : ∀ (d i f : Nat) (N : Mem) (W : Nat → List Nat), 201 - i = d → i ≤ 201 → d < f → XA N S → rowsAt N 39 W → OkW W → (∀ p, S.R.1 ≤ p → W p = []) → ∃ M', X_Habit_lastDay_L20 fuel (nI t) f (nI i) N = some (livF S.R S.A.gl t d i W, M') ∧ Off xS N M' := by
        intro d
        induction d with
        | zero =>
          intro i f N W g1 g2 g3 hN hr hW hE
          obtain ⟨f, rfl⟩ : ∃ g, f = g + 1 := ⟨f - 1, by omega⟩
          have e : i = 201 := by omega
          subst e
          refine ⟨N, ?_, Off.rf⟩
          show (if (200 : Int32) < nI 201 then _ else _) = _
          rw [if_pos (by decide)]
          rfl
        | succ d ih =>
          intro i f N W g1 g2 g3 hN hr hW hE
          obtain ⟨f, rfl⟩ : ∃ g, f = g + 1 := ⟨f - 1, by omega⟩
          have lt200 : ¬ (200 : Int32) < nI i := Int32.not_lt.mpr (nI_le (b := 200) (by omega) (by decide))
          unfold livF
          by_cases e3 : whoN W t S.R.1 = 0
          · refine ⟨N, ?_, Off.rf⟩
            show (if (200 : Int32) < nI i then _ else bd (X_Minds_knowers fuel 39 (nI t) N) fun r1 M2 => if r1 = 0 then some (nI i, M2) else _) = _
            rw [if_neg lt200, minds_knowers fuel (by decide) hW hr h1, whoN_6 h6 hE, bd_ret, if_pos ((who0 h6).mpr e3), if_pos e3]
          · obtain ⟨M1, k1, k2, k3⟩ := circ_liveDay fuel (by decide) hS.hR (rows := 39) (by decide) (show S.A.gl < 2 ^ 31 by omega) hN.c hW hr
            have k4 : Off xS N M1 := xS_of k2 (by decide)
            obtain ⟨M2, q1, q2⟩ := ih (i + 1) f M1 _ (by omega) (by omega) (by omega) (hN.off k4) k3 (hW.day hS.hR) (dayF_end hS.hR hE)
            refine ⟨M2, ?_, k4.trans q2⟩
            show (if (200 : Int32) < nI i then _ else bd (X_Minds_knowers fuel 39 (nI t) N) fun r1 M2 => if r1 = 0 then some (nI i, M2) else bd (X_Circle_liveDay fuel 39 (M2.1 16 1) M2) fun _ M4 => X_Habit_lastDay_L20 fuel (nI t) f (nI i + 1) M4) = _
            rw [if_neg lt200, minds_knowers fuel (by decide) hW hr h1, whoN_6 h6 hE, bd_ret, if_neg (fun q => e3 ((who0 h6).mp q)), hN.a.1, k1, bd_ret, nI_1, if_neg e3]
            exact q1
      obtain ⟨M', q1, q2⟩ := key 201 0 fuel _ S.A.W rfl (by decide) (by decide) (hM.off (xS_of c1 (by decide))) c2 hS.hA.1 hS.hA.2.1
      rw [un, q1, bd_ret]
      exact ⟨M', rfl, (xS_of c1 (by decide)).trans q2⟩
    · rw [if_neg h, if_neg h, if_pos rfl]
      exact ⟨M, rfl, Off.rf⟩
  · dsimp only
    have hg := hS.gl
    have h6 := hS.p6
    unfold X_Model_lives
    rw [m_isThing, bd_ret]
    by_cases h : vN a0 16 = true
    · obtain ⟨h1, h2⟩ := vN_y (by decide) h
      rw [if_pos h, if_pos h, if_neg i10]
      generalize pN a0 = t at *
      subst h2
      rw [show (0 : Int32) = nI 0 from rfl, m0_b, bd_ret]
      have key : ∀ (d i f : Nat) (N : Mem) (W : Nat → List Nat), 201 - i = d → i ≤ 201 → d < f → Fr (mh 0) M N → LyM N 15 (60 * 0) W → OkW W → ∃ M', X_Model_lives_L16 fuel (nI t) f (nI i) N = some (livF S.R S.A.gl t d i W, M') ∧ Fr (mh 0) M M' := by
        intro d
        induction d with
        | zero =>
          intro i f N W g1 g2 g3 hN hr hW
          obtain ⟨f, rfl⟩ : ∃ g, f = g + 1 := ⟨f - 1, by omega⟩
          have e : i = 201 := by omega
          subst e
          refine ⟨N, ?_, hN⟩
          show (if (200 : Int32) < nI 201 then _ else _) = _
          rw [if_pos (by decide)]
          rfl
        | succ d ih =>
          intro i f N W g1 g2 g3 hN hr hW
          obtain ⟨f, rfl⟩ : ∃ g, f = g + 1 := ⟨f - 1, by omega⟩
          have lt200 : ¬ (200 : Int32) < nI i := Int32.not_lt.mpr (nI_le (b := 200) (by omega) (by decide))
          have hc := hM.c.mh hN
          unfold livF
          by_cases e3 : whoN W t S.R.1 = 0
          · refine ⟨N, ?_, hN⟩
            show (if (200 : Int32) < nI i then _ else bd (X_Model_whoIn fuel (nI 0) (nI t) N) fun r1 M2 => if r1 = 0 then some (nI i, M2) else _) = _
            rw [if_neg lt200, m_whoIn fuel (by decide) hc.1 h6 (by decide) h1 hW hr, bd_ret, if_pos ((who0 h6).mpr e3), if_pos e3]
          · have hG : GlM N 60 S.A.gl := by
              have := hM.a.2.1
              rw [Nat.zero_add] at this
              exact this.fr hN (fun k _ _ => mh_1 k)
            obtain ⟨M1, k1, k2, k3⟩ := m_aDay fuel (by decide) hS.hR hS.hA.2.2.1 hc hG hW hr
            obtain ⟨M2, q1, q2⟩ := ih (i + 1) f M1 _ (by omega) (by omega) (by omega) (hN.trans k2) k3 (hW.day hS.hR)
            refine ⟨M2, ?_, q2⟩
            show (if (200 : Int32) < nI i then _ else bd (X_Model_whoIn fuel (nI 0) (nI t) N) fun r1 M2 => if r1 = 0 then some (nI i, M2) else bd (X_Model_aDay fuel (nI 0) M2) fun _ M8 => X_Model_lives_L16 fuel (nI t) f (nI i + 1) M8) = _
            rw [if_neg lt200, m_whoIn fuel (by decide) hc.1 h6 (by decide) h1 hW hr, bd_ret, if_neg (fun q => e3 ((who0 h6).mp q)), k1, bd_ret, nI_1, if_neg e3]
            exact q1
      obtain ⟨M', q1, q2⟩ := key 201 0 fuel (m0 M) S.A.W rfl (by decide) (by decide) (m0_fr M) (m0_ly hS hM) hS.hA.1
      exact ⟨M', q1, mh_S q2⟩
    · rw [if_neg h, if_neg h, if_pos rfl]
      exact ⟨M, rfl, Fr.rf⟩
