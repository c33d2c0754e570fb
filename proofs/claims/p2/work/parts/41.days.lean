/-! CALLS: feast, after, lost, told, days, lives -/
theorem x_isFeast {M : Mem} {k : Nat} (hk : k < 100) (h : M.1 11 5 = nI k) (p : Int32) : X_ShakeHands_isFeastPart fuel p M = some (if vN p (k + 1) then 1 else 0, M) := by
  unfold X_ShakeHands_isFeastPart
  rw [h]
  have e : nI k < p ↔ nI (k + 1) ≤ p := by
    rw [Int32.lt_iff_toInt_lt, Int32.le_iff_toInt_le, nI_toInt (by omega), nI_toInt (by omega)]
    omega
  by_cases h1 : nI k < p
  · have h2 := e.mp h1
    have h3 := x_in (P := k + 1) (p := p) (some ((0 : Int32), M)) (some ((1 : Int32), M))
    rw [if_pos h2] at h3
    rw [if_pos h1, h3]
    split <;> rfl
  · have h2 : ¬ nI (k + 1) ≤ p := fun q => h1 (e.mpr q)
    have h3 := x_in (P := k + 1) (p := p) (some ((0 : Int32), M)) (some ((1 : Int32), M))
    rw [if_neg h2] at h3
    rw [if_neg h1, h3]
    split <;> rfl
theorem Ok.hl {S : Ab} (h : Ok S) : S.R.2.2.2.1.length ≤ 16 := h.hR.2.2.2.2.2.2.1
theorem m_isFeast {M : Mem} {S : Ab} (hS : Ok S) (h : MA M S) (p : Int32) : X_Model_in fuel p.toInt64 0 ((M.1 0 5 : Int32).toInt64) M = some (if vN p (S.R.2.2.2.1.length + 1) then 1 else 0, M) := by
  have h16 := hS.hl
  have := m_inV fuel (P := S.R.2.2.2.1.length + 1) (by omega) p M
  rw [show nI (S.R.2.2.2.1.length + 1) - 1 = nI S.R.2.2.2.1.length from pk_sub (b := 1) (by omega)] at this
  rw [h.c.2.2.2.1]
  exact this
theorem m_worn0 {M N : Mem} {S : Ab} (hS : Ok S) (h : MA M S) (hN : Fr (mh 0) M N) : X_Model_worn fuel N = some (nI S.A.gl, N) := by
  have hG : GlM N 60 S.A.gl := by
    have := h.a.2.1
    rw [Nat.zero_add] at this
    exact this.fr hN (fun k _ _ => mh_1 k)
  exact m_worn fuel (by decide) (h.c.mh hN).1 hS.p6 hS.hA.2.2.1 hG
theorem m_feasts {M N : Mem} {S : Ab} (hS : Ok S) (h : MA M S) (hN : Fr (mh 0) M N) {g : Nat} (hg : g < 2 ^ 31) {k : Nat} (hk : k ≤ S.R.2.2.2.1.length) : ∃ M', X_Model_feasts fuel (nI k) (nI g) N = some ((), M') ∧ Fr (mh 0) M M' ∧ LyM M' 15 (60 * 0) (feastF S.R g (S.R.2.2.2.1.take k) S.A.W) := by
  have h16 := hS.hl
  unfold X_Model_feasts
  rw [show (0 : Int32) = nI 0 from rfl, m0_b, bd_ret]
  have f1 : Fr (mh 0) M (m0 N) := hN.trans (m0_fr N)
  have hly : LyM (m0 N) 15 0 S.A.W := (h.a.1.fr hS.hA.1 hN (fun k _ _ => mh_1 k)).cp hS.hA.1
  obtain ⟨M1, g1, g2, g3⟩ := m_feasts_L fuel (by decide) hS.hR hg hk k 0 fuel (m0 N) S.A.W rfl (Nat.zero_le _) (by have := fu; omega) (h.c.mh f1) hS.hA.1 hly
  exact ⟨M1, g1, f1.trans g2, g3⟩
theorem m_anyNow {M : Mem} {S : Ab} (hS : Ok S) (h : MA M S) : X_Model_anyNow fuel M = some (nI (anyN S.A.W S.R.1), m0 M) := by
  unfold X_Model_anyNow
  have hc : MC (m0 M) S.R := h.c.mh (m0_fr M)
  rw [show (0 : Int32) = nI 0 from rfl, m0_b, bd_ret, m_anyIn fuel (by decide) hc.1 hS.p6 (by decide) hS.hA.1 (m0_ly hS h), bd_ret]
theorem x_known {M : Mem} {S : Ab} (hS : Ok S) (h : XA M S) : X_Minds_known fuel 17 M = some (nI (anyN S.A.W S.R.1), M) := by
  rw [minds_known fuel (by decide) hS.hA.1 h.a.2.2.1, anyN_6 hS.p6 hS.hA.2.1]
theorem OkW.feastEnd {S : Ab} (hS : Ok S) (g k : Nat) : OkW (feastF S.R g (S.R.2.2.2.1.take k) S.A.W) ∧ ∀ p, S.R.1 ≤ p → feastF S.R g (S.R.2.2.2.1.take k) S.A.W p = [] :=
  ⟨OkW.feast hS.hR _ hS.hA.1, feastF_end _ (fun x hx => hS.hR.2.2.2.2.2.2.2.1 x (List.mem_of_mem_take hx)) hS.hA.2.1⟩
def fstU (k : Nat) (S : Ab) : Int32 × Ab := let V := feastF S.R S.A.gl (S.R.2.2.2.1.take k) S.A.W; (nI (anyN S.A.W S.R.1) &&& (nI (anyN V S.R.1) ^^^ (-1)), S.setA (S.A.setW V))
theorem sim_feast (a0 : Int32) : Sm (fun M => X_ShakeHands_feast fuel a0 M) (fun M => X_Model_feast fuel a0 M) := by
  refine Sm_u (u := fun S => if vN a0 (S.R.2.2.2.1.length + 1) then fstU (pN a0) S else (-1, S)) (fun M S hS hM => ?_) (fun M S hS hM => ?_) (fun S hS => ?_)
  · dsimp only
    have h16 := hS.hl
    have hg := hS.gl
    unfold X_ShakeHands_feast
    rw [x_isFeast (by omega) hM.c.2.2.2.1, bd_ret]
    by_cases h : vN a0 (S.R.2.2.2.1.length + 1) = true
    · obtain ⟨h1, h2⟩ := vN_y (by omega) h
      rw [if_pos h, if_pos h, if_neg i10]
      generalize pN a0 = k at *
      subst h2
      obtain ⟨M', g1, g2, g3⟩ := circ_celebrate fuel (by decide) hS.hR (rows := 17) (by decide) (show S.A.gl < 2 ^ 31 by omega) (k := k) (by omega) hM.c hS.hA.1 hM.a.2.2.1
      obtain ⟨w1, w2⟩ := OkW.feastEnd hS S.A.gl k
      rw [x_known hS hM, bd_ret, hM.a.1, g1, bd_ret, minds_known fuel (by decide) w1 g3, anyN_6 hS.p6 w2, bd_ret]
      exact ⟨M', rfl, hM.newW g2 g3⟩
    · rw [if_neg h, if_neg h, if_pos rfl]
      exact ⟨M, rfl, hM⟩
  · dsimp only
    have h16 := hS.hl
    have hg := hS.gl
    unfold X_Model_feast
    rw [m_isFeast hS hM, bd_ret]
    by_cases h : vN a0 (S.R.2.2.2.1.length + 1) = true
    · obtain ⟨h1, h2⟩ := vN_y (by omega) h
      rw [if_pos h, if_pos h, if_neg i10]
      generalize pN a0 = k at *
      subst h2
      obtain ⟨M', g1, g2, g3⟩ := m_feasts hS hM (m0_fr M) (show S.A.gl < 2 ^ 31 by omega) (k := k) (by omega)
      obtain ⟨w1, w2⟩ := OkW.feastEnd hS S.A.gl k
      have hf := m_fin hS hM g2 w1 g3
      have hly : LyM (cpI M' 15 (60 * 0) 1 0 60) 15 (60 * 0) (feastF S.R S.A.gl (S.R.2.2.2.1.take k) S.A.W) := g3.fr w1 (P := rg 1 0 60) (Fr.cpI (fun k h1 h2 => ⟨rfl, h1, h2⟩)) (fun k _ _ => by unfold rg; omega)
      have h0 := hf.c.1
      rw [m_anyNow hS hM, bd_ret, m_worn0 hS hM (m0_fr M), bd_ret, g1, bd_ret, show (0 : Int32) = nI 0 from rfl, m_becomes fuel (by decide) (by decide), bd_ret, m_anyIn fuel (by decide) h0 hS.p6 (by decide) w1 hly, bd_ret]
      exact ⟨_, rfl, hf⟩
    · rw [if_neg h, if_neg h, if_pos rfl]
      exact ⟨M, rfl, hM⟩
  · split
    · next h =>
      obtain ⟨w1, w2⟩ := OkW.feastEnd hS S.A.gl (pN a0)
      exact hS.newA (hS.hA.setW w1 w2)
    · exact hS
theorem x_trial {M : Mem} {W : Nat → List Nat} (h : rowsAt M 17 W) : X_ShakeHands_takeTrial fuel M = some ((), cpL M 17 0 49 0 6) ∧ rowsAt (cpL M 17 0 49 0 6) 49 W ∧ Off [49] M (cpL M 17 0 49 0 6) := by
  refine ⟨?_, fun p hp => ?_, Off.cpL (by decide)⟩
  · unfold X_ShakeHands_takeTrial gc
    rw [if_neg (by decide)]
    rfl
  · show (if 49 = 49 ∧ 0 ≤ p ∧ p < 0 + 6 then M.2 17 (0 + (p - 0)) else _) = _
    rw [if_pos ⟨rfl, by omega, by omega⟩, Nat.zero_add, Nat.sub_zero]
    exact h p hp
theorem xS_of {L : List Nat} {M M' : Mem} (h : Off L M M') (hl : ∀ a ∈ L, a ∈ xS) : Off xS M M' := h.mono hl
theorem sim_after (a0 : Int32) (a1 : Int32) : Sm (fun M => X_ShakeHands_after fuel a0 a1 M) (fun M => X_Model_after fuel a0 a1 M) := by
  refine Sm_q (q := fun S => if vN a0 (S.R.2.2.2.1.length + 1) then (if vN a1 S.R.1 then nI (knN (feastF S.R S.A.gl (S.R.2.2.2.1.take (pN a0)) S.A.W (pN a1))) else -1) else -1) (fun M S hS hM => ?_) (fun M S hS hM => ?_)
  · dsimp only
    have h16 := hS.hl
    have hg := hS.gl
    have h6 := hS.p6
    unfold X_ShakeHands_after
    rw [x_isFeast (by omega) hM.c.2.2.2.1, bd_ret]
    by_cases h : vN a0 (S.R.2.2.2.1.length + 1) = true
    · obtain ⟨h1, h2⟩ := vN_y (by omega) h
      rw [if_pos h, if_pos h, if_neg i10, x_isOne fuel hM.c.1, bd_ret]
      by_cases h' : vN a1 S.R.1 = true
      · obtain ⟨h3, h4⟩ := vN_y (by omega) h'
        rw [if_pos h', if_pos h', if_neg i10]
        generalize pN a0 = k at *
        generalize pN a1 = p at *
        subst h2 h4
        obtain ⟨t1, t2, t3⟩ := x_trial hM.a.2.2.1
        have hM1 := hM.off (xS_of t3 (by decide))
        obtain ⟨M', g1, g2, g3⟩ := circ_celebrate fuel (by decide) hS.hR (rows := 49) (by decide) (show S.A.gl < 2 ^ 31 by omega) (k := k) (by omega) hM1.c hS.hA.1 t2
        obtain ⟨w1, w2⟩ := OkW.feastEnd hS S.A.gl k
        rw [t1, bd_ret, hM1.a.1, g1, bd_ret, gd_in (vp_in_nI (by omega) (by decide)), nI_clamp (by omega), g3 p (by omega), row_known fuel (w1 p).1 (w1 p).2, bd_ret]
        exact ⟨M', rfl, xS_of (t3.mono (S' := [15, 49]) (by decide) |>.trans g2) (by decide)⟩
      · rw [if_neg h', if_neg h', if_pos rfl]
        exact ⟨M, rfl, Off.rf⟩
    · rw [if_neg h, if_neg h, if_pos rfl]
      exact ⟨M, rfl, Off.rf⟩
  · dsimp only
    have h16 := hS.hl
    have hg := hS.gl
    have h6 := hS.p6
    unfold X_Model_after
    rw [m_isFeast hS hM, bd_ret]
    by_cases h : vN a0 (S.R.2.2.2.1.length + 1) = true
    · obtain ⟨h1, h2⟩ := vN_y (by omega) h
      rw [if_pos h, if_pos h, if_neg i10, m_isOne fuel hS.p31 hM.c.1, bd_ret]
      by_cases h' : vN a1 S.R.1 = true
      · obtain ⟨h3, h4⟩ := vN_y (by omega) h'
        rw [if_pos h', if_pos h', if_neg i10]
        generalize pN a0 = k at *
        generalize pN a1 = p at *
        subst h2 h4
        obtain ⟨M', g1, g2, g3⟩ := m_feasts hS hM (Fr.rf (P := mh 0)) (show S.A.gl < 2 ^ 31 by omega) (k := k) (by omega)
        obtain ⟨w1, w2⟩ := OkW.feastEnd hS S.A.gl k
        rw [m_worn0 hS hM (Fr.rf (P := mh 0)), bd_ret, g1, bd_ret, show (0 : Int32) = nI 0 from rfl, m_knowsIn fuel (by decide) (by decide) (by omega) (g3 p (by omega)) (w1 p).1 (w1 p).2, bd_ret]
        exact ⟨M', rfl, mh_S g2⟩
      · rw [if_neg h', if_neg h', if_pos rfl]
        exact ⟨M, rfl, Fr.rf⟩
    · rw [if_neg h, if_neg h, if_pos rfl]
      exact ⟨M, rfl, Fr.rf⟩
-- hand by hand
def lstF (R : Rl) (g t : Nat) : List Nat → Nat → (Nat → List Nat) → Int32
  | [], _, _ => -4
  | h :: hs, i, W => if whoN (handF R g h W) t R.1 = 0 then nI i else lstF R g t hs (i + 1) (handF R g h W)
def tldF (R : Rl) (g p t : Nat) : List Nat → Nat → (Nat → List Nat) → Int32
  | [], _, _ => -4
  | h :: hs, i, W => if t ∈ handF R g h W p then nI i else tldF R g p t hs (i + 1) (handF R g h W)
theorem who0 {W : Nat → List Nat} {t P : Nat} (hP : P ≤ 6) : nI (whoN W t P) = 0 ↔ whoN W t P = 0 := by
  have h1 := whoN_lt W t P
  have h2 : 2 ^ P ≤ 2 ^ 6 := Nat.pow_le_pow_right (by decide) hP
  exact nI_eq (b := 0) (by omega) (by decide)
theorem sim_lost (a0 : Int32) : Sm (fun M => X_ShakeHands_lost fuel a0 M) (fun M => X_Model_lost fuel a0 M) := by
  refine Sm_q (q := fun S => if vN a0 16 then (if whoN S.A.W (pN a0) S.R.1 = 0 then -2 else lstF S.R S.A.gl (pN a0) S.R.2.2.2.1 0 S.A.W) else -1) (fun M S hS hM => ?_) (fun M S hS hM => ?_)
  · dsimp only
    have h16 := hS.hl
    have hg := hS.gl
    have h6 := hS.p6
    unfold X_ShakeHands_lost
    rw [x_isThing, bd_ret]
    by_cases h : vN a0 16 = true
    · obtain ⟨h1, h2⟩ := vN_y (by decide) h
      rw [if_pos h, if_pos h, if_neg i10]
      generalize pN a0 = t at *
      subst h2
      rw [x_whoNow hS hM h1, bd_ret]
      by_cases e : whoN S.A.W t S.R.1 = 0
      · rw [if_pos ((who0 h6).mpr e), if_pos e]
        exact ⟨M, rfl, Off.rf⟩
      · rw [if_neg (fun q => e ((who0 h6).mp q)), if_neg e]
        obtain ⟨t1, t2, t3⟩ := x_trial hM.a.2.2.1
        rw [t1, bd_ret]
        have key : ∀ (d i f : Nat) (N : Mem) (W : Nat → List Nat), S.R.2.2.2.1.length - i = d → i ≤ S.R.2.2.2.1.length → d < f → XA N S → rowsAt N 49 W → OkW W → (∀ p, S.R.1 ≤ p → W p = []) → ∃ M', X_ShakeHands_lost_L32 fuel (nI t) f (nI i) N = some (lstF S.R S.A.gl t (S.R.2.2.2.1.drop i) i W, M') ∧ Off xS N M' := by
          intro d
          induction d with
          | zero =>
            intro i f N W g1 g2 g3 hN hr hW hE
            obtain ⟨f, rfl⟩ : ∃ g, f = g + 1 := ⟨f - 1, by omega⟩
            refine ⟨N, ?_, Off.rf⟩
            show (if N.1 11 5 ≤ nI i then _ else _) = _
            rw [hN.c.2.2.2.1, if_pos (nI_le (by omega) (by omega)), List.drop_eq_nil_of_le (by omega)]
            rfl
          | succ d ih =>
            intro i f N W g1 g2 g3 hN hr hW hE
            obtain ⟨f, rfl⟩ : ∃ g, f = g + 1 := ⟨f - 1, by omega⟩
            have hi : i < S.R.2.2.2.1.length := by omega
            have e2 := hN.c.2.2.2.2.2.2.1 i _ (List.getElem?_eq_getElem hi)
            have hx := hS.hR.2.2.2.2.2.2.2.1 _ (List.getElem_mem hi)
            obtain ⟨r, M1, k1, k2, k3, -⟩ := circ_meet fuel (by decide) hS.hR hN.c (rows := 49) (by decide) hW hr (show S.A.gl < 2 ^ 31 by omega) hx.1
            have hW' := hW.hand hS.hR S.A.gl S.R.2.2.2.1[i]
            have hE' := handF_end (R := S.R) (g := S.A.gl) hx.1 hx.2 hE
            have k4 : Off xS N M1 := xS_of k2 (by decide)
            have un : X_ShakeHands_lost_L32 fuel (nI t) (f + 1) (nI i) N = if whoN (handF S.R S.A.gl S.R.2.2.2.1[i] W) t S.R.1 = 0 then some (nI i, M1) else X_ShakeHands_lost_L32 fuel (nI t) f (nI (i + 1)) M1 := by
              show (if N.1 11 5 ≤ nI i then _ else gd (nI i) 16 (bd (X_Circle_meet fuel 49 (N.1 16 1) (N.1 13 (nI i).toNatClampNeg) N) fun r7 M8 => bd (X_Minds_knowers fuel 49 (nI t) M8) fun r9 M10 => (if r9 = 0 then some (nI i, M10) else X_ShakeHands_lost_L32 fuel (nI t) f (nI i + 1) M10))) = _
              rw [hN.c.2.2.2.1, if_neg (nI_ge (by omega) (by omega)), gd_in (vp_in_nI (by omega) (by decide)), nI_clamp (by omega), e2, hN.a.1, k1, bd_ret, minds_knowers fuel (by decide) hW' k3 h1, whoN_6 h6 hE', bd_ret, nI_1]
              by_cases e3 : whoN (handF S.R S.A.gl S.R.2.2.2.1[i] W) t S.R.1 = 0
              · rw [if_pos ((who0 h6).mpr e3), if_pos e3]
              · rw [if_neg (fun q => e3 ((who0 h6).mp q)), if_neg e3]
            rw [un, List.drop_eq_getElem_cons hi]
            unfold lstF
            by_cases e3 : whoN (handF S.R S.A.gl S.R.2.2.2.1[i] W) t S.R.1 = 0
            · rw [if_pos e3, if_pos e3]
              exact ⟨M1, rfl, k4⟩
            · rw [if_neg e3, if_neg e3]
              obtain ⟨M2, q1, q2⟩ := ih (i + 1) f M1 _ (by omega) (by omega) (by omega) (hN.off k4) k3 hW' hE'
              exact ⟨M2, q1, k4.trans q2⟩
        obtain ⟨M', q1, q2⟩ := key _ 0 fuel (cpL M 17 0 49 0 6) S.A.W rfl (Nat.zero_le _) (by have := fu; omega) (hM.off (xS_of t3 (by decide))) t2 hS.hA.1 hS.hA.2.1
        exact ⟨M', q1, (xS_of t3 (by decide)).trans q2⟩
    · rw [if_neg h, if_neg h, if_pos rfl]
      exact ⟨M, rfl, Off.rf⟩
  · dsimp only
    have h16 := hS.hl
    have hg := hS.gl
    have h6 := hS.p6
    unfold X_Model_lost
    rw [m_isThing, bd_ret]
    by_cases h : vN a0 16 = true
    · obtain ⟨h1, h2⟩ := vN_y (by decide) h
      rw [if_pos h, if_pos h, if_neg i10]
      generalize pN a0 = t at *
      subst h2
      rw [m_whoNow hS hM h1, bd_ret]
      by_cases e : whoN S.A.W t S.R.1 = 0
      · rw [if_pos ((who0 h6).mpr e), if_pos e]
        exact ⟨_, rfl, mh_S (m0_fr M)⟩
      · rw [if_neg (fun q => e ((who0 h6).mp q)), if_neg e]
        have key : ∀ (d i f : Nat) (N : Mem) (W : Nat → List Nat), S.R.2.2.2.1.length - i = d → i ≤ S.R.2.2.2.1.length → d < f → Fr (mh 0) M N → LyM N 15 (60 * 0) W → OkW W → ∃ M', X_Model_lost_L22 fuel (nI t) f (nI i) N = some (lstF S.R S.A.gl t (S.R.2.2.2.1.drop i) i W, M') ∧ Fr (mh 0) N M' := by
          intro d
          induction d with
          | zero =>
            intro i f N W g1 g2 g3 hN hr hW
            obtain ⟨f, rfl⟩ : ∃ g, f = g + 1 := ⟨f - 1, by omega⟩
            refine ⟨N, ?_, Fr.rf⟩
            show (if N.1 0 5 ≤ nI i then _ else _) = _
            rw [(hM.c.mh hN).2.2.2.1, if_pos (nI_le (by omega) (by omega)), List.drop_eq_nil_of_le (by omega)]
            rfl
          | succ d ih =>
            intro i f N W g1 g2 g3 hN hr hW
            obtain ⟨f, rfl⟩ : ∃ g, f = g + 1 := ⟨f - 1, by omega⟩
            have hi : i < S.R.2.2.2.1.length := by omega
            have hc := hM.c.mh hN
            have e2 := hc.2.2.2.2.2.2.1 i _ (List.getElem?_eq_getElem hi)
            have hx := hS.hR.2.2.2.2.2.2.2.1 _ (List.getElem_mem hi)
            obtain ⟨M1, k1, k2, k3⟩ := m_shakes fuel (by decide) hS.hR hc (L := 0) (by decide) hW hr (show S.A.gl < 2 ^ 31 by omega) hx.1
            have hW' := hW.hand hS.hR S.A.gl S.R.2.2.2.1[i]
            have un : X_Model_lost_L22 fuel (nI t) (f + 1) (nI i) N = if whoN (handF S.R S.A.gl S.R.2.2.2.1[i] W) t S.R.1 = 0 then some (nI i, M1) else X_Model_lost_L22 fuel (nI t) f (nI (i + 1)) M1 := by
              show (if N.1 0 5 ≤ nI i then _ else gd (nI i) 16 (bd (X_Model_worn fuel N) fun r5 M6 => bd (X_Model_shakes fuel (nI 0) (N.1 4 (nI i).toNatClampNeg) r5 M6) fun _ M8 => bd (X_Model_whoIn fuel (nI 0) (nI t) M8) fun r9 M10 => (if r9 = 0 then some (nI i, M10) else X_Model_lost_L22 fuel (nI t) f (nI i + 1) M10))) = _
              rw [hc.2.2.2.1, if_neg (nI_ge (by omega) (by omega)), gd_in (vp_in_nI (by omega) (by decide)), nI_clamp (by omega), e2, m_worn0 hS hM hN, bd_ret, k1, bd_ret, m_whoIn fuel (by decide) (hc.mh k2).1 h6 (by decide) h1 hW' k3, bd_ret, nI_1]
              by_cases e3 : whoN (handF S.R S.A.gl S.R.2.2.2.1[i] W) t S.R.1 = 0
              · rw [if_pos ((who0 h6).mpr e3), if_pos e3]
              · rw [if_neg (fun q => e3 ((who0 h6).mp q)), if_neg e3]
            rw [un, List.drop_eq_getElem_cons hi]
            unfold lstF
            by_cases e3 : whoN (handF S.R S.A.gl S.R.2.2.2.1[i] W) t S.R.1 = 0
            · rw [if_pos e3, if_pos e3]
              exact ⟨M1, rfl, k2⟩
            · rw [if_neg e3, if_neg e3]
              obtain ⟨M2, q1, q2⟩ := ih (i + 1) f M1 _ (by omega) (by omega) (by omega) (hN.trans k2) k3 hW'
              exact ⟨M2, q1, k2.trans q2⟩
        obtain ⟨M', q1, q2⟩ := key _ 0 fuel (m0 M) S.A.W rfl (Nat.zero_le _) (by have := fu; omega) (m0_fr M) (m0_ly hS hM) hS.hA.1
        exact ⟨M', q1, mh_S ((m0_fr M).trans q2)⟩
    · rw [if_neg h, if_neg h, if_pos rfl]
      exact ⟨M, rfl, Fr.rf⟩
