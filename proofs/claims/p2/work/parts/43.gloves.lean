/-! CALLS: gloves, count -/
def eB : Option Nat → Int32
  | none => -4
  | some b => nI b
def gBet (best : Option Nat) (x : Nat) : Bool := match best with
  | none => true
  | some b => decide (popN 16 x < popN 16 b)
def gStep (R : Rl) (g p t : Nat) (W : Nat → List Nat) (best : Option Nat) (x : Nat) : Option Nat :=
  if x &&& g = 0 then (if gBet best x = true then (if t ∈ feastF R (g ||| x) R.2.2.2.1 W p then best else some x) else best) else best
def glvF (R : Rl) (g p t : Nat) (W : Nat → List Nat) : Nat → Nat → Option Nat → Option Nat
  | 0, _, best => best
  | d + 1, x, best => glvF R g p t W d (x + 1) (gStep R g p t W best x)
def gRes (a : Int32) : Option Nat → Int32
  | none => -4
  | some b => if a = 0 then nI (popN 16 b) else nI b
theorem two_P {P : Nat} (hP : P ≤ 6) : ((1 : Int32) <<< (nI P &&& 31)) = nI (2 ^ P) := i_shl1 (by omega)
theorem pw6 {P : Nat} (hP : P ≤ 6) : 1 ≤ 2 ^ P ∧ 2 ^ P ≤ 64 := ⟨Nat.one_le_two_pow, Nat.pow_le_pow_right (n := 2) (by decide) hP⟩
theorem x_everybody {M : Mem} {P : Nat} (hP : P ≤ 6) (h : M.1 11 0 = nI P) : X_ShakeHands_everybody fuel M = some (nI (2 ^ P - 1), M) := by
  unfold X_ShakeHands_everybody
  rw [h, two_P hP, show (1 : Int32) = nI 1 from rfl, pk_sub (pw6 hP).1]
theorem eB_none {b : Option Nat} (hb : ∀ x, b = some x → x < 64) : eB b = -4 ↔ b = none := by
  cases b with
  | none => simp [eB]
  | some x =>
    have := hb x rfl
    constructor
    · intro h; exact absurd h (i_ne4 (by omega))
    · intro h; cases h
theorem gStep_lt {R : Rl} {g p t : Nat} {W : Nat → List Nat} {b : Option Nat} {x : Nat} (hx : x < 64) (hb : ∀ y, b = some y → y < 64) : ∀ y, gStep R g p t W b x = some y → y < 64 := by
  intro y h
  unfold gStep at h
  split at h
  · split at h
    · split at h
      · exact hb y h
      · cases h; exact hx
    · exact hb y h
  · exact hb y h
theorem and_i0 {a b : Nat} (ha : a < 64) : (nI a &&& nI b = 0) ↔ a &&& b = 0 := by
  rw [i_and]
  exact nI_eq (b := 0) (Nat.lt_of_le_of_lt Nat.and_le_left (by omega)) (by decide)
theorem x_glove_L {S : Ab} (hS : Ok S) {p t : Nat} (hp : p < S.R.1) (ht : t < 16) : ∀ (d x f : Nat) (N : Mem) (b : Option Nat), 2 ^ S.R.1 - x = d → x ≤ 2 ^ S.R.1 → d < f → XA N S → (∀ y, b = some y → y < 64) → ∃ M', X_ShakeHands_fewestGloves_L6 fuel (nI t) (nI p) f (eB b) (nI x) N = some (eB (glvF S.R S.A.gl p t S.A.W d x b), M') ∧ Off xS N M' := by
  have hg := hS.gl
  have h6 := hS.p6
  have hpw := pw6 h6
  intro d
  induction d with
  | zero =>
    intro x f N b g1 g2 g3 hN hb
    obtain ⟨f, rfl⟩ : ∃ g, f = g + 1 := ⟨f - 1, by omega⟩
    refine ⟨N, ?_, Off.rf⟩
    show bd (X_ShakeHands_everybody fuel N) (fun r1 M2 => if r1 < nI x then some (eB b, M2) else _) = _
    rw [x_everybody h6 hN.c.1, bd_ret, if_pos (nI_lt (by omega) (by omega))]
    rfl
  | succ d ih =>
    intro x f N b g1 g2 g3 hN hb
    obtain ⟨f, rfl⟩ : ∃ g, f = g + 1 := ⟨f - 1, by omega⟩
    have hx : x < 64 := by omega
    have un : X_ShakeHands_fewestGloves_L6 fuel (nI t) (nI p) (f + 1) (eB b) (nI x) N = if x &&& S.A.gl = 0 then (if gBet b x = true then
        bd (X_ShakeHands_takeTrial fuel N) fun _ M8 => bd (X_Circle_celebrate fuel 49 ((M8.1 16 1) ||| nI x) (M8.1 11 5) M8) fun _ M10 => gd (nI p) 6 (bd (X_Row_knowsIt fuel (M10.2 49 (nI p).toNatClampNeg) (nI t) M10) fun r11 M12 => (if r11 = 0 then X_ShakeHands_fewestGloves_L6 fuel (nI t) (nI p) f (nI x) (nI x + 1) M12 else X_ShakeHands_fewestGloves_L6 fuel (nI t) (nI p) f (eB b) (nI x + 1) M12))
        else X_ShakeHands_fewestGloves_L6 fuel (nI t) (nI p) f (eB b) (nI x + 1) N) else X_ShakeHands_fewestGloves_L6 fuel (nI t) (nI p) f (eB b) (nI x + 1) N := by
      show bd (X_ShakeHands_everybody fuel N) _ = _
      rw [x_everybody h6 hN.c.1, bd_ret, if_neg (Int32.not_lt.mpr (nI_le (by omega) (by omega)))]
      simp only [nm]
      rw [hN.a.1]
      have c0 : ∀ (A B : Option (Int32 × Mem)), (if nI x &&& nI S.A.gl = 0 then A else B) = if x &&& S.A.gl = 0 then A else B := fun A B => by
        by_cases e : x &&& S.A.gl = 0
        · rw [if_pos e, if_pos ((and_i0 hx).mpr e)]
        · rw [if_neg e, if_neg (fun q => e ((and_i0 hx).mp q))]
      cases b with
      | none =>
        rw [if_pos (show eB none = -4 from rfl), if_neg i10, c0, if_pos (show gBet none x = true from rfl)]
      | some y =>
        have hy := hb y rfl
        rw [if_neg (show ¬ eB (some y) = -4 from i_ne4 (by omega)), bitCount_eq _ (by omega), bd_ret]
        show bd (X_Integer_bitCount fuel (nI y) N) _ = _
        rw [bitCount_eq _ (by omega), bd_ret]
        have py := popN_le y 16
        have px := popN_le x 16
        by_cases e : popN 16 y ≤ popN 16 x
        · rw [if_pos (nI_le e (by omega)), hN.a.1, if_pos trivial, c0, if_neg (show ¬ gBet (some y) x = true by simp [gBet]; omega)]
        · rw [if_neg (nI_ge (by omega) (by omega)), hN.a.1, if_neg i10, c0, if_pos (show gBet (some y) x = true by simp [gBet]; omega)]
    have hgx : S.A.gl ||| x < 2 ^ 31 := Nat.lt_trans (Nat.or_lt_two_pow (n := 6) hg hx) (by decide)
    show ∃ M', _ = some (eB (glvF S.R S.A.gl p t S.A.W d (x + 1) (gStep S.R S.A.gl p t S.A.W b x)), M') ∧ _
    rw [un, nI_1]
    by_cases e0 : x &&& S.A.gl = 0
    · rw [if_pos e0]
      by_cases e1 : gBet b x = true
      · rw [if_pos e1]
        obtain ⟨t1, t2, t3⟩ := x_trial hN.a.2.2.1
        have hM1 := hN.off (xS_of t3 (by decide))
        obtain ⟨M1, k1, k2, k3⟩ := circ_celebrate fuel (by decide) hS.hR (rows := 49) (by decide) hgx (k := S.R.2.2.2.1.length) (Nat.le_refl _) hM1.c hS.hA.1 t2
        rw [List.take_length] at k3
        have hW' := OkW.feast hS.hR (gl := S.A.gl ||| x) S.R.2.2.2.1 hS.hA.1
        have fr : Off xS N M1 := xS_of (t3.mono (S' := [15, 49]) (by decide) |>.trans k2) (by decide)
        rw [t1, bd_ret, hM1.a.1, i_or, hM1.c.2.2.2.1, k1, bd_ret, gd_in (vp_in_nI (by omega) (by decide)), nI_clamp (by omega), k3 p (by omega), row_knowsIt fuel (hW' p).1 (hW' p).2 ht, bd_ret]
        by_cases e2 : t ∈ feastF S.R (S.A.gl ||| x) S.R.2.2.2.1 S.A.W p
        · have es : gStep S.R S.A.gl p t S.A.W b x = b := by unfold gStep; rw [if_pos e0, if_pos e1, if_pos e2]
          rw [if_pos e2, if_neg i10, es]
          obtain ⟨M2, q1, q2⟩ := ih (x + 1) f M1 b (by omega) (by omega) (by omega) (hN.off fr) hb
          exact ⟨M2, q1, fr.trans q2⟩
        · have es : gStep S.R S.A.gl p t S.A.W b x = some x := by unfold gStep; rw [if_pos e0, if_pos e1, if_neg e2]
          rw [if_neg e2, if_pos rfl, es]
          obtain ⟨M2, q1, q2⟩ := ih (x + 1) f M1 (some x) (by omega) (by omega) (by omega) (hN.off fr) (fun y h => by cases h; exact hx)
          exact ⟨M2, q1, fr.trans q2⟩
      · have es : gStep S.R S.A.gl p t S.A.W b x = b := by unfold gStep; rw [if_pos e0, if_neg e1]
        rw [if_neg e1, es]
        exact ih (x + 1) f N b (by omega) (by omega) (by omega) hN hb
    · have es : gStep S.R S.A.gl p t S.A.W b x = b := by unfold gStep; rw [if_neg e0]
      rw [if_neg e0, es]
      exact ih (x + 1) f N b (by omega) (by omega) (by omega) hN hb
theorem glvF_lt {R : Rl} {g p t : Nat} {W : Nat → List Nat} : ∀ (d x : Nat) (b : Option Nat), x + d ≤ 64 → (∀ y, b = some y → y < 64) → ∀ y, glvF R g p t W d x b = some y → y < 64
  | 0, _, _, _, hb => hb
  | d + 1, x, _, h, hb => glvF_lt d (x + 1) _ (by omega) (gStep_lt (by omega) hb)
theorem m_glove_L {S : Ab} (hS : Ok S) {p t : Nat} (hp : p < S.R.1) (ht : t < 16) (a3 : Int32) (kx : Int32 → Mem → Option (Int32 × Mem)) {M : Mem} (hM : MA M S) : ∀ (d x f : Nat) (N : Mem) (b : Option Nat), 2 ^ S.R.1 - x = d → x ≤ 2 ^ S.R.1 → d < f → Fr (mh 0) M N → (∀ y, b = some y → y < 64) → ∃ M', X_Model_gloves_L52 fuel (nI t) (nI p) a3 (nI S.A.gl) kx f (eB b) (nI x) N = kx (eB (glvF S.R S.A.gl p t S.A.W d x b)) M' ∧ Fr (mh 0) M M' := by
  have hg := hS.gl
  have h6 := hS.p6
  have hpw := pw6 h6
  intro d
  induction d with
  | zero =>
    intro x f N b g1 g2 g3 hN hb
    obtain ⟨f, rfl⟩ : ∃ g, f = g + 1 := ⟨f - 1, by omega⟩
    refine ⟨N, ?_, hN⟩
    show (if ((1 : Int32) <<< ((N.1 0 2) &&& 31)) ≤ nI x then kx (eB b) N else _) = _
    rw [(hM.c.mh hN).1, two_P h6, if_pos (nI_le (by omega) (by omega))]
    rfl
  | succ d ih =>
    intro x f N b g1 g2 g3 hN hb
    obtain ⟨f, rfl⟩ : ∃ g, f = g + 1 := ⟨f - 1, by omega⟩
    have hx : x < 64 := by omega
    have hc := hM.c.mh hN
    have un : X_Model_gloves_L52 fuel (nI t) (nI p) a3 (nI S.A.gl) kx (f + 1) (eB b) (nI x) N = if x &&& S.A.gl = 0 then (if gBet b x = true then
        bd (X_Model_feasts fuel (N.1 0 5) (nI S.A.gl ||| nI x) N) fun _ M15 => bd (X_Model_knowsIn fuel 0 (nI p) M15) fun r16 M17 => (if ((r16 >>> (nI t &&& 31)) &&& 1) = 0 then X_Model_gloves_L52 fuel (nI t) (nI p) a3 (nI S.A.gl) kx f (nI x) (nI x + 1) M17 else X_Model_gloves_L52 fuel (nI t) (nI p) a3 (nI S.A.gl) kx f (eB b) (nI x + 1) M17)
        else X_Model_gloves_L52 fuel (nI t) (nI p) a3 (nI S.A.gl) kx f (eB b) (nI x + 1) N) else X_Model_gloves_L52 fuel (nI t) (nI p) a3 (nI S.A.gl) kx f (eB b) (nI x + 1) N := by
      show (if ((1 : Int32) <<< ((N.1 0 2) &&& 31)) ≤ nI x then kx (eB b) N else _) = _
      rw [hc.1, two_P h6, if_neg (nI_ge (by omega) (by omega))]
      simp only [nm]
      have c0 : ∀ (A B : Option (Int32 × Mem)), (if nI x &&& nI S.A.gl = 0 then A else B) = if x &&& S.A.gl = 0 then A else B := fun A B => by
        by_cases e : x &&& S.A.gl = 0
        · rw [if_pos e, if_pos ((and_i0 hx).mpr e)]
        · rw [if_neg e, if_neg (fun q => e ((and_i0 hx).mp q))]
      rw [c0]
      cases b with
      | none =>
        rw [if_pos (show eB none = -4 from rfl), if_pos (show gBet none x = true from rfl)]
      | some y =>
        have hy := hb y rfl
        rw [if_neg (show ¬ eB (some y) = -4 from i_ne4 (by omega)), m_bitsOf fuel (by decide) (by omega), bd_ret]
        have ey : X_Model_bitsOf fuel (eB (some y)) N = some (nI (popN 16 y), N) := m_bitsOf fuel (by decide) (by omega) N
        rw [ey, bd_ret]
        have py := popN_le y 16
        have px := popN_le x 16
        by_cases e : popN 16 y ≤ popN 16 x
        · rw [if_pos (nI_le e (by omega)), if_neg (show ¬ gBet (some y) x = true by simp [gBet]; omega)]
        · rw [if_neg (nI_ge (by omega) (by omega)), if_pos (show gBet (some y) x = true by simp [gBet]; omega)]
    have hgx : S.A.gl ||| x < 2 ^ 31 := Nat.lt_trans (Nat.or_lt_two_pow (n := 6) hg hx) (by decide)
    show ∃ M', _ = kx (eB (glvF S.R S.A.gl p t S.A.W d (x + 1) (gStep S.R S.A.gl p t S.A.W b x))) M' ∧ _
    rw [un, nI_1]
    by_cases e0 : x &&& S.A.gl = 0
    · rw [if_pos e0]
      by_cases e1 : gBet b x = true
      · rw [if_pos e1]
        obtain ⟨M1, k1, k2, k3⟩ := m_feasts hS hM hN hgx (k := S.R.2.2.2.1.length) (Nat.le_refl _)
        rw [List.take_length] at k3
        have hW' := OkW.feast hS.hR (gl := S.A.gl ||| x) S.R.2.2.2.1 hS.hA.1
        have hk := knN_lt (hW' p).1.2
        rw [hc.2.2.2.1, i_or, k1, bd_ret, show (0 : Int32) = nI 0 from rfl, m_knowsIn fuel (by decide) (by decide) (by omega) (k3 p (by omega)) (hW' p).1 (hW' p).2, bd_ret, b_is (by omega) (by omega), knN_bit]
        by_cases e2 : t ∈ feastF S.R (S.A.gl ||| x) S.R.2.2.2.1 S.A.W p
        · have es : gStep S.R S.A.gl p t S.A.W b x = b := by unfold gStep; rw [if_pos e0, if_pos e1, if_pos e2]
          rw [if_neg (by simp [e2]; decide), es]
          exact ih (x + 1) f M1 b (by omega) (by omega) (by omega) k2 hb
        · have es : gStep S.R S.A.gl p t S.A.W b x = some x := by unfold gStep; rw [if_pos e0, if_pos e1, if_neg e2]
          rw [if_pos (by simp [e2]), es]
          exact ih (x + 1) f M1 (some x) (by omega) (by omega) (by omega) k2 (fun y h => by cases h; exact hx)
      · have es : gStep S.R S.A.gl p t S.A.W b x = b := by unfold gStep; rw [if_pos e0, if_neg e1]
        rw [if_neg e1, es]
        exact ih (x + 1) f N b (by omega) (by omega) (by omega) hN hb
    · have es : gStep S.R S.A.gl p t S.A.W b x = b := by unfold gStep; rw [if_neg e0]
      rw [if_neg e0, es]
      exact ih (x + 1) f N b (by omega) (by omega) (by omega) hN hb
theorem in01 {α : Type} (a : Int32) (A B : α) : (if a < 0 then B else if a ≤ 1 then A else B) = if vN a 2 then A else B := by
  rw [← x_in]
  by_cases h : a < 0
  · rw [if_pos h, if_pos h]
  · rw [if_neg h, if_neg h]
    have e : a ≤ 1 ↔ ¬ nI 2 ≤ a := by
      rw [Int32.le_iff_toInt_le, Int32.le_iff_toInt_le]
      have e1 : (1 : Int32).toInt = 1 := rfl
      have e2 : (nI 2).toInt = 2 := rfl
      omega
    by_cases h2 : a ≤ 1
    · rw [if_pos h2, if_neg (e.mp h2)]
    · rw [if_neg h2, if_pos (Decidable.of_not_not (fun q => h2 (e.mpr q)))]
theorem sim_gloves (a0 : Int32) (a1 : Int32) (a2 : Int32) : Sm (fun M => X_ShakeHands_gloves fuel a0 a1 a2 M) (fun M => X_Model_gloves fuel a0 a1 a2 M) := by
  refine Sm_q (q := fun S => if vN a0 16 then (if vN a1 S.R.1 then (if vN a2 2 then (if pN a0 ∈ S.A.W (pN a1) then -2 else gRes a2 (glvF S.R S.A.gl (pN a1) (pN a0) S.A.W (2 ^ S.R.1) 0 none)) else -1) else -1) else -1) (fun M S hS hM => ?_) (fun M S hS hM => ?_)
  · dsimp only
    have h6 := hS.p6
    have hpw := pw6 h6
    unfold X_ShakeHands_gloves
    rw [x_isThing, bd_ret]
    by_cases h : vN a0 16 = true
    · obtain ⟨h1, h2⟩ := vN_y (by decide) h
      rw [if_pos h, if_pos h, if_neg i10, x_isOne fuel hM.c.1, bd_ret]
      by_cases h' : vN a1 S.R.1 = true
      · obtain ⟨h3, h4⟩ := vN_y hS.p31 h'
        rw [if_pos h', if_pos h', if_neg i10, in01]
        by_cases h'' : vN a2 2 = true
        · rw [if_pos h'', if_pos h'']
          generalize pN a0 = t at *
          generalize pN a1 = p at *
          subst h2 h4
          rw [x_knowsNow hS hM h3 h1, bd_ret]
          by_cases e : t ∈ S.A.W p
          · rw [if_pos e, if_pos e, if_neg i10]
            exact ⟨M, rfl, Off.rf⟩
          · rw [if_neg e, if_neg e, if_pos rfl]
            obtain ⟨M', q1, q2⟩ := x_glove_L hS h3 h1 (2 ^ S.R.1) 0 fuel M none rfl (Nat.zero_le _) (by have := fu; omega) hM (fun y h => by cases h)
            have hl := glvF_lt (R := S.R) (g := S.A.gl) (p := p) (t := t) (W := S.A.W) (2 ^ S.R.1) 0 none (by omega) (fun y h => by cases h)
            have q0 : X_ShakeHands_fewestGloves fuel (nI t) (nI p) M = some (eB (glvF S.R S.A.gl p t S.A.W (2 ^ S.R.1) 0 none), M') := q1
            rw [q0, bd_ret]
            generalize glvF S.R S.A.gl p t S.A.W (2 ^ S.R.1) 0 none = b at *
            refine ⟨M', ?_, q2⟩
            cases b with
            | none => rfl
            | some y =>
              have hy := hl y rfl
              rw [if_neg (show ¬ eB (some y) = -4 from i_ne4 (by omega))]
              show _ = some ((if a2 = 0 then nI (popN 16 y) else nI y), M')
              by_cases e3 : a2 = 0
              · have ey : X_Integer_bitCount fuel (eB (some y)) M' = some (nI (popN 16 y), M') := bitCount_eq _ (by omega) M'
                rw [if_pos e3, if_pos e3, ey, bd_ret]
              · rw [if_neg e3, if_neg e3]
                rfl
        · rw [if_neg h'', if_neg h'']
          exact ⟨M, rfl, Off.rf⟩
      · rw [if_neg h', if_neg h', if_pos rfl]
        exact ⟨M, rfl, Off.rf⟩
    · rw [if_neg h, if_neg h, if_pos rfl]
      exact ⟨M, rfl, Off.rf⟩
  · dsimp only
    have h6 := hS.p6
    have hpw := pw6 h6
    unfold X_Model_gloves
    have e3 := m_inV fuel (P := 2) (by decide) a2 M
    rw [show (nI 2 - 1 : Int32).toInt64 = 1 by decide] at e3
    rw [m_isThing, bd_ret]
    by_cases h : vN a0 16 = true
    · obtain ⟨h1, h2⟩ := vN_y (by decide) h
      rw [if_pos h, if_pos h, if_neg i10, m_isOne fuel hS.p31 hM.c.1, bd_ret]
      by_cases h' : vN a1 S.R.1 = true
      · obtain ⟨h3, h4⟩ := vN_y hS.p31 h'
        rw [if_pos h', if_pos h', if_neg i10, e3, bd_ret]
        by_cases h'' : vN a2 2 = true
        · rw [if_pos h'', if_pos h'', if_neg i10]
          generalize pN a0 = t at *
          generalize pN a1 = p at *
          subst h2 h4
          rw [m_knowsIt hS hM h3 h1, bd_ret]
          by_cases e : t ∈ S.A.W p
          · rw [if_pos e, if_pos e, if_neg i10]
            exact ⟨_, rfl, mh_S (m0_fr M)⟩
          · rw [if_neg e, if_neg e, if_pos rfl, m_worn0 hS hM (m0_fr M), bd_ret]
            have hl := glvF_lt (R := S.R) (g := S.A.gl) (p := p) (t := t) (W := S.A.W) (2 ^ S.R.1) 0 none (by omega) (fun y h => by cases h)
            obtain ⟨kx, hkx⟩ : ∃ kx : Int32 → Mem → Option (Int32 × Mem), kx = fun y23 M24 => (if y23 = (-4) then some ((-4), M24) else (if a2 = 0 then bd (X_Model_bitsOf fuel y23 M24) fun r25 M26 => some (r25, M26) else some (y23, M24))) := ⟨_, rfl⟩
            obtain ⟨M', q1, q2⟩ := m_glove_L hS h3 h1 a2 kx hM (2 ^ S.R.1) 0 fuel (m0 M) none rfl (Nat.zero_le _) (by have := fu; omega) (m0_fr M) (fun y h => by cases h)
            refine ⟨M', ?_, mh_S q2⟩
            rw [← hkx]
            refine Eq.trans q1 ?_
            generalize glvF S.R S.A.gl p t S.A.W (2 ^ S.R.1) 0 none = b at *
            rw [hkx]
            cases b with
            | none => rfl
            | some y =>
              have hy := hl y rfl
              dsimp only
              rw [if_neg (show ¬ eB (some y) = -4 from i_ne4 (by omega))]
              show _ = some ((if a2 = 0 then nI (popN 16 y) else nI y), M')
              by_cases e3 : a2 = 0
              · have ey : X_Model_bitsOf fuel (eB (some y)) M' = some (nI (popN 16 y), M') := m_bitsOf fuel (by decide) (by omega) M'
                rw [if_pos e3, if_pos e3, ey, bd_ret]
              · rw [if_neg e3, if_neg e3]
                rfl
        · rw [if_neg h'', if_neg h'', if_pos rfl]
          exact ⟨M, rfl, Fr.rf⟩
      · rw [if_neg h', if_neg h', if_pos rfl]
        exact ⟨M, rfl, Fr.rf⟩
    · rw [if_neg h, if_neg h, if_pos rfl]
      exact ⟨M, rfl, Fr.rf⟩
