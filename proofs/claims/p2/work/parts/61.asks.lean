/-! SEARCH: what is asked for -/
def amF (P t so sh : Nat) (W : WW) : Nat := (whoN W t P ^^^ so) &&& (so ||| sh)
def stF (P t ot : Nat) (W : WW) : Bool := decide (whoN W t P &&& ot = 0)
def ulN (sn : Nat) (sg : Nat → Nat) (W : WW) : Nat → Nat
  | 0 => 0
  | k + 1 => ulN sn sg W k ||| (if (sn.testBit k && !decide (knN (W k) = sg k)) = true then 2 ^ k else 0)
theorem ulN_bit (sn : Nat) (sg : Nat → Nat) (W : WW) (p : Nat) : ∀ k, (ulN sn sg W k).testBit p = (decide (p < k) && (sn.testBit p && !decide (knN (W p) = sg p)))
  | 0 => by simp [ulN]
  | k + 1 => by
    unfold ulN
    rw [Nat.testBit_or, ulN_bit sn sg W p k]
    by_cases e : p = k
    · subst e
      rw [decide_eq_false (Nat.lt_irrefl p), decide_eq_true (Nat.lt_succ_self p), Bool.false_and, Bool.false_or, Bool.true_and]
      split
      · rename_i h
        rw [Nat.testBit_two_pow, decide_eq_true rfl, h]
      · rename_i h
        rw [Nat.zero_testBit, Bool.eq_false_iff.mpr h]
    · have : (if (sn.testBit k && !decide (knN (W k) = sg k)) = true then 2 ^ k else 0).testBit p = false := by
        split
        · rw [Nat.testBit_two_pow]; exact decide_eq_false (fun q => e q.symm)
        · exact Nat.zero_testBit p
      rw [this, Bool.or_false]
      by_cases h : p < k
      · rw [decide_eq_true h, decide_eq_true (show p < k + 1 by omega)]
      · rw [decide_eq_false h, decide_eq_false (show ¬ p < k + 1 by omega)]
theorem ulN_lt (sn : Nat) (sg : Nat → Nat) (W : WW) (k : Nat) : ulN sn sg W k < 2 ^ k := lt_bits (fun i hi => by rw [ulN_bit, decide_eq_false (by omega), Bool.false_and])
theorem amF_ok {P t so sh : Nat} (h1 : so < 64) (h2 : sh < 64) : OkA (amF P t so sh) := ⟨fun W => Nat.lt_of_le_of_lt Nat.and_le_right (Nat.or_lt_two_pow (n := 6) h1 h2), fun W V p hp e => by
  unfold amF
  rw [Nat.testBit_and, Nat.testBit_and, Nat.testBit_xor, Nat.testBit_xor, whoN_bit, whoN_bit, e]⟩
theorem amU_ok {P sn : Nat} {sg : Nat → Nat} (hP : P ≤ 6) : OkA (fun W => ulN sn sg W P) := ⟨fun W => Nat.lt_of_lt_of_le (ulN_lt sn sg W P) (pw6 hP).2, fun W V p hp e => by
  dsimp only
  rw [ulN_bit, ulN_bit, e]⟩
theorem am_so : ∀ a, a < 64 → ∀ b, b < 64 → ((a &&& b = b) ↔ (a ^^^ b) &&& (b ||| 0) = 0) := by decide +kernel
theorem am_sh : ∀ P, P ≤ 6 → ∀ a, a < 64 → a < 2 ^ P → (a = 0 ↔ (a ^^^ 0) &&& (0 ||| (2 ^ P - 1)) = 0) := by decide +kernel
def vK (kd : Int32) (t so ot : Int32) (k : Nat) : Int32 := if k = 39 then kd else if k = 40 then t else if k = 41 then so else ot
theorem m_asks (n : Nat) (kd t so ot : Int32) {S : Ab} (hS : Ok S) {M : Mem} (hM : MA M S) : ∃ M', X_Model_asks n kd t so ot M = some ((), M') ∧ MA M' S ∧ Sl (vK kd t so ot) M' := by
  refine ⟨_, rfl, hM.fr hS ((((Fr.si (P := mS) ?_).trans (Fr.si ?_)).trans (Fr.si ?_)).trans (Fr.si ?_)), fun k h1 h2 => ?_⟩
  · unfold mS; omega
  · unfold mS; omega
  · unfold mS; omega
  · unfold mS; omega
  · have : k = 39 ∨ k = 40 ∨ k = 41 ∨ k = 42 := by omega
    rcases this with rfl | rfl | rfl | rfl <;> rfl
theorem wlt {P : Nat} (hP : P ≤ 6) (W : WW) (t : Nat) : whoN W t P < 64 := Nat.lt_of_lt_of_le (whoN_lt W t P) (pw6 hP).2
theorem gd_k0 (n : Nat) (hn : 20 ≤ n) {S : Ab} (hS : Ok S) {t so : Nat} {ot : Int32} (ht : t < 16) (hs : so < 64) : gdH n S (vK 0 (nI t) (nI so) ot) (amF S.R.1 t so 0) := fun M W L hL hK hW hl => by
  have e39 : M.1 0 39 = 0 := hK.2.2 39 (by omega) (by omega)
  have e40 : M.1 0 40 = nI t := hK.2.2 40 (by omega) (by omega)
  have e41 : M.1 0 41 = nI so := hK.2.2 41 (by omega) (by omega)
  have hw := wlt hS.p6 W t
  unfold X_Model_isGood
  rw [e39, e40, if_neg (by decide), m_whoIn n hn hK.1.c.1 hS.p6 hL ht hW hl, bd_ret, e39, if_neg (by decide), e41, i_and]
  have : _ ↔ amF S.R.1 t so 0 W = 0 := am_so _ hw so hs
  by_cases e : whoN W t S.R.1 &&& so = so
  · rw [if_pos (by rw [e]), if_pos (this.mp e)]
  · rw [if_neg (fun q => e ((nI_eq (Nat.lt_of_le_of_lt Nat.and_le_right (by omega)) (by omega)).mp q)), if_neg (fun q => e (this.mpr q))]
theorem gd_k1 (n : Nat) (hn : 20 ≤ n) {S : Ab} (hS : Ok S) {t : Nat} {so ot : Int32} (ht : t < 16) : gdH n S (vK 1 (nI t) so ot) (amF S.R.1 t 0 (2 ^ S.R.1 - 1)) := fun M W L hL hK hW hl => by
  have e39 : M.1 0 39 = 1 := hK.2.2 39 (by omega) (by omega)
  have e40 : M.1 0 40 = nI t := hK.2.2 40 (by omega) (by omega)
  have hw := wlt hS.p6 W t
  unfold X_Model_isGood
  rw [e39, e40, if_neg (by decide), m_whoIn n hn hK.1.c.1 hS.p6 hL ht hW hl, bd_ret, e39, if_pos (by decide)]
  have : _ ↔ amF S.R.1 t 0 (2 ^ S.R.1 - 1) W = 0 := am_sh _ hS.p6 _ hw (whoN_lt W t _)
  by_cases e : whoN W t S.R.1 = 0
  · rw [if_pos (by rw [e]; rfl), if_pos (this.mp e)]
  · rw [if_neg (fun q => e ((i_z (by omega)).mp q)), if_neg (fun q => e (this.mpr q))]
theorem st_k0 (n : Nat) (hn : 20 ≤ n) {S : Ab} (hS : Ok S) {t ot : Nat} {so : Int32} (ht : t < 16) : stH n S (vK 0 (nI t) so (nI ot)) (stF S.R.1 t ot) := fun M W L hL hK hW hl => by
  have e39 : M.1 0 39 = 0 := hK.2.2 39 (by omega) (by omega)
  have e40 : M.1 0 40 = nI t := hK.2.2 40 (by omega) (by omega)
  have e42 : M.1 0 42 = nI ot := hK.2.2 42 (by omega) (by omega)
  have hw := wlt hS.p6 W t
  unfold X_Model_isStill stF
  rw [e39, e40, if_pos rfl, m_whoIn n hn hK.1.c.1 hS.p6 hL ht hW hl, bd_ret, e42]
  by_cases e : whoN W t S.R.1 &&& ot = 0
  · rw [if_pos ((and_i0 hw).mpr e), decide_eq_true e]; rfl
  · rw [if_neg (fun q => e ((and_i0 hw).mp q)), decide_eq_false e]; rfl
theorem st_k1 (n : Nat) {S : Ab} {kd t so ot : Int32} (h : kd ≠ 0) (t' : Nat) : stH n S (vK kd t so ot) (stF S.R.1 t' 0) := fun M W L hL hK hW hl => by
  have e39 : M.1 0 39 = kd := hK.2.2 39 (by omega) (by omega)
  unfold X_Model_isStill stF
  rw [e39, if_neg h, Nat.and_zero, decide_eq_true rfl]; rfl
theorem m_isSeen_L (n : Nat) (hn : 20 ≤ n) {S : Ab} (hS : Ok S) {M : Mem} (hM : MA M S) {L : Nat} (hL : L < 10) {W : WW} (hW : OkW W) (hl : LyM M 15 (60 * L) W) : ∀ d p f, p + d = S.R.1 → d < f → X_Model_isSeen_L4 n (nI L) f (if ulN S.A.sn S.A.sg W p = 0 then 1 else 0) (nI p) M = some (if ulN S.A.sn S.A.sg W S.R.1 = 0 then 1 else 0, M) := by
  have h6 := hS.p6
  intro d
  induction d with
  | zero =>
    intro p f h1 h2
    obtain ⟨f, rfl⟩ : ∃ q, f = q + 1 := ⟨f - 1, by omega⟩
    have hp : p = S.R.1 := by omega
    rw [hp]
    show (if M.1 0 2 ≤ nI S.R.1 then zr _ M else _) = _
    rw [hM.c.1, if_pos (nI_le (Nat.le_refl _) (by omega))]
    split <;> rfl
  | succ d ih =>
    intro p f h1 h2
    obtain ⟨f, rfl⟩ : ∃ q, f = q + 1 := ⟨f - 1, by omega⟩
    have hp : p < S.R.1 := by omega
    have e66 : ((66 : Int32) + nI p) = nI (66 + p) := nI_add 66 p
    have e72 : ((72 : Int32) + nI p) = nI (72 + p) := nI_add 72 p
    have eb := hM.a.2.2.1 p (by omega)
    rw [← ih (p + 1) f (by omega) (by omega)]
    show (if M.1 0 2 ≤ nI p then _ else nm (fun (u1 : Int32) (M2 : Mem) => (X_Model_isSeen_L4 n (nI L) f u1 (nI p + 1) M2 : Option (Int32 × Mem))) fun k51 => (if (if ulN S.A.sn S.A.sg W p = 0 then (1 : Int32) else 0) = 0 then k51 0 M else gd ((66 : Int32) + nI p) 234 (if (M.1 1 ((66 : Int32) + nI p).toNatClampNeg) = 0 then k51 1 M else bd (X_Model_knowsIn n (nI L) (nI p) M) fun r3 M4 => gd ((72 : Int32) + nI p) 234 (if r3 = (M4.1 1 ((72 : Int32) + nI p).toNatClampNeg) then k51 1 M4 else k51 0 M4)))) = _
    simp only [nm]
    rw [hM.c.1, if_neg (nI_ge hp (by omega)), e66, e72, gd_in (vp_in_nI (n := 66 + p) (by omega) (by decide)), nI_clamp (show 66 + p < 2 ^ 31 by omega), show M.1 1 (66 + p) = _ from eb, nI_1, m_knowsIn n hn hL (by omega) (hl p (by omega)) (hW p).1 (hW p).2, bd_ret, gd_in (vp_in_nI (n := 72 + p) (by omega) (by decide)), nI_clamp (show 72 + p < 2 ^ 31 by omega)]
    have hU : ulN S.A.sn S.A.sg W (p + 1) = ulN S.A.sn S.A.sg W p ||| (if (S.A.sn.testBit p && !decide (knN (W p) = S.A.sg p)) = true then 2 ^ p else 0) := rfl
    have hz : ∀ a b : Nat, (a ||| b = 0) ↔ (a = 0 ∧ b = 0) := fun a b => ⟨fun h => ⟨Nat.le_zero.mp (h ▸ Nat.left_le_or), Nat.le_zero.mp (h ▸ Nat.right_le_or)⟩, fun h => by rw [h.1, h.2]; rfl⟩
    have h2p : (2 : Nat) ^ p ≠ 0 := by have := Nat.one_le_two_pow (n := p); omega
    by_cases e : ulN S.A.sn S.A.sg W p = 0
    · rw [if_pos e, if_neg (by decide)]
      cases es : S.A.sn.testBit p with
      | false =>
        rw [if_pos (show nI (if false = true then 1 else 0) = 0 from rfl)]
        have : ulN S.A.sn S.A.sg W (p + 1) = 0 := by simp [hU, e, es]
        rw [if_pos this]
      | true =>
        rw [if_neg (by decide), show M.1 1 (72 + p) = _ from hM.a.2.2.2 p (by omega) es]
        have hk := knN_lt (hW p).1.2
        have hg := hS.hA.2.2.2.2 p
        by_cases ek : knN (W p) = S.A.sg p
        · have : ulN S.A.sn S.A.sg W (p + 1) = 0 := by simp [hU, e, es, ek]
          rw [if_pos (by rw [ek]), if_pos this]
        · have : ¬ ulN S.A.sn S.A.sg W (p + 1) = 0 := by
            rw [hU, e, es, decide_eq_false ek, hz]
            exact fun q => h2p q.2
          rw [if_neg (fun q => ek ((nI_eq (by omega) (by omega)).mp q)), if_neg this]
    · have : ¬ ulN S.A.sn S.A.sg W (p + 1) = 0 := by
        rw [hU, hz]
        exact fun q => e q.1
      rw [if_neg e, if_pos rfl, if_neg this]
theorem gd_k2 (n : Nat) (hn : 20 ≤ n) {S : Ab} (hS : Ok S) {t so ot : Int32} : gdH n S (vK 2 t so ot) (fun W => ulN S.A.sn S.A.sg W S.R.1) := fun M W L hL hK hW hl => by
  have e39 : M.1 0 39 = 2 := hK.2.2 39 (by omega) (by omega)
  have h6 := hS.p6
  unfold X_Model_isGood
  rw [e39, if_pos rfl]
  unfold X_Model_isSeen
  rw [show X_Model_isSeen_L4 n (nI L) n 1 0 M = _ from m_isSeen_L n hn hS hK.1 hL hW hl S.R.1 0 n (by omega) (by omega), bd_ret]
  dsimp only
  split <;> rfl
