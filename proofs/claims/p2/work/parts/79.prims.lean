/-! THE TEXT: what both take of a line -/
theorem x_rfs (n f : Nat) (hf : f < 8) {M : Mem} {s : Tk} (hs : s.1 < 8) (h : XT M s) : ∃ M', X_Teller_refuse n (nI f) M = some ((), M') ∧ XT M' (rfs true f s) ∧ Fr xt M M' := x_refuse n f hf hs h
theorem rfs_f (f : Nat) (s : Tk) : rfs false f s = s := rfl
theorem oob_i {lo hi v : Nat} (hl : lo < 2 ^ 31) (hh : hi < 2 ^ 31) (hv : v < 2 ^ 31) : oob lo hi v = true ↔ (nI v < nI lo ∨ ¬ nI v ≤ nI hi) := by
  unfold oob
  rw [decide_eq_true_iff]
  constructor
  · intro h
    rcases h with h | h
    · exact Or.inl (nI_lt h hl)
    · exact Or.inr (nI_ge h hv)
  · intro h
    rcases h with h | h
    · by_cases q : v < lo
      · exact Or.inl q
      · exact absurd h (Int32.not_lt.mpr (nI_le (by omega) hv))
    · by_cases q : hi < v
      · exact Or.inr q
      · exact absurd (nI_le (by omega) hh) h
theorem x_bounded (n : Nat) {M : Mem} {s : Tk} {lo hi : Nat} (hl : lo < 2 ^ 31) (hh : hi < 2 ^ 31) (hs : s.1 < 8) (hv : s.1 = 0 → s.2.2.2.2 < 2 ^ 31) (h : XT M s) : ∃ M', X_Teller_boundedValue n (nI lo) (nI hi) M = some (nI (vaN lo (rfs (oob lo hi s.2.2.2.2) 3 s)), M') ∧ XT M' (rfs (oob lo hi s.2.2.2.2) 3 s) ∧ Fr xt M M' := by
  have un : X_Teller_boundedValue n (nI lo) (nI hi) M = (if (M.1 3 3) = 0 then (if (M.1 3 9) < nI lo then (bd (X_Teller_refuse n 3 M) fun _ M3 => (if (M3.1 3 3) = 0 then some ((M3.1 3 9), M3) else some (nI lo, M3))) else (if (M.1 3 9) ≤ nI hi then (if (M.1 3 3) = 0 then some ((M.1 3 9), M) else some (nI lo, M)) else (bd (X_Teller_refuse n 3 M) fun _ M3 => (if (M3.1 3 3) = 0 then some ((M3.1 3 9), M3) else some (nI lo, M3))))) else (if (M.1 3 3) = 0 then some ((M.1 3 9), M) else some (nI lo, M))) := rfl
  rw [un, h.1, h.2.2.2.2]
  by_cases e : s.1 = 0
  · have hv := hv e
    have ho := oob_i hl hh hv
    have e0 : nI s.1 = 0 := by rw [e]; rfl
    rw [if_pos e0, if_pos e0]
    have bad : oob lo hi s.2.2.2.2 = true → ∃ M', (bd (X_Teller_refuse n 3 M) fun _ M3 => (if (M3.1 3 3) = 0 then some ((M3.1 3 9), M3) else some (nI lo, M3))) = some (nI (vaN lo (rfs (oob lo hi s.2.2.2.2) 3 s)), M') ∧ XT M' (rfs (oob lo hi s.2.2.2.2) 3 s) ∧ Fr xt M M' := fun eo => by
      obtain ⟨M', b1, b2, b3⟩ := x_rfs n 3 (by decide) hs h
      rw [eo]
      have e3 : rfs true 3 s = (3, s.2) := by unfold rfs; rw [if_pos rfl, if_pos e]
      rw [e3] at b2 ⊢
      rw [show X_Teller_refuse n 3 M = _ from b1, bd_ret, b2.1]
      refine ⟨M', ?_, b2, b3⟩
      rw [if_neg (show ¬ nI (3, s.2).1 = 0 by show ¬ nI 3 = 0; decide)]
      rfl
    by_cases e1 : nI s.2.2.2.2 < nI lo
    · rw [if_pos e1]
      exact bad (ho.mpr (Or.inl e1))
    · rw [if_neg e1]
      by_cases e2 : nI s.2.2.2.2 ≤ nI hi
      · have eo : oob lo hi s.2.2.2.2 = false := Bool.eq_false_iff.mpr (fun q => (ho.mp q).elim e1 (fun r => r e2))
        rw [if_pos e2, eo, rfs_f]
        refine ⟨M, ?_, h, Fr.rf⟩
        unfold vaN
        rw [if_pos e]
      · rw [if_neg e2]
        exact bad (ho.mpr (Or.inr e2))
  · have e0 : ¬ nI s.1 = 0 := fun q => e ((i_z (by omega)).mp q)
    have er : rfs (oob lo hi s.2.2.2.2) 3 s = s := by unfold rfs; rw [if_neg e]; split <;> rfl
    rw [if_neg e0, if_neg e0, er]
    refine ⟨M, ?_, h, Fr.rf⟩
    unfold vaN
    rw [if_neg e]
theorem x_takeNumber (n : Nat) (hn : 400 ≤ n) {M : Mem} {tp : List Nat} {s : Tk} {lo hi : Nat} (hl : lo < 2 ^ 31) (hh : hi < 2 ^ 31) (hT : XTp M tp) (hs : OkT tp s) (h : XT M s) : ∃ M', X_Teller_takeNumber n (nI lo) (nI hi) M = some (nI (vaN lo (tkN tp lo hi s)), M') ∧ XT M' (tkN tp lo hi s) ∧ Fr xt M M' := by
  obtain ⟨M1, a1, a2, a3⟩ := x_readToken n hn hT hs.1 hs.2.1 h
  have ho := rdX_ok hs
  generalize ha : rdX tp s = a at a2 ho
  have et : tkN tp lo hi s = rfs (oob lo hi (rfs (decide (a.2.2.1 ≠ 2)) 2 a).2.2.2.2) 3 (rfs (decide (a.2.2.1 ≠ 2)) 2 a) := by rw [← ha]; rfl
  have un : X_Teller_takeNumber n (nI lo) (nI hi) M = (if (M1.1 3 3) = 0 then (if (M1.1 3 7) = 2 then (bd (X_Teller_boundedValue n (nI lo) (nI hi) M1) fun r4 M5 => some (r4, M5)) else bd (X_Teller_refuse n 2 M1) fun _ M7 => (bd (X_Teller_boundedValue n (nI lo) (nI hi) M7) fun r4 M5 => some (r4, M5))) else (bd (X_Teller_boundedValue n (nI lo) (nI hi) M1) fun r4 M5 => some (r4, M5))) := by
    unfold X_Teller_takeNumber
    rw [a1, bd_ret]
    rfl
  have go : ∀ (N : Mem) (b : Tk), XT N b → b.1 < 8 → (b.1 = 0 → b.2.2.2.2 < 2 ^ 31) → Fr xt M N → b = rfs (decide (a.2.2.1 ≠ 2)) 2 a → ∃ M', (bd (X_Teller_boundedValue n (nI lo) (nI hi) N) fun r4 M5 => some (r4, M5)) = some (nI (vaN lo (tkN tp lo hi s)), M') ∧ XT M' (tkN tp lo hi s) ∧ Fr xt M M' := by
    intro N b g1 g2 g3 g4 g5
    obtain ⟨M', b1, b2, b3⟩ := x_bounded n hl hh g2 g3 g1
    rw [et, ← g5]
    exact ⟨M', by rw [b1, bd_ret], b2, g4.trans b3⟩
  rw [un, a2.1, a2.2.2.1]
  by_cases e : a.1 = 0
  · rw [if_pos (show nI a.1 = 0 by rw [e]; rfl)]
    by_cases e2 : a.2.2.1 = 2
    · rw [if_pos (show nI a.2.2.1 = 2 by rw [e2]; rfl)]
      exact go M1 a a2 ho.1 (fun q => by have := ho.2.2.1 q e2; omega) a3 (by rw [decide_eq_false (fun q => q e2)]; rfl)
    · obtain ⟨M2, b1, b2, b3⟩ := x_rfs n 2 (by decide) ho.1 a2
      have hk : ¬ nI a.2.2.1 = 2 := fun q => e2 ((nI_eq (b := 2) (by have := ho.2.2.2; omega) (by decide)).mp q)
      rw [if_neg hk, show X_Teller_refuse n 2 M1 = _ from b1, bd_ret]
      have er : rfs true 2 a = (2, a.2) := by unfold rfs; rw [if_pos rfl, if_pos e]
      exact go M2 (rfs true 2 a) b2 (by rw [er]; show 2 < 8; decide) (fun q => by rw [er] at q; exact absurd (show 2 = 0 from q) (by decide)) (a3.trans b3) (by rw [decide_eq_true e2])
  · rw [if_neg (fun q => e ((i_z (show a.1 < 2 ^ 31 by have := ho.1; omega)).mp q))]
    exact go M1 a a2 ho.1 (fun q => absurd q e) a3 (by unfold rfs; rw [if_neg e]; split <;> rfl)
theorem x_takeSign (n : Nat) (hn : 400 ≤ n) {M : Mem} {tp : List Nat} {s : Tk} (hT : XTp M tp) (hs : OkT tp s) (h : XT M s) : ∃ M', X_Teller_takeSign n M = some ((), M') ∧ XT M' (tkS tp s) ∧ Fr xt M M' := by
  obtain ⟨M1, a1, a2, a3⟩ := x_readToken n hn hT hs.1 hs.2.1 h
  have ho := rdX_ok hs
  unfold X_Teller_takeSign tkS
  generalize rdX tp s = a at a2 ho
  rw [a1, bd_ret, a2.2.2.1]
  by_cases e : a.2.2.1 = 3
  · rw [if_pos (show nI a.2.2.1 = 3 by rw [e]; rfl), decide_eq_false (fun q => q e), rfs_f]
    exact ⟨M1, rfl, a2, a3⟩
  · rw [if_neg (show ¬ nI a.2.2.1 = 3 from fun q => e ((nI_eq (b := 3) (by have := ho.2.2.2; omega) (by decide)).mp q)), decide_eq_true e]
    obtain ⟨M2, b1, b2, b3⟩ := x_rfs n 2 (by decide) ho.1 a2
    rw [show X_Teller_refuse n 2 M1 = _ from b1, bd_ret]
    exact ⟨M2, rfl, b2, a3.trans b3⟩
def OkM (tp : List Nat) (t : Tm) : Prop := t.1 < 8 ∧ t.2.2.1 ≤ tp.length ∧ (t.1 = 0 → t.2.2.2.2.1 = 2 → t.2.2.2.2.2 < 100) ∧ t.2.2.2.2.1 < 4
theorem ned_okM {tp : List Nat} {t : Tm} {ok : Bool} {f : Nat} (hf : 0 < f ∧ f < 8) (h : OkM tp t) : OkM tp (ned ok f t) := by
  unfold ned
  split
  · exact h
  · split
    · exact ⟨hf.2, h.2.1, fun (a : f = 0) => by omega, h.2.2.2⟩
    · exact h
theorem rdM_ok {tp : List Nat} {t : Tm} (h : OkM tp t) : OkM tp (rdM tp t) := by
  unfold rdM
  by_cases e : t.1 = 0
  · rw [if_pos e]
    obtain ⟨q1, q2⟩ := rn_le (tp := tp) (lo := 32) (hi := 32) tp.length t.2.2.1 h.2.1
    generalize rn tp 32 32 tp.length t.2.2.1 = q at q1 q2
    dsimp only
    by_cases eq : q < tp.length
    · rw [if_pos eq]
      by_cases e1 : inr tp 97 122 q = true
      · rw [if_pos e1]
        exact ⟨by show 0 < 8; decide, (rn_le _ _ q2).2, fun _ (q : 1 = 2) => absurd q (by decide), by show 1 < 4; decide⟩
      · rw [if_neg e1]
        by_cases e2 : inr tp 48 57 q = true
        · rw [if_pos e2]
          by_cases e3 : rn tp 48 57 tp.length q - q ≤ 2
          · rw [decide_eq_true e3]
            exact ⟨by show 0 < 8; decide, (rn_le _ _ q2).2, fun _ _ => by show nm2 tp q tp.length q 0 < 100; rw [nm2_nv _ _ _ e3]; exact rn_two e3, by show 2 < 4; decide⟩
          · rw [decide_eq_false e3]
            exact ⟨by show 1 < 8; decide, (rn_le _ _ q2).2, fun (a : 1 = 0) => absurd a (by decide), by show 2 < 4; decide⟩
        · rw [if_neg e2]
          refine ⟨?_, eq, fun _ (q : 3 = 2) => absurd q (by decide), by show 3 < 4; decide⟩
          show (ned (inr tp 59 59 q) 1 (0, t.2.1, q, q, 3, t.2.2.2.2.2)).1 < 8
          unfold ned
          split
          · show 0 < 8; decide
          · show 1 < 8; decide
    · rw [if_neg eq]
      exact ⟨by show 0 < 8; decide, q2, fun _ (q : 0 = 2) => absurd q (by decide), by show 0 < 4; decide⟩
  · rw [if_neg e]; exact h
theorem oob_d (lo hi v : Nat) : (!oob lo hi v) = decide (lo ≤ v ∧ v ≤ hi) := by
  unfold oob
  by_cases q : lo ≤ v ∧ v ≤ hi
  · rw [decide_eq_true q, decide_eq_false (by omega)]; rfl
  · rw [decide_eq_false q, decide_eq_true (by omega)]; rfl
theorem m_looked (n : Nat) {M : Mem} {tp : List Nat} {t : Tm} {lo hi : Nat} (hl : lo < 2 ^ 31) (hh : hi < 2 ^ 31) (hs : OkM tp t) (h : MT M t) : ∃ M', X_Model_looked n (nI lo) (nI hi) M = some (nI (vaM (lkN lo hi t)), M') ∧ MT M' (lkN lo hi t) ∧ Fr mt M M' := by
  have fin : ∀ (N : Mem) (b : Tm), MT N b → b.1 < 8 → (if (N.1 0 31) = 0 then some ((N.1 0 30), N) else some (0, N)) = some (nI (vaM b), N) := by
    intro N b g1 g2
    rw [g1.1]
    unfold vaM
    by_cases e : b.1 = 0
    · rw [if_pos (show nI b.1 = 0 by rw [e]; rfl), if_pos e, g1.2.2.2.2.2]
    · rw [if_neg (fun q => e ((i_z (by omega)).mp q)), if_neg e]
      rfl
  have un : X_Model_looked n (nI lo) (nI hi) M = (if (M.1 0 31) = 0 then (bd (X_Model_needs n (if (M.1 0 29) = 2 then 1 else 0) 2 M) fun _ M1 => (if (M1.1 0 31) = 0 then bd (X_Model_in n (((M1.1 0 30) : Int32).toInt64) ((nI lo).toInt64) ((nI hi).toInt64) M1) fun r3 M4 => bd (X_Model_needs n r3 3 M4) fun _ M6 => (if (M6.1 0 31) = 0 then some ((M6.1 0 30), M6) else some (0, M6)) else (if (M1.1 0 31) = 0 then some ((M1.1 0 30), M1) else some (0, M1)))) else (if (M.1 0 31) = 0 then bd (X_Model_in n (((M.1 0 30) : Int32).toInt64) ((nI lo).toInt64) ((nI hi).toInt64) M) fun r3 M4 => bd (X_Model_needs n r3 3 M4) fun _ M6 => (if (M6.1 0 31) = 0 then some ((M6.1 0 30), M6) else some (0, M6)) else (if (M.1 0 31) = 0 then some ((M.1 0 30), M) else some (0, M)))) := by
    unfold X_Model_looked
    simp only [nm]
    by_cases e : M.1 0 29 = 2
    · rw [if_pos e, if_pos e]
    · rw [if_neg e, if_neg e]
  rw [un, h.1]
  by_cases e : t.1 = 0
  · rw [if_pos (show nI t.1 = 0 by rw [e]; rfl)]
    have hk : (M.1 0 29 = 2) ↔ t.2.2.2.2.1 = 2 := by
      rw [h.2.2.2.2.1]
      exact nI_eq (b := 2) (by have := hs.2.2.2; omega) (by decide)
    obtain ⟨M1, b1, b2, b3⟩ := m_needs n (p1 := if (M.1 0 29) = 2 then 1 else 0) (ok := decide (t.2.2.2.2.1 = 2)) (by
      by_cases q : t.2.2.2.2.1 = 2
      · rw [if_pos (hk.mpr q), decide_eq_true q]; decide
      · rw [if_neg (fun r => q (hk.mp r)), decide_eq_false q]; decide) 2 hs.1 h
    rw [show X_Model_needs n (if (M.1 0 29) = 2 then 1 else 0) 2 M = _ from b1, bd_ret, b2.1]
    have hb8 := (ned_okM (ok := decide (t.2.2.2.2.1 = 2)) (f := 2) (by decide) hs)
    by_cases e2 : t.2.2.2.2.1 = 2
    · have en : ned (decide (t.2.2.2.2.1 = 2)) 2 t = t := by rw [decide_eq_true e2]; rfl
      have el : lkN lo hi t = ned (!oob lo hi t.2.2.2.2.2) 3 t := by unfold lkN; dsimp only; rw [en]
      rw [en] at b2 ⊢
      have hv := hs.2.2.1 e e2
      rw [if_pos (show nI t.1 = 0 by rw [e]; rfl), b2.2.2.2.2.2, m_in, bd_ret]
      have hx : (nI lo ≤ nI t.2.2.2.2.2 ∧ nI t.2.2.2.2.2 ≤ nI hi) ↔ (lo ≤ t.2.2.2.2.2 ∧ t.2.2.2.2.2 ≤ hi) := ⟨fun q => ⟨Nat.not_lt.mp (fun r => absurd q.1 (nI_ge r (by omega))), Nat.not_lt.mp (fun r => absurd q.2 (nI_ge r (by omega)))⟩, fun q => ⟨nI_le q.1 (by omega), nI_le q.2 hh⟩⟩
      obtain ⟨M2, c1, c2, c3⟩ := m_needs n (p1 := if nI lo ≤ nI t.2.2.2.2.2 ∧ nI t.2.2.2.2.2 ≤ nI hi then 1 else 0) (ok := !oob lo hi t.2.2.2.2.2) (by
        rw [oob_d]
        by_cases q : lo ≤ t.2.2.2.2.2 ∧ t.2.2.2.2.2 ≤ hi
        · rw [if_pos (hx.mpr q), decide_eq_true q]; decide
        · rw [if_neg (fun r => q (hx.mp r)), decide_eq_false q]; decide) 3 hs.1 b2
      rw [show X_Model_needs n (if nI lo ≤ nI t.2.2.2.2.2 ∧ nI t.2.2.2.2.2 ≤ nI hi then 1 else 0) 3 M1 = _ from c1, bd_ret, el, fin M2 _ c2 (ned_okM (by decide) hs).1]
      exact ⟨M2, rfl, c2, b3.trans c3⟩
    · have en : ned (decide (t.2.2.2.2.1 = 2)) 2 t = (2, t.2.2.2.1, t.2.2) := by unfold ned; rw [decide_eq_false e2, if_neg Bool.false_ne_true, if_pos e]
      have el : lkN lo hi t = (2, t.2.2.2.1, t.2.2) := by
        unfold lkN
        dsimp only
        rw [en]
        unfold ned
        rw [if_neg (show ¬ (2, t.2.2.2.1, t.2.2).1 = 0 by show ¬ 2 = 0; decide)]
        split <;> rfl
      rw [en] at b2 ⊢
      have n2 : ¬ nI ((2, t.2.2.2.1, t.2.2) : Tm).1 = 0 := by show ¬ nI 2 = 0; decide
      rw [if_neg n2, el, ← b2.1, fin M1 _ b2 (by show 2 < 8; decide)]
      exact ⟨M1, rfl, b2, b3⟩
  · have n1 : ¬ nI t.1 = 0 := fun q => e ((i_z (by have := hs.1; omega)).mp q)
    have el : lkN lo hi t = t := by
      unfold lkN ned
      dsimp only
      rw [if_neg e]
      have : (if decide (t.2.2.2.2.1 = 2) = true then t else t) = t := by split <;> rfl
      rw [this, if_neg e]
      split <;> rfl
    rw [if_neg n1, if_neg n1, el, ← h.1, fin M t h hs.1]
    exact ⟨M, rfl, h, Fr.rf⟩
