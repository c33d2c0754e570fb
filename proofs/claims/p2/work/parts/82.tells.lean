/-! THE TEXT: the class's other lines -/
def Dr.setR (D : Dr) (R : Rl) : Dr := (R, D.2)
theorem XS.wr {P : Nat → Nat → Prop} {M M' : Mem} {tp : List Nat} {s : Tk} {D D' : Dr} (h : XS M tp s D) (ho : Fr P M M') (hp : ∀ c k, P c k → c ≠ 1 ∧ c ≠ 2 ∧ ¬ (c = 3 ∧ (k = 3 ∨ k = 6 ∨ k = 7 ∨ k = 8 ∨ k = 9))) (hD : XD M' D') : XS M' tp s D' := ⟨h.1.fr ho (fun c k q => ⟨(hp c k q).1, (hp c k q).2.1⟩), h.2.1, h.2.2.1.nt ho (fun k q r => (hp 3 k q).2.2 ⟨rfl, r⟩), hD⟩
-- hold, people
def holS (tp : List Nat) (s : Tk) (D : Dr) : Tk := tkN tp 1 9 (rfs (decide (D.hT ≠ 0)) 4 s)
def holD (tp : List Nat) (s : Tk) (D : Dr) : Dr := ((D.R.1, vaN 1 (holS tp s D), D.R.2.2), D.W, D.gl, D.pT, 1, D.kn, D.hi, D.lg)
theorem x_hold (n : Nat) (hn : 400 ≤ n) {M : Mem} {tp : List Nat} {s : Tk} {D : Dr} (hV : VD D) (h : XS M tp s D) : ∃ M', X_Teller_tellHold n M = some ((), M') ∧ XS M' tp (tkS tp (holS tp s D)) (holD tp s D) ∧ Fr xd M M' := by
  have k12 : ∀ (N : Mem) (s2 : Tk), XS N tp s2 D → Fr xd M N → s2 = rfs (decide (D.hT ≠ 0)) 4 s → ∃ M', (bd (X_Teller_takeNumber n 1 9 (si N 3 11 1)) fun r3 M4 => nm (si M4 4 1 r3) fun N5 => bd (X_Teller_takeSign n N5) fun _ M7 => some ((), M7)) = some ((), M') ∧ XS M' tp (tkS tp (holS tp s D)) (holD tp s D) ∧ Fr xd M M' := by
    intro N s2 g1 g2 g3
    have f1 : Fr (fun c k => c = 3 ∧ k = 11) N (si N 3 11 1) := Fr.si ⟨rfl, rfl⟩
    have d3 := g1.2.2.2.2.2
    have hS : XS (si N 3 11 1) tp s2 (D.R, D.W, D.gl, D.pT, 1, D.kn, D.hi, D.lg) := g1.wr f1 (fun c k q => by omega) ⟨g1.2.2.2.1.fr f1 (fun c k q => by omega), g1.2.2.2.2.1.fr f1 (fun k q => by omega), ⟨d3.1, d3.2.1, rfl, d3.2.2.2.1, d3.2.2.2.2.1, d3.2.2.2.2.2⟩⟩
    obtain ⟨M4, b1, b2, b3⟩ := hS.num n hn 1 9 (by decide) (by decide)
    rw [show X_Teller_takeNumber n 1 9 (si N 3 11 1) = _ from b1, bd_ret, nm_eq]
    have es : tkN tp 1 9 s2 = holS tp s D := by rw [g3]; rfl
    rw [es] at b2 ⊢
    have f2 : Fr (fun c k => c = 4 ∧ k = 1) M4 (si M4 4 1 (nI (vaN 1 (holS tp s D)))) := Fr.si ⟨rfl, rfl⟩
    have e4 := b2.2.2.2.1
    have hS2 : XS (si M4 4 1 (nI (vaN 1 (holS tp s D)))) tp (holS tp s D) (holD tp s D) := b2.wr f2 (fun c k q => by omega) ⟨⟨e4.1, rfl, e4.2.2⟩, b2.2.2.2.2.1.fr f2 (fun k q => by omega), b2.2.2.2.2.2.fr f2 (fun k q => by omega)⟩
    obtain ⟨M', c1, c2, c3⟩ := hS2.sign n hn
    exact ⟨M', by rw [c1, bd_ret], c2, (((g2.trans (f1.mono (fun c k q => by unfold xd; omega))).trans (xt_xd b3)).trans (f2.mono (fun c k q => by unfold xd; omega))).trans (xt_xd c3)⟩
  unfold X_Teller_tellHold
  rw [nm_eq, h.2.2.2.2.2.2.2.1]
  have hh := hV.2.2.2.2.2.1
  by_cases e : D.hT = 0
  · rw [if_pos (show nI D.hT = 0 by rw [e]; rfl)]
    exact k12 M s h Fr.rf (by rw [decide_eq_false (fun q => q e), rfs_f])
  · rw [if_neg (fun q => e ((i_z (show D.hT < 2 ^ 31 by omega)).mp q))]
    obtain ⟨M3, b1, b2, b3⟩ := h.rf n 4 (by decide)
    rw [show X_Teller_refuse n 4 M = _ from b1, bd_ret]
    exact k12 M3 _ b2 (xt_xd b3) (by rw [decide_eq_true e])
def peoS (tp : List Nat) (s : Tk) (D : Dr) : Tk := tkN tp 2 6 (rfs (decide (D.pT ≠ 0)) 4 s)
def peoD (tp : List Nat) (s : Tk) (D : Dr) : Dr := ((vaN 2 (peoS tp s D), D.R.2), D.W, D.gl, 1, D.hT, D.kn, D.hi, D.lg)
theorem x_people (n : Nat) (hn : 400 ≤ n) {M : Mem} {tp : List Nat} {s : Tk} {D : Dr} (hV : VD D) (h : XS M tp s D) : ∃ M', X_Teller_tellPeople n M = some ((), M') ∧ XS M' tp (tkS tp (peoS tp s D)) (peoD tp s D) ∧ Fr xd M M' := by
  have k12 : ∀ (N : Mem) (s2 : Tk), XS N tp s2 D → Fr xd M N → s2 = rfs (decide (D.pT ≠ 0)) 4 s → ∃ M', (bd (X_Teller_takeNumber n 2 6 (si N 3 10 1)) fun r3 M4 => nm (si M4 4 0 r3) fun N5 => bd (X_Teller_takeSign n N5) fun _ M7 => some ((), M7)) = some ((), M') ∧ XS M' tp (tkS tp (peoS tp s D)) (peoD tp s D) ∧ Fr xd M M' := by
    intro N s2 g1 g2 g3
    have f1 : Fr (fun c k => c = 3 ∧ k = 10) N (si N 3 10 1) := Fr.si ⟨rfl, rfl⟩
    have d3 := g1.2.2.2.2.2
    have hS : XS (si N 3 10 1) tp s2 (D.R, D.W, D.gl, 1, D.hT, D.kn, D.hi, D.lg) := g1.wr f1 (fun c k q => by omega) ⟨g1.2.2.2.1.fr f1 (fun c k q => by omega), g1.2.2.2.2.1.fr f1 (fun k q => by omega), ⟨d3.1, rfl, d3.2.2.1, d3.2.2.2.1, d3.2.2.2.2.1, d3.2.2.2.2.2⟩⟩
    obtain ⟨M4, b1, b2, b3⟩ := hS.num n hn 2 6 (by decide) (by decide)
    rw [show X_Teller_takeNumber n 2 6 (si N 3 10 1) = _ from b1, bd_ret, nm_eq]
    have es : tkN tp 2 6 s2 = peoS tp s D := by rw [g3]; rfl
    rw [es] at b2 ⊢
    have f2 : Fr (fun c k => c = 4 ∧ k = 0) M4 (si M4 4 0 (nI (vaN 2 (peoS tp s D)))) := Fr.si ⟨rfl, rfl⟩
    have e4 := b2.2.2.2.1
    have hS2 : XS (si M4 4 0 (nI (vaN 2 (peoS tp s D)))) tp (peoS tp s D) (peoD tp s D) := b2.wr f2 (fun c k q => by omega) ⟨⟨rfl, e4.2.1, e4.2.2⟩, b2.2.2.2.2.1.fr f2 (fun k q => by omega), b2.2.2.2.2.2.fr f2 (fun k q => by omega)⟩
    obtain ⟨M', c1, c2, c3⟩ := hS2.sign n hn
    exact ⟨M', by rw [c1, bd_ret], c2, (((g2.trans (f1.mono (fun c k q => by unfold xd; omega))).trans (xt_xd b3)).trans (f2.mono (fun c k q => by unfold xd; omega))).trans (xt_xd c3)⟩
  unfold X_Teller_tellPeople
  rw [nm_eq, h.2.2.2.2.2.2.1]
  have hh := hV.2.2.2.2.1
  by_cases e : D.pT = 0
  · rw [if_pos (show nI D.pT = 0 by rw [e]; rfl)]
    exact k12 M s h Fr.rf (by rw [decide_eq_false (fun q => q e), rfs_f])
  · rw [if_neg (fun q => e ((i_z (show D.pT < 2 ^ 31 by omega)).mp q))]
    obtain ⟨M3, b1, b2, b3⟩ := h.rf n 4 (by decide)
    rw [show X_Teller_refuse n 4 M = _ from b1, bd_ret]
    exact k12 M3 _ b2 (xt_xd b3) (by rw [decide_eq_true e])
-- hand, daily
def paA (tp : List Nat) (s : Tk) : Tk := tkN tp 0 5 s
def paB (tp : List Nat) (s : Tk) : Tk := tkN tp 0 5 (paA tp s)
def paS (tp : List Nat) (s : Tk) : Tk := tkS tp (rfs (decide (vaN 0 (paB tp s) = vaN 0 (paA tp s))) 4 (paB tp s))
def paH (tp : List Nat) (s : Tk) (D : Dr) : Dr := (D.R, D.W, D.gl, D.pT, D.hT, D.kn, max D.hi (max (vaN 0 (paA tp s)) (vaN 0 (paB tp s))), D.lg)
def paV (tp : List Nat) (s : Tk) : Nat := if (paS tp s).1 = 0 then prN (vaN 0 (paA tp s)) (vaN 0 (paB tp s)) else 0
theorem rd_0 {tp : List Nat} {s : Tk} (h : (rdX tp s).1 = 0) : s.1 = 0 := by
  by_cases q : s.1 = 0
  · exact q
  · unfold rdX at h
    rw [if_neg q] at h
    exact absurd h q
theorem tkS_0 {tp : List Nat} {s : Tk} (h : (tkS tp s).1 = 0) : s.1 = 0 ∧ (rdX tp s).2.2.1 = 3 ∧ tkS tp s = rdX tp s := by
  unfold tkS at h ⊢
  generalize ha : rdX tp s = a at h
  obtain ⟨e1, e2, e3⟩ := rfs_0 (by decide) h
  have e2 := of_decide_eq_false e2
  rw [← ha] at e1
  exact ⟨rd_0 e1, by omega, e3⟩
theorem paS_0 {tp : List Nat} {s : Tk} (h : (paS tp s).1 = 0) : vaN 0 (paB tp s) ≠ vaN 0 (paA tp s) := by
  unfold paS at h
  generalize paB tp s = b at h ⊢
  generalize paA tp s = a at h ⊢
  have e1 := (tkS_0 h).1
  exact of_decide_eq_false (rfs_0 (by decide) e1).2.1
theorem x_pair (n : Nat) (hn : 400 ≤ n) {M : Mem} {tp : List Nat} {s : Tk} {D : Dr} (hV : VD D) (h : XS M tp s D) {list ln c : Nat} (hl : list = 6 ∨ list = 7) (hc : c < ln) (hln : ln < 100) (hcl : (list = 6 → D.R.2.2.2.1.length ≤ c) ∧ (list = 7 → D.R.2.2.2.2.length ≤ c)) : ∃ M', X_Teller_tellPair n list ln (nI c) M = some (nI (c + 1), M') ∧ XS M' tp (paS tp s) (paH tp s D) ∧ Fr xd M M' ∧ M'.1 list c = nI (paV tp s) := by
  obtain ⟨M2, a1, a2, a3⟩ := h.num n hn 0 5 (by decide) (by decide)
  obtain ⟨M4, b1, b2, b3⟩ := a2.num n hn 0 5 (by decide) (by decide)
  have va := vaN_le (tp := tp) (s := s) (show 0 ≤ 5 by decide)
  have vb := vaN_le (tp := tp) (s := tkN tp 0 5 s) (show 0 ≤ 5 by decide)
  have hh := hV.2.2.2.2.2.2.2.1
  have hpV : paV tp s < 15 := by
    unfold paV
    split
    · rename_i e
      have e3 := paS_0 e
      have va : vaN 0 (paA tp s) ≤ 5 := va.2
      have vb : vaN 0 (paB tp s) ≤ 5 := vb.2
      exact (pr_ok (vaN 0 (paA tp s)) (by omega) (vaN 0 (paB tp s)) (by omega) (fun q => e3 q.symm)).1
    · decide
  have k39 : ∀ (N : Mem) (s2 : Tk), XS N tp s2 D → Fr xd M N → s2 = rfs (decide (vaN 0 (paB tp s) = vaN 0 (paA tp s))) 4 (paB tp s) → ∃ M', (nm (si N 3 13 (if (N.1 3 13) < (if nI (vaN 0 (paA tp s)) < nI (vaN 0 (paB tp s)) then nI (vaN 0 (paB tp s)) else nI (vaN 0 (paA tp s))) then (if nI (vaN 0 (paA tp s)) < nI (vaN 0 (paB tp s)) then nI (vaN 0 (paB tp s)) else nI (vaN 0 (paA tp s))) else (N.1 3 13))) fun N6 => bd (X_Teller_takeSign n N6) fun _ M8 => nm (fun (u9 : Int32) (M10 : Mem) => (gd (nI c) ln (some ((nI c + 1), si M10 list ((nI c).toNatClampNeg) u9)) : Option (Int32 × Mem))) fun k79 => (if (M8.1 3 3) = 0 then bd (X_ShakeHands_pairOf n (nI (vaN 0 (paA tp s))) (nI (vaN 0 (paB tp s))) M8) fun r11 M12 => k79 r11 M12 else k79 0 M8)) = some (nI (c + 1), M') ∧ XS M' tp (paS tp s) (paH tp s D) ∧ Fr xd M M' ∧ M'.1 list c = nI (paV tp s) := by
    intro N s2 g1 g2 g3
    have va5 : vaN 0 (paA tp s) ≤ 5 := va.2
    have vb5 : vaN 0 (paB tp s) ≤ 5 := vb.2
    have d3 := g1.2.2.2.2.2
    rw [imax _ _ (by omega) (by omega), d3.2.2.2.2.1, imax _ _ (by omega) (by omega), nm_eq]
    have f1 : Fr (fun c k => c = 3 ∧ k = 13) N (si N 3 13 (nI (max D.hi (max (vaN 0 (paA tp s)) (vaN 0 (paB tp s)))))) := Fr.si ⟨rfl, rfl⟩
    have hS : XS (si N 3 13 (nI (max D.hi (max (vaN 0 (paA tp s)) (vaN 0 (paB tp s)))))) tp s2 (paH tp s D) := g1.wr f1 (fun c k q => by omega) ⟨g1.2.2.2.1.fr f1 (fun c k q => by omega), g1.2.2.2.2.1.fr f1 (fun k q => by omega), ⟨d3.1, d3.2.1, d3.2.2.1, d3.2.2.2.1, rfl, d3.2.2.2.2.2⟩⟩
    obtain ⟨M8, c1, c2, c3⟩ := hS.sign n hn
    have es : tkS tp s2 = paS tp s := by rw [g3]; rfl
    rw [es] at c2
    rw [c1, bd_ret, nm_eq, c2.2.2.1.1, nI_1]
    have f8 := (g2.trans (f1.mono (fun c k q => by unfold xd; omega))).trans (xt_xd c3)
    have fin : ∃ M', gd (nI c) ln (some (nI (c + 1), si M8 list ((nI c).toNatClampNeg) (nI (paV tp s)))) = some (nI (c + 1), M') ∧ XS M' tp (paS tp s) (paH tp s D) ∧ Fr xd M M' ∧ M'.1 list c = nI (paV tp s) := by
      rw [gd_in (vp_in_nI (n := c) hc (by omega)), nI_clamp (by omega)]
      have f9 : Fr (fun a k => a = list ∧ k = c) M8 (si M8 list c (nI (paV tp s))) := Fr.si ⟨rfl, rfl⟩
      have x4 := c2.2.2.2.1
      have e9 : ∀ a k, ¬ (a = list ∧ k = c) → (si M8 list c (nI (paV tp s))).1 a k = M8.1 a k := fun a k q => (f9 a k q).1
      refine ⟨_, rfl, c2.wr f9 (fun a k q => by omega) ⟨⟨by rw [e9 _ _ (by omega)]; exact x4.1, by rw [e9 _ _ (by omega)]; exact x4.2.1, by rw [e9 _ _ (by omega)]; exact x4.2.2.1, by rw [e9 _ _ (by omega)]; exact x4.2.2.2.1, by rw [e9 _ _ (by omega)]; exact x4.2.2.2.2.1, fun j q hq => by rw [e9 _ _ (by omega), e9 _ _ (by omega), e9 _ _ (by omega)]; exact x4.2.2.2.2.2.1 j q hq, fun i h hi => by
          have := (List.getElem?_eq_some_iff.mp hi).1
          rw [e9 _ _ (fun q => by have := hcl.1 q.1.symm; have h5 : (paH tp s D).R.2.2.2.1.length = D.R.2.2.2.1.length := rfl; omega)]
          exact x4.2.2.2.2.2.2.1 i h hi, fun i h hi => by
          have := (List.getElem?_eq_some_iff.mp hi).1
          rw [e9 _ _ (fun q => by have := hcl.2 q.1.symm; have h5 : (paH tp s D).R.2.2.2.2.length = D.R.2.2.2.2.length := rfl; omega)]
          exact x4.2.2.2.2.2.2.2 i h hi⟩, c2.2.2.2.2.1.fr f9 (fun k q => by omega), c2.2.2.2.2.2.fr f9 (fun k q => by omega)⟩, f8.trans (f9.mono (fun a k q => by unfold xd; omega)), si_at _ _ _ _⟩
    by_cases e0 : (paS tp s).1 = 0
    · have e3 := paS_0 e0
      have ev : paV tp s = prN (vaN 0 (paA tp s)) (vaN 0 (paB tp s)) := if_pos e0
      rw [if_pos (show nI (paS tp s).1 = 0 by rw [e0]; rfl), x_pairOf n (by omega) (by omega) (fun q => e3 q.symm), bd_ret, ← ev]
      exact fin
    · have ev : paV tp s = 0 := if_neg e0
      rw [if_neg (fun q => e0 ((i_z (by have := c2.2.1.1; omega)).mp q))]
      rw [ev] at fin ⊢
      exact fin
  have f4 := (xt_xd a3).trans (xt_xd b3)
  have un : X_Teller_tellPair n list ln (nI c) M = (if nI c < nI ln then (if nI (vaN 0 (paB tp s)) = nI (vaN 0 (paA tp s)) then (bd (X_Teller_refuse n 4 M4) fun _ M14 => (nm (si M14 3 13 (if (M14.1 3 13) < (if nI (vaN 0 (paA tp s)) < nI (vaN 0 (paB tp s)) then nI (vaN 0 (paB tp s)) else nI (vaN 0 (paA tp s))) then (if nI (vaN 0 (paA tp s)) < nI (vaN 0 (paB tp s)) then nI (vaN 0 (paB tp s)) else nI (vaN 0 (paA tp s))) else (M14.1 3 13))) fun N6 => bd (X_Teller_takeSign n N6) fun _ M8 => nm (fun (u9 : Int32) (M10 : Mem) => (gd (nI c) ln (some ((nI c + 1), si M10 list ((nI c).toNatClampNeg) u9)) : Option (Int32 × Mem))) fun k79 => (if (M8.1 3 3) = 0 then bd (X_ShakeHands_pairOf n (nI (vaN 0 (paA tp s))) (nI (vaN 0 (paB tp s))) M8) fun r11 M12 => k79 r11 M12 else k79 0 M8))) else (nm (si M4 3 13 (if (M4.1 3 13) < (if nI (vaN 0 (paA tp s)) < nI (vaN 0 (paB tp s)) then nI (vaN 0 (paB tp s)) else nI (vaN 0 (paA tp s))) then (if nI (vaN 0 (paA tp s)) < nI (vaN 0 (paB tp s)) then nI (vaN 0 (paB tp s)) else nI (vaN 0 (paA tp s))) else (M4.1 3 13))) fun N6 => bd (X_Teller_takeSign n N6) fun _ M8 => nm (fun (u9 : Int32) (M10 : Mem) => (gd (nI c) ln (some ((nI c + 1), si M10 list ((nI c).toNatClampNeg) u9)) : Option (Int32 × Mem))) fun k79 => (if (M8.1 3 3) = 0 then bd (X_ShakeHands_pairOf n (nI (vaN 0 (paA tp s))) (nI (vaN 0 (paB tp s))) M8) fun r11 M12 => k79 r11 M12 else k79 0 M8))) else bd (X_Teller_refuse n 5 M) fun _ M16 => some (nI c, M16)) := by
    unfold X_Teller_tellPair
    rw [show X_Teller_takeNumber n 0 5 M = _ from a1, bd_ret, show X_Teller_takeNumber n 0 5 M2 = _ from b1, bd_ret]
    rfl
  have va5 : vaN 0 (paA tp s) ≤ 5 := va.2
  have vb5 : vaN 0 (paB tp s) ≤ 5 := vb.2
  rw [un, if_pos (nI_lt hc (by omega))]
  by_cases e : vaN 0 (paB tp s) = vaN 0 (paA tp s)
  · obtain ⟨M14, c1, c2, c3⟩ := b2.rf n 4 (by decide)
    rw [if_pos (by rw [e]), show X_Teller_refuse n 4 M4 = _ from c1, bd_ret]
    exact k39 M14 _ c2 (f4.trans (xt_xd c3)) (by rw [decide_eq_true e]; rfl)
  · rw [if_neg (fun q => e ((nI_eq (by omega) (by omega)).mp q))]
    exact k39 M4 _ b2 f4 (by rw [decide_eq_false e, rfs_f]; rfl)
