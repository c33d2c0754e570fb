/-! THE TEXT: the class's lines -/
abbrev Dr : Type := Rl × WW × Nat × Nat × Nat × Nat × Nat × Nat
abbrev Dr.R (D : Dr) : Rl := Prod.fst D
abbrev Dr.W (D : Dr) : WW := (Prod.snd D).1
abbrev Dr.gl (D : Dr) : Nat := (Prod.snd D).2.1
abbrev Dr.pT (D : Dr) : Nat := (Prod.snd D).2.2.1
abbrev Dr.hT (D : Dr) : Nat := (Prod.snd D).2.2.2.1
abbrev Dr.kn (D : Dr) : Nat := (Prod.snd D).2.2.2.2.1
abbrev Dr.hi (D : Dr) : Nat := (Prod.snd D).2.2.2.2.2.1
abbrev Dr.lg (D : Dr) : Nat := (Prod.snd D).2.2.2.2.2.2
def XD4 (M : Mem) (R : Rl) : Prop := M.1 4 0 = nI R.1 ∧ M.1 4 1 = nI R.2.1 ∧ M.1 4 3 = nI R.2.2.1.length ∧ M.1 4 5 = nI R.2.2.2.1.length ∧ M.1 4 7 = nI R.2.2.2.2.length ∧
  (∀ j q, R.2.2.1[j]? = some q → M.1 5 (3 * j) = nI q.1 ∧ M.1 5 (3 * j + 1) = nI q.2.1 ∧ M.1 5 (3 * j + 2) = nI q.2.2) ∧ (∀ i h, R.2.2.2.1[i]? = some h → M.1 6 i = nI h) ∧ (∀ i h, R.2.2.2.2[i]? = some h → M.1 7 i = nI h)
def XD3 (M : Mem) (gl pT hT kn hi lg : Nat) : Prop := M.1 3 2 = nI gl ∧ M.1 3 10 = nI pT ∧ M.1 3 11 = nI hT ∧ M.1 3 12 = nI kn ∧ M.1 3 13 = nI hi ∧ M.1 3 14 = nI lg
def XD (M : Mem) (D : Dr) : Prop := XD4 M D.R ∧ rowsAt M 9 D.W ∧ XD3 M D.gl D.pT D.hT D.kn D.hi D.lg
theorem XD4.fr {P : Nat → Nat → Prop} {M M' : Mem} {R : Rl} (h : XD4 M R) (ho : Fr P M M') (hp : ∀ c k, P c k → ¬ (4 ≤ c ∧ c ≤ 7)) : XD4 M' R := by
  have e : ∀ c k, 4 ≤ c → c ≤ 7 → M'.1 c k = M.1 c k := fun c k h1 h2 => (ho c k (fun q => hp c k q ⟨h1, h2⟩)).1
  obtain ⟨a1, a2, a3, a4, a5, a6, a7, a8⟩ := h
  exact ⟨by rw [e _ _ (by decide) (by decide)]; exact a1, by rw [e _ _ (by decide) (by decide)]; exact a2, by rw [e _ _ (by decide) (by decide)]; exact a3, by rw [e _ _ (by decide) (by decide)]; exact a4, by rw [e _ _ (by decide) (by decide)]; exact a5, fun j q hq => by rw [e 5 _ (by decide) (by decide), e 5 _ (by decide) (by decide), e 5 _ (by decide) (by decide)]; exact a6 j q hq, fun i h hi => by rw [e 6 _ (by decide) (by decide)]; exact a7 i h hi, fun i h hi => by rw [e 7 _ (by decide) (by decide)]; exact a8 i h hi⟩
theorem XD3.fr {P : Nat → Nat → Prop} {M M' : Mem} {a b c d e f : Nat} (h : XD3 M a b c d e f) (ho : Fr P M M') (hp : ∀ k, P 3 k → ¬ (k = 2 ∨ 10 ≤ k)) : XD3 M' a b c d e f := by
  have g : ∀ k, (k = 2 ∨ 10 ≤ k) → M'.1 3 k = M.1 3 k := fun k h1 => (ho 3 k (fun q => hp k q h1)).1
  obtain ⟨a1, a2, a3, a4, a5, a6⟩ := h
  exact ⟨by rw [g _ (by decide)]; exact a1, by rw [g _ (by decide)]; exact a2, by rw [g _ (by decide)]; exact a3, by rw [g _ (by decide)]; exact a4, by rw [g _ (by decide)]; exact a5, by rw [g _ (by decide)]; exact a6⟩
theorem rowsAt.fr {P : Nat → Nat → Prop} {M M' : Mem} {o : Nat} {W : WW} (h : rowsAt M o W) (ho : Fr P M M') (hp : ∀ k, ¬ P o k) : rowsAt M' o W := fun p hp6 => by rw [(ho o p (hp p)).2]; exact h p hp6
theorem XD.tk {M M' : Mem} {D : Dr} (h : XD M D) (ho : Fr xt M M') : XD M' D := ⟨h.1.fr ho (fun c k q => by unfold xt at q; omega), h.2.1.fr ho (fun k q => by unfold xt at q; omega), h.2.2.fr ho (fun k q => by unfold xt at q; omega)⟩
def xd (c k : Nat) : Prop := (c = 3 ∧ k ≤ 14 ∧ 2 ≤ k) ∨ (4 ≤ c ∧ c ≤ 10)
theorem xt_xd {M M' : Mem} (h : Fr xt M M') : Fr xd M M' := h.mono (fun c k q => by unfold xt at q; unfold xd; omega)
theorem XTp.dr {M M' : Mem} {tp : List Nat} (h : XTp M tp) (ho : Fr xd M M') : XTp M' tp := h.fr ho (fun c k q => by unfold xd at q; omega)
def XS (M : Mem) (tp : List Nat) (s : Tk) (D : Dr) : Prop := XTp M tp ∧ OkT tp s ∧ XT M s ∧ XD M D
theorem XS.num (n : Nat) (hn : 400 ≤ n) {M : Mem} {tp : List Nat} {s : Tk} {D : Dr} (h : XS M tp s D) (lo hi : Nat) (hl : lo < 2 ^ 31) (hh : hi < 2 ^ 31) : ∃ M', X_Teller_takeNumber n (nI lo) (nI hi) M = some (nI (vaN lo (tkN tp lo hi s)), M') ∧ XS M' tp (tkN tp lo hi s) D ∧ Fr xt M M' := by
  obtain ⟨M', a1, a2, a3⟩ := x_takeNumber n hn hl hh h.1 h.2.1 h.2.2.1
  exact ⟨M', a1, ⟨h.1.dr (xt_xd a3), tkN_ok h.2.1, a2, h.2.2.2.tk a3⟩, a3⟩
theorem XS.sign (n : Nat) (hn : 400 ≤ n) {M : Mem} {tp : List Nat} {s : Tk} {D : Dr} (h : XS M tp s D) : ∃ M', X_Teller_takeSign n M = some ((), M') ∧ XS M' tp (tkS tp s) D ∧ Fr xt M M' := by
  obtain ⟨M', a1, a2, a3⟩ := x_takeSign n hn h.1 h.2.1 h.2.2.1
  exact ⟨M', a1, ⟨h.1.dr (xt_xd a3), tkS_ok h.2.1, a2, h.2.2.2.tk a3⟩, a3⟩
theorem XS.rf (n : Nat) {M : Mem} {tp : List Nat} {s : Tk} {D : Dr} (h : XS M tp s D) (f : Nat) (hf : 0 < f ∧ f < 8) : ∃ M', X_Teller_refuse n (nI f) M = some ((), M') ∧ XS M' tp (rfs true f s) D ∧ Fr xt M M' := by
  obtain ⟨M', a1, a2, a3⟩ := x_rfs n f hf.2 h.2.1.1 h.2.2.1
  exact ⟨M', a1, ⟨h.1.dr (xt_xd a3), rfs_ok hf h.2.1, a2, h.2.2.2.tk a3⟩, a3⟩
theorem XS.rd (n : Nat) (hn : 400 ≤ n) {M : Mem} {tp : List Nat} {s : Tk} {D : Dr} (h : XS M tp s D) : ∃ M', X_Teller_readToken n M = some ((), M') ∧ XS M' tp (rdX tp s) D ∧ Fr xt M M' := by
  obtain ⟨M', a1, a2, a3⟩ := x_readToken n hn h.1 h.2.1.1 h.2.1.2.1 h.2.2.1
  exact ⟨M', a1, ⟨h.1.dr (xt_xd a3), rdX_ok h.2.1, a2, h.2.2.2.tk a3⟩, a3⟩
-- a cell that is neither tape nor token nor one of the draft's others
theorem XT.nt {P : Nat → Nat → Prop} {M M' : Mem} {s : Tk} (h : XT M s) (ho : Fr P M M') (hp : ∀ k, P 3 k → ¬ (k = 3 ∨ k = 6 ∨ k = 7 ∨ k = 8 ∨ k = 9)) : XT M' s := by
  have g : ∀ k, (k = 3 ∨ k = 6 ∨ k = 7 ∨ k = 8 ∨ k = 9) → M'.1 3 k = M.1 3 k := fun k h1 => (ho 3 k (fun q => hp k q h1)).1
  obtain ⟨a1, a2, a3, a4, a5⟩ := h
  exact ⟨by rw [g _ (by decide)]; exact a1, by rw [g _ (by decide)]; exact a2, by rw [g _ (by decide)]; exact a3, by rw [g _ (by decide)]; exact a4, by rw [g _ (by decide)]; exact a5⟩
theorem imax (a b : Nat) (ha : a < 2 ^ 31) (hb : b < 2 ^ 31) : (if nI a < nI b then nI b else nI a) = nI (max a b) := by
  by_cases e : a < b
  · rw [if_pos (nI_lt e hb), Nat.max_eq_right (by omega)]
  · rw [if_neg (Int32.not_lt.mpr (nI_le (by omega) ha)), Nat.max_eq_left (by omega)]
def VD (D : Dr) : Prop := D.R.2.2.1.length ≤ 4 ∧ D.R.2.2.2.1.length ≤ 16 ∧ D.R.2.2.2.2.length ≤ 8 ∧ D.gl < 64 ∧ D.pT < 2 ∧ D.hT < 2 ∧ D.kn < 64 ∧ D.hi < 6 ∧ D.lg ≤ 9
-- glove
def gloS (tp : List Nat) (s : Tk) (D : Dr) : Tk := tkS tp (rfs (D.gl.testBit (vaN 0 (tkN tp 0 5 s))) 4 (tkN tp 0 5 s))
def gloD (tp : List Nat) (s : Tk) (D : Dr) : Dr := (D.R, D.W, D.gl ||| 2 ^ vaN 0 (tkN tp 0 5 s), D.pT, D.hT, D.kn, max D.hi (vaN 0 (tkN tp 0 5 s)), D.lg)
theorem x_glove (n : Nat) (hn : 400 ≤ n) {M : Mem} {tp : List Nat} {s : Tk} {D : Dr} (hV : VD D) (h : XS M tp s D) : ∃ M', X_Teller_tellGlove n M = some ((), M') ∧ XS M' tp (gloS tp s D) (gloD tp s D) ∧ Fr xd M M' := by
  obtain ⟨M2, a1, a2, a3⟩ := h.num n hn 0 5 (by decide) (by decide)
  have hv := vaN_le (tp := tp) (s := s) (show 0 ≤ 5 by decide)
  unfold gloS gloD
  generalize vaN 0 (tkN tp 0 5 s) = r at a1 hv
  generalize tkN tp 0 5 s = s1 at a2
  have hg := hV.2.2.2.1
  have hh := hV.2.2.2.2.2.2.2.1
  have k23 : ∀ (N : Mem) (s2 : Tk), XS N tp s2 D → Fr xd M N → ∃ M', (bd (X_Teller_takeSign n (si (si N 3 2 ((N.1 3 2) ||| ((1 : Int32) <<< (nI r &&& 31)))) 3 13 (if ((si N 3 2 ((N.1 3 2) ||| ((1 : Int32) <<< (nI r &&& 31)))).1 3 13) < nI r then nI r else ((si N 3 2 ((N.1 3 2) ||| ((1 : Int32) <<< (nI r &&& 31)))).1 3 13)))) fun _ M7 => some ((), M7)) = some ((), M') ∧ XS M' tp (tkS tp s2) (D.R, D.W, D.gl ||| 2 ^ r, D.pT, D.hT, D.kn, max D.hi r, D.lg) ∧ Fr xd M M' := by
    intro N s2 g1 g2
    have g3 := g1.2.2.2.2.2
    rw [g3.1, i_shl1 (by omega), i_or, si_ne (Or.inr (by decide)), g3.2.2.2.2.1, imax _ _ (by omega) (by omega)]
    have f1 : Fr (fun c k => c = 3 ∧ (k = 2 ∨ k = 13)) N (si (si N 3 2 (nI (D.gl ||| 2 ^ r))) 3 13 (nI (max D.hi r))) := (Fr.si ⟨rfl, Or.inl rfl⟩).trans (Fr.si ⟨rfl, Or.inr rfl⟩)
    have hS : XS (si (si N 3 2 (nI (D.gl ||| 2 ^ r))) 3 13 (nI (max D.hi r))) tp s2 (D.R, D.W, D.gl ||| 2 ^ r, D.pT, D.hT, D.kn, max D.hi r, D.lg) := ⟨g1.1.fr f1 (fun c k q => by omega), g1.2.1, g1.2.2.1.nt f1 (fun k q => by omega), g1.2.2.2.1.fr f1 (fun c k q => by omega), g1.2.2.2.2.1.fr f1 (fun k q => by omega), ⟨rfl, g3.2.1, g3.2.2.1, g3.2.2.2.1, rfl, g3.2.2.2.2.2⟩⟩
    obtain ⟨M', b1, b2, b3⟩ := hS.sign n hn
    exact ⟨M', by rw [b1, bd_ret], b2, (g2.trans (f1.mono (fun c k q => by unfold xd; omega))).trans (xt_xd b3)⟩
  unfold X_Teller_tellGlove
  rw [show X_Teller_takeNumber n 0 5 M = _ from a1, bd_ret, nm_eq, a2.2.2.2.2.2.1, b_iu (by omega) (by omega)]
  cases e : D.gl.testBit r with
  | false =>
    rw [if_pos (show nI (if false = true then 1 else 0) = 0 from rfl)]
    exact k23 M2 s1 a2 (xt_xd a3)
  | true =>
    rw [if_neg (show ¬ nI (if true = true then 1 else 0) = 0 by decide)]
    obtain ⟨M3, b1, b2, b3⟩ := a2.rf n 4 (by decide)
    rw [show X_Teller_refuse n 4 M2 = _ from b1, bd_ret]
    exact k23 M3 _ b2 ((xt_xd a3).trans (xt_xd b3))
