/-! THE TEXT: the reference's lines -/
def YD (M : Mem) (E : Dr) : Prop := DM M E.R E.W E.gl ∧ (∀ p, p < 6 → M.1 13 p = nI (if E.kn.testBit p then 1 else 0)) ∧ M.1 0 24 = nI (E.pT + 2 * E.hT) ∧ M.1 0 17 = nI E.hi
def yd (c k : Nat) : Prop := (8 ≤ c ∧ c ≤ 13) ∨ (c = 0 ∧ ((12 ≤ k ∧ k ≤ 17) ∨ k = 24 ∨ (27 ≤ k ∧ k ≤ 32)))
theorem DM.fr {P : Nat → Nat → Prop} {M M' : Mem} {R : Rl} {W : WW} {g : Nat} (h : DM M R W g) (hW : OkW W) (ho : Fr P M M') (hp : ∀ c k, P c k → ¬ (8 ≤ c ∧ c ≤ 12) ∧ ¬ (c = 0 ∧ 12 ≤ k ∧ k ≤ 16)) : DM M' R W g := by
  have e0 : ∀ k, 12 ≤ k → k ≤ 16 → M'.1 0 k = M.1 0 k := fun k h1 h2 => (ho 0 k (fun q => (hp _ _ q).2 ⟨rfl, h1, h2⟩)).1
  have e1 : ∀ c k, 8 ≤ c → c ≤ 12 → M'.1 c k = M.1 c k := fun c k h1 h2 => (ho c k (fun q => (hp _ _ q).1 ⟨h1, h2⟩)).1
  obtain ⟨a1, a2, a3, a4, a5, a6, a7, a8, a9, a10⟩ := h
  exact ⟨by rw [e0 _ (by decide) (by decide)]; exact a1, by rw [e0 _ (by decide) (by decide)]; exact a2, by rw [e0 _ (by decide) (by decide)]; exact a3, by rw [e0 _ (by decide) (by decide)]; exact a4, by rw [e0 _ (by decide) (by decide)]; exact a5, fun j q hq => by rw [e1 8 _ (by decide) (by decide), e1 8 _ (by decide) (by decide), e1 8 _ (by decide) (by decide)]; exact a6 j q hq, fun i h hi => by rw [e1 9 _ (by decide) (by decide)]; exact a7 i h hi, fun i h hi => by rw [e1 10 _ (by decide) (by decide)]; exact a8 i h hi, a9.fr hW ho (fun k h1 h2 q => (hp _ _ q).1 ⟨by decide, by decide⟩), fun p hp6 => by rw [e1 12 _ (by decide) (by decide)]; exact a10 p hp6⟩
theorem YD.mt {M M' : Mem} {E : Dr} (h : YD M E) (hW : OkW E.W) (ho : Fr mt M M') : YD M' E := ⟨h.1.fr hW ho (fun c k q => by have q := mt_at q; omega), fun p hp => by rw [(ho 13 p (fun q => by have q := mt_at q; omega)).1]; exact h.2.1 p hp, by rw [(ho 0 24 (fun q => by have q := mt_at q; omega)).1]; exact h.2.2.1, by rw [(ho 0 17 (fun q => by have q := mt_at q; omega)).1]; exact h.2.2.2⟩
theorem mt_yd {M M' : Mem} (h : Fr mt M M') : Fr yd M M' := h.mono (fun c k q => by unfold mt at q; unfold yd; omega)
def YS (M : Mem) (tp : List Nat) (t : Tm) (E : Dr) : Prop := MTp M tp ∧ OkM tp t ∧ MT M t ∧ YD M E ∧ OkW E.W
theorem YS.look (n : Nat) {M : Mem} {tp : List Nat} {t : Tm} {E : Dr} (h : YS M tp t E) (lo hi : Nat) (hl : lo < 2 ^ 31) (hh : hi < 2 ^ 31) : ∃ M', X_Model_looked n (nI lo) (nI hi) M = some (nI (vaM (lkN lo hi t)), M') ∧ YS M' tp (lkN lo hi t) E ∧ Fr mt M M' := by
  obtain ⟨M', a1, a2, a3⟩ := m_looked n hl hh h.2.1 h.2.2.1
  exact ⟨M', a1, ⟨h.1.fr a3 (fun c k q => by unfold mt at q; omega), ned_okM (by decide) (ned_okM (by decide) h.2.1), a2, h.2.2.2.1.mt h.2.2.2.2 a3, h.2.2.2.2⟩, a3⟩
theorem YS.nxt (n : Nat) (hn : 400 ≤ n) {M : Mem} {tp : List Nat} {t : Tm} {E : Dr} (h : YS M tp t E) : ∃ M', X_Model_next n M = some ((), M') ∧ YS M' tp (rdM tp t) E ∧ Fr mt M M' := by
  obtain ⟨M', a1, a2, a3⟩ := m_next n hn h.1 h.2.1.1 h.2.1.2.1 h.2.2.1
  exact ⟨M', a1, ⟨h.1.fr a3 (fun c k q => by unfold mt at q; omega), rdM_ok h.2.1, a2, h.2.2.2.1.mt h.2.2.2.2 a3, h.2.2.2.2⟩, a3⟩
theorem YS.need (n : Nat) {M : Mem} {tp : List Nat} {t : Tm} {E : Dr} (h : YS M tp t E) {p1 : Int32} {ok : Bool} (hok : p1 = 0 ↔ ok = false) (f : Nat) (hf : 0 < f ∧ f < 8) : ∃ M', X_Model_needs n p1 (nI f) M = some ((), M') ∧ YS M' tp (ned ok f t) E ∧ Fr mt M M' := by
  obtain ⟨M', a1, a2, a3⟩ := m_needs n hok f h.2.1.1 h.2.2.1
  exact ⟨M', a1, ⟨h.1.fr a3 (fun c k q => by unfold mt at q; omega), ned_okM hf h.2.1, a2, h.2.2.2.1.mt h.2.2.2.2 a3, h.2.2.2.2⟩, a3⟩
theorem MT.nt {P : Nat → Nat → Prop} {M M' : Mem} {t : Tm} (h : MT M t) (ho : Fr P M M') (hp : ∀ k, P 0 k → ¬ (27 ≤ k ∧ k ≤ 32)) : MT M' t := by
  have g : ∀ k, 27 ≤ k → k ≤ 32 → M'.1 0 k = M.1 0 k := fun k h1 h2 => (ho 0 k (fun q => hp k q ⟨h1, h2⟩)).1
  obtain ⟨a1, a2, a3, a4, a5, a6⟩ := h
  exact ⟨by rw [g _ (by decide) (by decide)]; exact a1, by rw [g _ (by decide) (by decide)]; exact a2, by rw [g _ (by decide) (by decide)]; exact a3, by rw [g _ (by decide) (by decide)]; exact a4, by rw [g _ (by decide) (by decide)]; exact a5, by rw [g _ (by decide) (by decide)]; exact a6⟩
theorem YS.wr {P : Nat → Nat → Prop} {M M' : Mem} {tp : List Nat} {t : Tm} {E E' : Dr} (h : YS M tp t E) (ho : Fr P M M') (hp : ∀ c k, P c k → c ≠ 14 ∧ ¬ (c = 0 ∧ 26 ≤ k)) (hE : YD M' E') (hW : OkW E'.W) : YS M' tp t E' := ⟨h.1.fr ho (fun c k q => ⟨(hp c k q).1, fun r => (hp c k q).2 ⟨r.1, by omega⟩⟩), h.2.1, h.2.2.1.nt ho (fun k q r => (hp 0 k q).2 ⟨rfl, by omega⟩), hE, hW⟩
-- a fault stays
theorem ned_bad {ok : Bool} {f : Nat} {t : Tm} (h : t.1 ≠ 0) : ned ok f t = t := by
  unfold ned
  rw [if_neg h]
  split <;> rfl
theorem lkN_bad {lo hi : Nat} {t : Tm} (h : t.1 ≠ 0) : lkN lo hi t = t := by
  unfold lkN
  dsimp only
  rw [ned_bad h, ned_bad h]
theorem rdM_bad {tp : List Nat} {t : Tm} (h : t.1 ≠ 0) : rdM tp t = t := by
  unfold rdM
  rw [if_neg h]
theorem vaM_bad {t : Tm} (h : t.1 ≠ 0) : vaM t = 0 := if_neg h
theorem lkN_0 {lo hi : Nat} {t : Tm} (h : (lkN lo hi t).1 = 0) : t.1 = 0 ∧ t.2.2.2.2.1 = 2 ∧ lkN lo hi t = t ∧ lo ≤ t.2.2.2.2.2 ∧ t.2.2.2.2.2 ≤ hi := by
  unfold lkN at h ⊢
  dsimp only at h ⊢
  obtain ⟨a1, a2, a3⟩ := ned_0 (by decide) h
  obtain ⟨b1, b2, b3⟩ := ned_0 (by decide) a1
  have b2 := of_decide_eq_true b2
  rw [b3, oob_d] at a2
  have a2 := of_decide_eq_true a2
  exact ⟨b1, b2, by rw [a3, b3], a2.1, a2.2⟩
theorem vaM_le {lo hi : Nat} {t : Tm} : vaM (lkN lo hi t) ≤ hi := by
  unfold vaM
  by_cases e : (lkN lo hi t).1 = 0
  · obtain ⟨a1, a2, a3, a4, a5⟩ := lkN_0 e
    rw [if_pos e, a3]; exact a5
  · rw [if_neg e]; exact Nat.zero_le _
theorem m_tells (n : Nat) {M : Mem} {tp : List Nat} {t : Tm} {E : Dr} (h : YS M tp t E) {p : Nat} (hp : p < 6) (hh : E.hi < 6) : ∃ M', X_Model_tells n (nI p) M = some ((), M') ∧ YS M' tp t (E.R, E.W, E.gl, E.pT, E.hT, E.kn, max E.hi p, E.lg) ∧ Fr yd M M' := by
  have hy := h.2.2.2.1
  have un : X_Model_tells n (nI p) M = some ((), si M 0 17 (nI (max E.hi p))) := by
    unfold X_Model_tells
    rw [nm_eq, hy.2.2.2]
    by_cases e : p ≤ E.hi
    · rw [if_pos (nI_le e (by omega)), Nat.max_eq_left e]
    · rw [if_neg (nI_ge (by omega) (by omega)), Nat.max_eq_right (by omega)]
  have f1 : Fr (fun c k => c = 0 ∧ k = 17) M (si M 0 17 (nI (max E.hi p))) := Fr.si ⟨rfl, rfl⟩
  refine ⟨_, un, h.wr f1 (fun c k q => by omega) ⟨hy.1.fr h.2.2.2.2 f1 (fun c k q => by omega), fun q hq => by rw [(f1 13 q (by omega)).1]; exact hy.2.1 q hq, by rw [(f1 0 24 (by omega)).1]; exact hy.2.2.1, rfl⟩ h.2.2.2.2, f1.mono (fun c k q => by unfold yd; omega)⟩
-- glove
def mgT (tp : List Nat) (t : Tm) (E : Dr) : Tm := rdM tp (ned (!E.gl.testBit (vaM (lkN 0 5 t))) 4 (lkN 0 5 t))
def mgD (t : Tm) (E : Dr) : Dr := (E.R, E.W, E.gl ||| 2 ^ vaM (lkN 0 5 t), E.pT, E.hT, E.kn, max E.hi (vaM (lkN 0 5 t)), E.lg)
theorem m_readGlove (n : Nat) (hn : 400 ≤ n) {M : Mem} {tp : List Nat} {t : Tm} {E : Dr} (h : YS M tp t E) (hh : E.hi < 6) : ∃ M', X_Model_readGlove n M = some ((), M') ∧ YS M' tp (mgT tp t E) (mgD t E) ∧ Fr yd M M' := by
  obtain ⟨M2, a1, a2, a3⟩ := h.look n 0 5 (by decide) (by decide)
  have hv : vaM (lkN 0 5 t) ≤ 5 := vaM_le
  unfold mgT mgD
  have hn8 := a2.2.1.1
  have a31 := a2.2.2.1.1
  have hvb : (lkN 0 5 t).1 ≠ 0 → vaM (lkN 0 5 t) = 0 := fun q => vaM_bad q
  generalize vaM (lkN 0 5 t) = r at a1 hv hvb
  generalize lkN 0 5 t = t1 at a2 hn8 a31 hvb
  have k33 : ∀ (N : Mem) (t2 : Tm), YS N tp t2 E → Fr yd M N → ∃ M', (bd (X_Model_next n N) fun _ M5 => gd (nI r) 6 (nm (si M5 12 ((nI r).toNatClampNeg) (vp_nar .boolean 1)) fun N6 => bd (X_Model_tells n (nI r) N6) fun _ M8 => some ((), M8))) = some ((), M') ∧ YS M' tp (rdM tp t2) (E.R, E.W, E.gl ||| 2 ^ r, E.pT, E.hT, E.kn, max E.hi r, E.lg) ∧ Fr yd M M' := by
    intro N t2 g1 g2
    obtain ⟨M5, b1, b2, b3⟩ := g1.nxt n hn
    rw [b1, bd_ret, gd_in (vp_in_nI (n := r) (by omega) (by decide)), nI_clamp (by omega), nm_eq]
    have f6 : Fr (fun c k => c = 12 ∧ k = r) M5 (si M5 12 r (vp_nar .boolean 1)) := Fr.si ⟨rfl, rfl⟩
    have hy := b2.2.2.2.1
    obtain ⟨d1, d2, d3, d4, d5, d6, d7, d8, d9, d10⟩ := hy.1
    have hS6 : YS (si M5 12 r (vp_nar .boolean 1)) tp (rdM tp t2) (E.R, E.W, E.gl ||| 2 ^ r, E.pT, E.hT, E.kn, E.hi, E.lg) := b2.wr f6 (fun c k q => by omega) ⟨⟨d1, d2, d3, d4, d5, d6, d7, d8, d9.fr b2.2.2.2.2 f6 (fun k _ _ q => by omega), fun p hp => by
      show _ = nI (if (E.gl ||| 2 ^ r).testBit p then 1 else 0)
      rw [or_bit]
      by_cases e : p = r
      · rw [e, si_at, decide_eq_true rfl, Bool.or_true]; rfl
      · rw [si_ne (Or.inr e), decide_eq_false (fun q => e q.symm), Bool.or_false]
        exact d10 p hp⟩, hy.2⟩ b2.2.2.2.2
    obtain ⟨M8, c1, c2, c3⟩ := m_tells n hS6 (p := r) (by omega) hh
    rw [c1, bd_ret]
    exact ⟨M8, rfl, c2, ((g2.trans (mt_yd b3)).trans (f6.mono (fun c k q => by unfold yd; omega))).trans c3⟩
  have un : X_Model_readGlove n M = (if (M2.1 0 31) = 0 then gd (nI r) 6 (bd (X_Model_needs n (if (M2.1 12 (nI r).toNatClampNeg) = 0 then 1 else 0) 4 M2) fun _ M11 => (bd (X_Model_next n M11) fun _ M5 => gd (nI r) 6 (nm (si M5 12 ((nI r).toNatClampNeg) (vp_nar .boolean 1)) fun N6 => bd (X_Model_tells n (nI r) N6) fun _ M8 => some ((), M8)))) else (bd (X_Model_next n M2) fun _ M5 => gd (nI r) 6 (nm (si M5 12 ((nI r).toNatClampNeg) (vp_nar .boolean 1)) fun N6 => bd (X_Model_tells n (nI r) N6) fun _ M8 => some ((), M8)))) := by
    unfold X_Model_readGlove
    rw [show X_Model_looked n 0 5 M = _ from a1, bd_ret, nm_eq, nm_eq]
    by_cases e : M2.1 12 (nI r).toNatClampNeg = 0
    · rw [if_pos e, if_pos e]
    · rw [if_neg e, if_neg e]
  rw [un, a31]
  by_cases e : t1.1 = 0
  · have h12 := a2.2.2.2.1.1.2.2.2.2.2.2.2.2.2 r (by omega)
    rw [if_pos (show nI t1.1 = 0 by rw [e]; rfl), gd_in (vp_in_nI (n := r) (by omega) (by decide)), nI_clamp (by omega), h12]
    obtain ⟨M11, b1, b2, b3⟩ := a2.need n (p1 := if nI (if E.gl.testBit r then 1 else 0) = 0 then 1 else 0) (ok := !E.gl.testBit r) (by cases E.gl.testBit r <;> decide) 4 (by decide)
    rw [show X_Model_needs n (if nI (if E.gl.testBit r then 1 else 0) = 0 then 1 else 0) 4 M2 = _ from b1, bd_ret]
    have k := k33 M11 _ b2 ((mt_yd a3).trans (mt_yd b3))
    rw [nI_clamp (by omega)] at k
    exact k
  · rw [if_neg (fun q => e ((i_z (by omega)).mp q)), ned_bad e]
    exact k33 M2 t1 a2 (mt_yd a3)
