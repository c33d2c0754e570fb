/-! THE TEXT: a line of both, whole -/
theorem tld_b : ∀ p, p < 2 → ∀ h, h < 2 → (p + 2 * h).testBit 0 = decide (p ≠ 0) ∧ (p + 2 * h).testBit 1 = decide (h ≠ 0) ∧ (p + 2 * h) ||| 2 ^ 0 = 1 + 2 * h ∧ (p + 2 * h) ||| 2 ^ 1 = p + 2 * 1 := by decide +kernel
theorem m_disp0 (n : Nat) (hn : 400 ≤ n) {M : Mem} {tp : List Nat} {s' : Tk} {t : Tm} {E : Dr} (h : YS M tp t (E.R, E.W, E.gl, 1, E.hT, E.kn, E.hi, E.lg)) (hQ : QT (rdX tp s') t) : LQ n M tp s' E (kDisp n 0 M) (tkS tp (tkN tp 2 6 s')) ((vaN 2 (tkN tp 2 6 s'), E.R.2), E.W, E.gl, 1, E.hT, E.kn, E.hi, E.lg) := by
  obtain ⟨M2, a1, a2, a3⟩ := h.rnum n hn 2 6 (by decide) (by decide)
  obtain ⟨q1, q2⟩ := num_Q 2 6 hQ
  have f1 : Fr (fun c k => c = 0 ∧ k = 12) M2 (si M2 0 12 (nI (vaM (lkN 2 6 t)))) := Fr.si ⟨rfl, rfl⟩
  obtain ⟨y1, y2, y3, y4⟩ := a2.2.2.2.1
  obtain ⟨x1, x2, x3, x4, x5, x6, x7, x8, x9, x10⟩ := y1
  have hY : YW (si M2 0 12 (nI (vaM (lkN 2 6 t)))) tp (rdM tp (lkN 2 6 t)) ((vaM (lkN 2 6 t), E.R.2), E.W, E.gl, 1, E.hT, E.kn, E.hi, E.lg) := a2.w.wr f1 (fun c k q => by omega) (fun _ => ⟨⟨⟨si_at _ _ _ _, x2, x3, x4, x5, x6, x7, x8, x9.fr a2.2.2.2.2 f1 (fun k _ _ q => by omega), x10⟩, y2, y3, y4⟩, a2.2.2.2.2⟩)
  obtain ⟨M', t', b1, b2, b3, b4⟩ := m_tail n hn hY (next_Q q1)
  refine ⟨M', t', ?_, b2.cg (fun q => ?_), b3, ((mt_yd a3).trans (f1.mono (fun c k q => by unfold yd; omega))).trans b4⟩
  · unfold kDisp
    rw [if_pos rfl, show X_Model_readNumber n 2 6 M = _ from a1, bd_ret]
    exact b1
  · have p0 := rd_0 ((Q_0 b3).mpr q)
    have s0 := (tkS_0 (show (tkS tp (tkN tp 2 6 s')).1 = 0 from p0)).1
    rw [q2 s0]
theorem m_disp1 (n : Nat) (hn : 400 ≤ n) {M : Mem} {tp : List Nat} {s' : Tk} {t : Tm} {E : Dr} (h : YS M tp t (E.R, E.W, E.gl, E.pT, 1, E.kn, E.hi, E.lg)) (hQ : QT (rdX tp s') t) : LQ n M tp s' E (kDisp n 1 M) (tkS tp (tkN tp 1 9 s')) ((E.R.1, vaN 1 (tkN tp 1 9 s'), E.R.2.2), E.W, E.gl, E.pT, 1, E.kn, E.hi, E.lg) := by
  obtain ⟨M2, a1, a2, a3⟩ := h.rnum n hn 1 9 (by decide) (by decide)
  obtain ⟨q1, q2⟩ := num_Q 1 9 hQ
  have f1 : Fr (fun c k => c = 0 ∧ k = 13) M2 (si M2 0 13 (nI (vaM (lkN 1 9 t)))) := Fr.si ⟨rfl, rfl⟩
  obtain ⟨y1, y2, y3, y4⟩ := a2.2.2.2.1
  obtain ⟨x1, x2, x3, x4, x5, x6, x7, x8, x9, x10⟩ := y1
  have hY : YW (si M2 0 13 (nI (vaM (lkN 1 9 t)))) tp (rdM tp (lkN 1 9 t)) ((E.R.1, vaM (lkN 1 9 t), E.R.2.2), E.W, E.gl, E.pT, 1, E.kn, E.hi, E.lg) := a2.w.wr f1 (fun c k q => by omega) (fun _ => ⟨⟨⟨x1, si_at _ _ _ _, x3, x4, x5, x6, x7, x8, x9.fr a2.2.2.2.2 f1 (fun k _ _ q => by omega), x10⟩, y2, y3, y4⟩, a2.2.2.2.2⟩)
  obtain ⟨M', t', b1, b2, b3, b4⟩ := m_tail n hn hY (next_Q q1)
  refine ⟨M', t', ?_, b2.cg (fun q => ?_), b3, ((mt_yd a3).trans (f1.mono (fun c k q => by unfold yd; omega))).trans b4⟩
  · unfold kDisp
    rw [if_neg (show ¬ (1 : Int32) = 0 by decide), if_pos rfl, show X_Model_readNumber n 1 9 M = _ from a1, bd_ret]
    exact b1
  · have p0 := rd_0 ((Q_0 b3).mpr q)
    have s0 := (tkS_0 (show (tkS tp (tkN tp 1 9 s')).1 = 0 from p0)).1
    rw [q2 s0]
theorem nm_le (tp : List Nat) (q a : Nat) : nmI tp q a ≤ 7 := by
  unfold nmI
  repeat (first | (split; decide) | decide)
theorem ned_t {f : Nat} {t : Tm} : ned true f t = t := rfl
theorem m_line (n : Nat) (hn : 400 ≤ n) {M : Mem} {tp : List Nat} {s : Tk} {t : Tm} {E : Dr} (hE : VE E) (h : YS M tp t E) (hQ : Qok s t) (hs : OkT tp s) (hq : s.2.2.2.1 ≤ s.2.1) : LQ n M tp s E (X_Model_readLine n M) (lnS tp s E) (lnD tp s E) := by
  have hk4 := h.2.1.2.2.2
  have hQs : QT s t := Or.inl hQ
  -- a fault of this line's name
  have bad : ∀ (f : Nat), 0 < f ∧ f < 8 → QT (rdX tp (rfs true f s)) (ned false f t) := fun f hf => by
    have q := ref_Q (f := f) (f' := f) hQs hf hf (c := true) (ok := false) rfl
    have : (rfs true f s).1 ≠ 0 := by unfold rfs; rw [if_pos rfl, if_pos hQ.1]; show f ≠ 0; omega
    rw [rdX_bad this]
    exact q
  have nbad : ∀ (f : Nat), 0 < f → (ned false f t).1 ≠ 0 := fun f hf => by
    unfold ned
    rw [if_neg Bool.false_ne_true, if_pos hQ.2.1]
    show f ≠ 0
    omega
  rw [line_eq, h.2.2.1.2.2.2.2.1]
  have two : LQ n M tp s E (kName n (-4) M) (rfs true 2 s) E := by
    obtain ⟨M1, b1, b2, b3⟩ := h.need n (p1 := 0) (ok := false) (by decide) 2 (by decide)
    obtain ⟨M2, c1, c2, c3⟩ := b2.need n (p1 := 1) (ok := true) (by decide) 5 (by decide)
    rw [ned_t] at c2
    obtain ⟨M', d1, d2, d3⟩ := k_bad n hn (-4) c2 (nbad 2 (by decide))
    refine ⟨M', _, ?_, d2, bad 2 (by decide), ((mt_yd b3).trans (mt_yd c3)).trans d3⟩
    unfold kName
    rw [if_pos rfl, show X_Model_needs n 0 2 M = _ from b1, bd_ret, if_neg (show ¬ (-4 : Int32) = 3 by decide), if_neg (show ¬ (-4 : Int32) = 4 by decide), if_neg (show ¬ (-4 : Int32) = 5 by decide)]
    unfold kFull
    rw [show X_Model_needs n 1 5 M1 = _ from c1, bd_ret]
    exact d1
  by_cases e1 : t.2.2.2.2.1 = 1
  · have es1 : s.2.2.1 = 1 := by rw [hQ.2.2.2.1]; exact e1
    rw [if_pos (show nI t.2.2.2.2.1 = 1 by rw [e1]; rfl), m_name n h.1 h.2.2.1.2.2.1 h.2.2.1.2.2.2.1 (by rw [← hQ.2.2.1, ← hQ.2.2.2.2.1]; exact hq) h.2.1.2.1, bd_ret, ← hQ.2.2.1, ← hQ.2.2.2.2.1]
    unfold lnS lnD
    rw [if_pos es1, if_pos es1]
    have hle := nm_le tp s.2.2.2.1 s.2.1
    generalize nmI tp s.2.2.2.1 s.2.1 = k at hle
    -- the name is known: no fault 2; then no fault 5
    obtain ⟨M1, b1, b2, b3⟩ := h.need n (p1 := 1) (ok := true) (by decide) 2 (by decide)
    rw [ned_t] at b2
    obtain ⟨M2, c1, c2, c3⟩ := b2.need n (p1 := 1) (ok := true) (by decide) 5 (by decide)
    rw [ned_t] at c2
    have f2 := (mt_yd b3).trans (mt_yd c3)
    obtain ⟨M3, d1, d2, d3⟩ := b2.need n (p1 := 0) (ok := false) (by decide) 5 (by decide)
    obtain ⟨l14, l15, l16⟩ : M1.1 0 14 = nI E.R.2.2.1.length ∧ M1.1 0 15 = nI E.R.2.2.2.1.length ∧ M1.1 0 16 = nI E.R.2.2.2.2.length := ⟨b2.2.2.2.1.1.2.2.1, b2.2.2.2.1.1.2.2.2.1, b2.2.2.2.1.1.2.2.2.2.1⟩
    have full : ∀ u1, LQ n M tp s E (kFull n u1 0 M1) (rfs true 5 s) E := fun u1 => by
      obtain ⟨M', g1, g2, g3⟩ := k_bad n hn u1 d2 (nbad 5 (by decide))
      refine ⟨M', _, ?_, g2, bad 5 (by decide), ((mt_yd b3).trans (mt_yd d3)).trans g3⟩
      unfold kFull
      rw [show X_Model_needs n 0 5 M1 = _ from d1, bd_ret]
      exact g1
    have fre : ∀ u1 : Int32, 1 < u1 → kFull n u1 1 M1 = kNext n u1 M2 := fun u1 hu => by
      unfold kFull
      rw [show X_Model_needs n 1 5 M1 = _ from c1, bd_ret]
      unfold kTwice
      rw [c2.2.2.1.1, if_pos (show nI t.1 = 0 by rw [hQ.2.1]; rfl), if_pos hu]
    -- the first token behind the name, then what it is about
    have go : ∀ (u1 : Int32) (N : Mem) (s' : Tk) (t' : Tm) (E1 : Dr) (S' : Tk) (D' : Dr), YS N tp t' E1 → Fr yd M N → QT s' t' → (∀ M4, YS M4 tp (rdM tp t') E1 → QT (rdX tp s') (rdM tp t') → LQ n M4 tp s E (kDisp n u1 M4) S' D') → ((rdX tp s').1 ≠ 0 → S' = rdX tp s') → LQ n M tp s E (kNext n u1 N) S' D' := by
      intro u1 N s' t' E1 S' D' g1 g2 g3 g4 g5
      obtain ⟨M4, i1, i2, i3⟩ := k_next n hn u1 g1
      have q2 := next_Q (tp := tp) g3
      rw [i3]
      by_cases e0 : (rdM tp t').1 = 0
      · rw [if_pos e0]
        obtain ⟨M', t2, j1, j2, j3, j4⟩ := g4 M4 i1 q2
        exact ⟨M', t2, j1, j2, j3, (g2.trans i2).trans j4⟩
      · rw [if_neg e0]
        have sb : (rdX tp s').1 ≠ 0 := fun q => e0 ((Q_0 q2).mp q)
        refine ⟨M4, rdM tp t', rfl, ⟨i1.1, i1.2.1, i1.2.2.1, fun q => absurd q e0⟩, ?_, g2.trans i2⟩
        rw [g5 sb, rdX_bad sb]
        exact q2
    have kn : ∀ k, k < 7 → nmC k = nI k := fun k hk => if_neg (by omega)
    match k, hle with
    | 0, _ =>
      have un : kName n (nmC 0) M = kFull n 0 1 M1 := by
        unfold kName
        rw [kn 0 (by decide), if_neg (show ¬ nI 0 = -4 by decide), show X_Model_needs n 1 2 M = _ from b1, bd_ret, if_neg (show ¬ nI 0 = 3 by decide), if_neg (show ¬ nI 0 = 4 by decide), if_neg (show ¬ nI 0 = 5 by decide)]
        rfl
      obtain ⟨z1, z2, z3, z4⟩ := tld_b E.pT hE.1.2.2.2.2.1 E.hT hE.1.2.2.2.2.2.1
      have ok24 : ∀ p1 : Int32, (p1 = 0 ↔ decide (E.pT = 0) = false) → ∃ M5, X_Model_needs n p1 4 M2 = some ((), M5) ∧ YS M5 tp (ned (decide (E.pT = 0)) 4 t) E ∧ Fr mt M2 M5 := fun p1 hp => c2.need n hp 4 (by decide)
      have fin : ∀ p1 : Int32, (p1 = 0 ↔ decide (E.pT = 0) = false) → LQ n M tp s E (bd (X_Model_needs n p1 4 M2) fun _ M37 => kNext n 0 (si M37 0 24 ((M37.1 0 24) ||| ((1 : Int32) <<< ((0 : Int32) &&& 31))))) (tkS tp (peoS tp s E)) (peoD tp s E) := fun p1 hp => by
        obtain ⟨M5, i1, i2, i3⟩ := ok24 p1 hp
        obtain ⟨y1, y2, y3, y4⟩ := i2.2.2.2.1
        have e24 : (M5.1 0 24) ||| ((1 : Int32) <<< ((0 : Int32) &&& 31)) = nI (1 + 2 * E.hT) := by
          rw [y3, show (1 : Int32) <<< ((0 : Int32) &&& 31) = nI (2 ^ 0) by decide, i_or, z3]
        have f1 : Fr (fun c k => c = 0 ∧ k = 24) M5 (si M5 0 24 (nI (1 + 2 * E.hT))) := Fr.si ⟨rfl, rfl⟩
        have hS : YS (si M5 0 24 (nI (1 + 2 * E.hT))) tp (ned (decide (E.pT = 0)) 4 t) (E.R, E.W, E.gl, 1, E.hT, E.kn, E.hi, E.lg) := i2.wr f1 (fun c k q => by omega) ⟨y1.fr i2.2.2.2.2 f1 (fun c k q => by omega), fun p hp => by rw [(f1 13 p (by omega)).1]; exact y2 p hp, si_at _ _ _ _, by rw [(f1 0 17 (by omega)).1]; exact y4⟩ i2.2.2.2.2
        have hq2 : QT (rfs (decide (E.pT ≠ 0)) 4 s) (ned (decide (E.pT = 0)) 4 t) := ref_Q hQs (by decide) (by decide) (by by_cases q : E.pT = 0 <;> simp [q])
        rw [i1, bd_ret, e24]
        exact go 0 _ _ _ _ _ _ hS ((f2.trans (mt_yd i3)).trans (f1.mono (fun c k q => by unfold yd; omega))) hq2 (fun M4 j1 j2 => m_disp0 n hn j1 j2) (fun sb => by unfold peoS; rw [tkN_bad 2 6 sb, tkS_b sb])
      rw [un]
      have un2 : kFull n 0 1 M1 = (if nI (if (E.pT + 2 * E.hT).testBit 0 then 1 else 0) = 0 then bd (X_Model_needs n 1 4 M2) fun _ M37 => kNext n 0 (si M37 0 24 ((M37.1 0 24) ||| ((1 : Int32) <<< ((0 : Int32) &&& 31)))) else bd (X_Model_needs n 0 4 M2) fun _ M37 => kNext n 0 (si M37 0 24 ((M37.1 0 24) ||| ((1 : Int32) <<< ((0 : Int32) &&& 31))))) := by
        have hp := hE.1.2.2.2.2.1
        have hh := hE.1.2.2.2.2.2.1
        unfold kFull
        rw [show X_Model_needs n 1 5 M1 = _ from c1, bd_ret]
        unfold kTwice
        rw [c2.2.2.1.1, if_pos (show nI t.1 = 0 by rw [hQ.2.1]; rfl), if_neg (show ¬ (1 : Int32) < 0 by decide), c2.2.2.2.1.2.2.1, ← b_is (k := E.pT + 2 * E.hT) (t := 0) (by omega) (by decide)]
        rfl
      rw [un2, z1]
      by_cases ep : E.pT = 0
      · rw [decide_eq_false (fun q => q ep), if_pos (show nI (if false = true then 1 else 0) = 0 from rfl)]
        exact fin 1 (by rw [decide_eq_true ep]; decide)
      · rw [decide_eq_true ep, if_neg (show ¬ nI (if true = true then 1 else 0) = 0 by decide)]
        exact fin 0 (by rw [decide_eq_false ep]; decide)
    | 1, _ =>
      have un : kName n (nmC 1) M = kFull n 1 1 M1 := by
        unfold kName
        rw [kn 1 (by decide), if_neg (show ¬ nI 1 = -4 by decide), show X_Model_needs n 1 2 M = _ from b1, bd_ret, if_neg (show ¬ nI 1 = 3 by decide), if_neg (show ¬ nI 1 = 4 by decide), if_neg (show ¬ nI 1 = 5 by decide)]
        rfl
      obtain ⟨z1, z2, z3, z4⟩ := tld_b E.pT hE.1.2.2.2.2.1 E.hT hE.1.2.2.2.2.2.1
      have fin : ∀ p1 : Int32, (p1 = 0 ↔ decide (E.hT = 0) = false) → LQ n M tp s E (bd (X_Model_needs n p1 4 M2) fun _ M37 => kNext n 1 (si M37 0 24 ((M37.1 0 24) ||| ((1 : Int32) <<< ((1 : Int32) &&& 31))))) (tkS tp (holS tp s E)) (holD tp s E) := fun p1 hp => by
        obtain ⟨M5, i1, i2, i3⟩ := c2.need n hp 4 (by decide)
        obtain ⟨y1, y2, y3, y4⟩ := i2.2.2.2.1
        have e24 : (M5.1 0 24) ||| ((1 : Int32) <<< ((1 : Int32) &&& 31)) = nI (E.pT + 2 * 1) := by
          rw [y3, show (1 : Int32) <<< ((1 : Int32) &&& 31) = nI (2 ^ 1) by decide, i_or, z4]
        have f1 : Fr (fun c k => c = 0 ∧ k = 24) M5 (si M5 0 24 (nI (E.pT + 2 * 1))) := Fr.si ⟨rfl, rfl⟩
        have hS : YS (si M5 0 24 (nI (E.pT + 2 * 1))) tp (ned (decide (E.hT = 0)) 4 t) (E.R, E.W, E.gl, E.pT, 1, E.kn, E.hi, E.lg) := i2.wr f1 (fun c k q => by omega) ⟨y1.fr i2.2.2.2.2 f1 (fun c k q => by omega), fun p hp => by rw [(f1 13 p (by omega)).1]; exact y2 p hp, si_at _ _ _ _, by rw [(f1 0 17 (by omega)).1]; exact y4⟩ i2.2.2.2.2
        have hq2 : QT (rfs (decide (E.hT ≠ 0)) 4 s) (ned (decide (E.hT = 0)) 4 t) := ref_Q hQs (by decide) (by decide) (by by_cases q : E.hT = 0 <;> simp [q])
        rw [show X_Model_needs n p1 4 M2 = _ from i1, bd_ret, e24]
        exact go 1 _ _ _ _ _ _ hS ((f2.trans (mt_yd i3)).trans (f1.mono (fun c k q => by unfold yd; omega))) hq2 (fun M4 j1 j2 => m_disp1 n hn j1 j2) (fun sb => by unfold holS; rw [tkN_bad 1 9 sb, tkS_b sb])
      rw [un]
      have un2 : kFull n 1 1 M1 = (if nI (if (E.pT + 2 * E.hT).testBit 1 then 1 else 0) = 0 then bd (X_Model_needs n 1 4 M2) fun _ M37 => kNext n 1 (si M37 0 24 ((M37.1 0 24) ||| ((1 : Int32) <<< ((1 : Int32) &&& 31)))) else bd (X_Model_needs n 0 4 M2) fun _ M37 => kNext n 1 (si M37 0 24 ((M37.1 0 24) ||| ((1 : Int32) <<< ((1 : Int32) &&& 31))))) := by
        have hp := hE.1.2.2.2.2.1
        have hh := hE.1.2.2.2.2.2.1
        unfold kFull
        rw [show X_Model_needs n 1 5 M1 = _ from c1, bd_ret]
        unfold kTwice
        rw [c2.2.2.1.1, if_pos (show nI t.1 = 0 by rw [hQ.2.1]; rfl), if_neg (show ¬ (1 : Int32) < 1 by decide), c2.2.2.2.1.2.2.1, ← b_is (k := E.pT + 2 * E.hT) (t := 1) (by omega) (by decide)]
        rfl
      rw [un2, z2]
      by_cases ep : E.hT = 0
      · rw [decide_eq_false (fun q => q ep), if_pos (show nI (if false = true then 1 else 0) = 0 from rfl)]
        exact fin 1 (by rw [decide_eq_true ep]; decide)
      · rw [decide_eq_true ep, if_neg (show ¬ nI (if true = true then 1 else 0) = 0 by decide)]
        exact fin 0 (by rw [decide_eq_false ep]; decide)
    | 2, _ =>
      have un : kName n (nmC 2) M = kNext n 2 M2 := by
        unfold kName
        rw [kn 2 (by decide), if_neg (show ¬ nI 2 = -4 by decide), show X_Model_needs n 1 2 M = _ from b1, bd_ret, if_neg (show ¬ nI 2 = 3 by decide), if_neg (show ¬ nI 2 = 4 by decide), if_neg (show ¬ nI 2 = 5 by decide)]
        exact fre 2 (by decide)
      rw [un]
      exact go 2 M2 s t E _ _ c2 f2 hQs (fun M4 j1 j2 => m_disp2 n hn hE j1 j2) (fun sb => kn_b sb)
    | 3, _ =>
      have hv := hE.1.1
      by_cases hj : E.R.2.2.1.length < 4
      · have un : kName n (nmC 3) M = kNext n 3 M2 := by
          unfold kName
          rw [kn 3 (by decide), if_neg (show ¬ nI 3 = -4 by decide), show X_Model_needs n 1 2 M = _ from b1, bd_ret, if_pos (show nI 3 = 3 from rfl), l14, if_neg (show ¬ (4 : Int32) ≤ nI E.R.2.2.1.length from nI_ge (b := 4) hj (by decide)), if_neg (show ¬ nI 3 = 4 by decide), if_neg (show ¬ nI 3 = 5 by decide)]
          exact fre 3 (by decide)
        rw [un]
        rw [if_pos hj, if_pos hj]
        exact go 3 M2 s t E _ _ c2 f2 hQs (fun M4 j1 j2 => m_disp3 n hn j1 j2 hj) (fun sb => jo_b sb)
      · have un : kName n (nmC 3) M = kFull n 3 0 M1 := by
          unfold kName
          rw [kn 3 (by decide), if_neg (show ¬ nI 3 = -4 by decide), show X_Model_needs n 1 2 M = _ from b1, bd_ret, if_pos (show nI 3 = 3 from rfl), l14, if_pos (show (4 : Int32) ≤ nI E.R.2.2.1.length from nI_le (a := 4) (by omega) (by omega))]
          rfl
        rw [un]
        rw [if_neg hj, if_neg hj]
        exact full 3
    | 4, _ =>
      have hv := hE.1.2.1
      by_cases hj : E.R.2.2.2.1.length < 16
      · have un : kName n (nmC 4) M = kNext n 4 M2 := by
          unfold kName
          rw [kn 4 (by decide), if_neg (show ¬ nI 4 = -4 by decide), show X_Model_needs n 1 2 M = _ from b1, bd_ret, if_neg (show ¬ nI 4 = 3 by decide), if_pos (show nI 4 = 4 from rfl), l15, if_neg (show ¬ (16 : Int32) ≤ nI E.R.2.2.2.1.length from nI_ge (b := 16) hj (by decide)), if_neg (show ¬ nI 4 = 5 by decide)]
          exact fre 4 (by decide)
        rw [un]
        rw [if_pos hj, if_pos hj]
        exact go 4 M2 s t E _ _ c2 f2 hQs (fun M4 j1 j2 => m_disp4 n hn hE j1 j2 hj) (fun sb => pa_b sb)
      · have un : kName n (nmC 4) M = kFull n 4 0 M1 := by
          unfold kName
          rw [kn 4 (by decide), if_neg (show ¬ nI 4 = -4 by decide), show X_Model_needs n 1 2 M = _ from b1, bd_ret, if_neg (show ¬ nI 4 = 3 by decide), if_pos (show nI 4 = 4 from rfl), l15, if_pos (show (16 : Int32) ≤ nI E.R.2.2.2.1.length from nI_le (a := 16) (by omega) (by omega))]
          rfl
        rw [un]
        rw [if_neg hj, if_neg hj]
        exact full 4
    | 5, _ =>
      have hv := hE.1.2.2.1
      by_cases hj : E.R.2.2.2.2.length < 8
      · have un : kName n (nmC 5) M = kNext n 5 M2 := by
          unfold kName
          rw [kn 5 (by decide), if_neg (show ¬ nI 5 = -4 by decide), show X_Model_needs n 1 2 M = _ from b1, bd_ret, if_neg (show ¬ nI 5 = 3 by decide), if_neg (show ¬ nI 5 = 4 by decide), if_pos (show nI 5 = 5 from rfl), l16, if_neg (show ¬ (8 : Int32) ≤ nI E.R.2.2.2.2.length from nI_ge (b := 8) hj (by decide))]
          exact fre 5 (by decide)
        rw [un]
        rw [if_pos hj, if_pos hj]
        exact go 5 M2 s t E _ _ c2 f2 hQs (fun M4 j1 j2 => m_disp5 n hn hE j1 j2 hj) (fun sb => pa_b sb)
      · have un : kName n (nmC 5) M = kFull n 5 0 M1 := by
          unfold kName
          rw [kn 5 (by decide), if_neg (show ¬ nI 5 = -4 by decide), show X_Model_needs n 1 2 M = _ from b1, bd_ret, if_neg (show ¬ nI 5 = 3 by decide), if_neg (show ¬ nI 5 = 4 by decide), if_pos (show nI 5 = 5 from rfl), l16, if_pos (show (8 : Int32) ≤ nI E.R.2.2.2.2.length from nI_le (a := 8) (by omega) (by omega))]
          rfl
        rw [un]
        rw [if_neg hj, if_neg hj]
        exact full 5
    | 6, _ =>
      have un : kName n (nmC 6) M = kNext n 6 M2 := by
        unfold kName
        rw [kn 6 (by decide), if_neg (show ¬ nI 6 = -4 by decide), show X_Model_needs n 1 2 M = _ from b1, bd_ret, if_neg (show ¬ nI 6 = 3 by decide), if_neg (show ¬ nI 6 = 4 by decide), if_neg (show ¬ nI 6 = 5 by decide)]
        exact fre 6 (by decide)
      rw [un]
      exact go 6 M2 s t E _ _ c2 f2 hQs (fun M4 j1 j2 => m_disp6 n hn hE j1 j2) (fun sb => glo_b sb)
    | 7, _ => exact two
    | k + 8, hle => exact absurd hle (by omega)
  · have es1 : ¬ s.2.2.1 = 1 := by rw [hQ.2.2.2.1]; exact e1
    unfold lnS lnD
    rw [if_neg (show ¬ nI t.2.2.2.2.1 = 1 from fun q => e1 ((nI_eq (b := 1) (by omega) (by decide)).mp q)), if_neg es1, if_neg es1]
    exact two
