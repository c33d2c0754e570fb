/-! THE TEXT: a line of both -/
theorem k_bad (n : Nat) (hn : 400 ≤ n) (u1 : Int32) {M : Mem} {tp : List Nat} {t : Tm} {E : Dr} (h : YS M tp t E) (e : t.1 ≠ 0) : ∃ M', kTwice n u1 M = some ((), M') ∧ YW M' tp t E ∧ Fr yd M M' := by
  obtain ⟨M2, c1, c2, c3⟩ := h.nxt n hn
  rw [rdM_bad e] at c2
  have e1 : ¬ nI t.1 = 0 := fun q => e ((i_z (by have := h.2.1.1; omega)).mp q)
  have e2 : ¬ nI t.1 ≤ 0 := nI_ge (a := 0) (by omega) (by have := h.2.1.1; omega)
  unfold kTwice
  rw [h.2.2.1.1, if_neg e1]
  unfold kNext
  rw [c1, bd_ret, c2.2.2.1.1, if_neg e2]
  exact ⟨M2, rfl, c2.w, mt_yd c3⟩
theorem k_next (n : Nat) (hn : 400 ≤ n) (u1 : Int32) {M : Mem} {tp : List Nat} {t : Tm} {E : Dr} (h : YS M tp t E) : ∃ M2, YS M2 tp (rdM tp t) E ∧ Fr yd M M2 ∧ kNext n u1 M = if (rdM tp t).1 = 0 then kDisp n u1 M2 else some ((), M2) := by
  obtain ⟨M2, c1, c2, c3⟩ := h.nxt n hn
  refine ⟨M2, c2, mt_yd c3, ?_⟩
  unfold kNext
  rw [c1, bd_ret, c2.2.2.1.1]
  by_cases e : (rdM tp t).1 = 0
  · rw [if_pos (show nI (rdM tp t).1 ≤ 0 by rw [e]; exact Int32.le_refl _), if_pos e]
  · rw [if_neg (show ¬ nI (rdM tp t).1 ≤ 0 from nI_ge (a := 0) (by omega) (by have := c2.2.1.1; omega)), if_neg e]
-- what the class's status is when the first token already is a fault
theorem glo_b {tp : List Nat} {s : Tk} {D : Dr} (h : (rdX tp s).1 ≠ 0) : gloS tp s D = rdX tp s := by
  unfold gloS
  rw [tkN_bad 0 5 h, rfs_bad h, tkS_b h]
theorem pa_b {tp : List Nat} {s : Tk} (h : (rdX tp s).1 ≠ 0) : paS tp s = rdX tp s := by
  unfold paS paB paA
  rw [tkN_bad 0 5 h, tkN_b 0 5 h, rfs_bad h, tkS_b h]
theorem jo_b {tp : List Nat} {s : Tk} (h : (rdX tp s).1 ≠ 0) : joS tp s = rdX tp s := by
  unfold joS joC joB joA
  rw [tkN_bad 0 15 h, tkN_b 0 15 h, rfs_bad h, tkN_b 0 15 h, rfs_bad h, tkS_b h]
theorem kn_b {tp : List Nat} {s : Tk} {D : Dr} (h : (rdX tp s).1 ≠ 0) : knS tp s D = rdX tp s := by
  have e1 : knA tp s = rdX tp s := tkN_bad 0 5 h
  have e2 : knB tp s D = rdX tp s := by unfold knB; rw [e1, rfs_bad h]
  have e3 : knC tp s D = rdX tp s := by unfold knC; rw [e2, tkN_b 0 15 h]
  have e4 : knE tp s D = (thL [] (vaN 0 (rdX tp s)), rdX tp s) := by
    unfold knE
    rw [e3]
    have : thS [] (vaN 0 (rdX tp s)) (rdX tp s) = rdX tp s := by unfold thS; rw [rfs_bad h, rfs_bad h]
    rw [this, rdX_bad h, rwL_bad h]
  unfold knS
  rw [e4, rfs_bad h]
def VE (E : Dr) : Prop := VD E ∧ (∀ p, p < 6 → E.kn.testBit p = false → E.W p = [])
def LQ (n : Nat) (M : Mem) (tp : List Nat) (s : Tk) (E : Dr) (F : Option (Unit × Mem)) (S' : Tk) (D' : Dr) : Prop := ∃ M' t', F = some ((), M') ∧ YW M' tp t' D' ∧ QT (rdX tp S') t' ∧ Fr yd M M'
theorem m_disp6 (n : Nat) (hn : 400 ≤ n) {M : Mem} {tp : List Nat} {s : Tk} {t : Tm} {E : Dr} (hE : VE E) (h : YS M tp t E) (hQ : QT (rdX tp s) t) : LQ n M tp s E (kDisp n 6 M) (gloS tp s E) (gloD tp s E) := by
  obtain ⟨M2, a1, a2, a3⟩ := m_readGlove n hn h hE.1.2.2.2.2.2.2.2.1
  obtain ⟨q1, q2⟩ := glo_Q (E := E) hQ
  obtain ⟨M', t', b1, b2, b3, b4⟩ := m_tail n hn (a2.w.cg q2) q1
  refine ⟨M', t', ?_, b2, b3, a3.trans b4⟩
  unfold kDisp
  rw [if_neg (show ¬ (6 : Int32) = 0 by decide), if_neg (show ¬ (6 : Int32) = 1 by decide), if_neg (show ¬ (6 : Int32) = 2 by decide), if_neg (show ¬ (6 : Int32) = 3 by decide), if_neg (show ¬ (6 : Int32) = 4 by decide), if_neg (show ¬ (6 : Int32) = 5 by decide), a1, bd_ret]
  exact b1
theorem m_disp2 (n : Nat) (hn : 400 ≤ n) {M : Mem} {tp : List Nat} {s : Tk} {t : Tm} {E : Dr} (hE : VE E) (h : YS M tp t E) (hQ : QT (rdX tp s) t) : LQ n M tp s E (kDisp n 2 M) (knS tp s E) (knD tp s E) := by
  obtain ⟨M2, t2, a1, a2, a3, a4⟩ := m_readKnows n hn hQ h hE.1.2.2.2.2.2.2.2.1 hE.2
  obtain ⟨M', t', b1, b2, b3, b4⟩ := m_tail n hn a2 a3
  refine ⟨M', t', ?_, b2, b3, a4.trans b4⟩
  unfold kDisp
  rw [if_neg (show ¬ (2 : Int32) = 0 by decide), if_neg (show ¬ (2 : Int32) = 1 by decide), if_pos rfl, a1, bd_ret]
  exact b1
theorem m_disp3 (n : Nat) (hn : 400 ≤ n) {M : Mem} {tp : List Nat} {s : Tk} {t : Tm} {E : Dr} (h : YS M tp t E) (hQ : QT (rdX tp s) t) (hj : E.R.2.2.1.length < 4) : LQ n M tp s E (kDisp n 3 M) (joS tp s) (joD tp s E) := by
  obtain ⟨M2, a1, a2, a3⟩ := m_readJoin n hn h hj
  obtain ⟨q1, q2⟩ := jo_Q (E := E) hQ
  obtain ⟨M', t', b1, b2, b3, b4⟩ := m_tail n hn (a2.cg q2) q1
  refine ⟨M', t', ?_, b2, b3, a3.trans b4⟩
  unfold kDisp
  rw [if_neg (show ¬ (3 : Int32) = 0 by decide), if_neg (show ¬ (3 : Int32) = 1 by decide), if_neg (show ¬ (3 : Int32) = 2 by decide), if_pos rfl, a1, bd_ret]
  exact b1
theorem m_disp4 (n : Nat) (hn : 400 ≤ n) {M : Mem} {tp : List Nat} {s : Tk} {t : Tm} {E : Dr} (hE : VE E) (h : YS M tp t E) (hQ : QT (rdX tp s) t) (hj : E.R.2.2.2.1.length < 16) : LQ n M tp s E (kDisp n 4 M) (paS tp s) (haD tp s E) := by
  obtain ⟨M2, a1, a2, a3⟩ := m_readHand n hn h hE.1.2.2.2.2.2.2.2.1
  obtain ⟨q1, q2⟩ := pa_Q (E := E) hQ
  have c15 := h.2.2.2.1.1.2.2.2.1
  obtain ⟨y1, y2, y3, y4⟩ := a2.2.2.2.1
  obtain ⟨x1, x2, x3, x4, x5, x6, x7, x8, x9, x10⟩ := y1
  have x4 : M2.1 0 15 = nI E.R.2.2.2.1.length := x4
  have un : kDisp n 4 M = kTail n (si (si M2 9 E.R.2.2.2.1.length (nI (if (mhT tp t).1 = 0 then prN (vaM (mhA t)) (vaM (mhB tp t)) else 0))) 0 15 (nI (E.R.2.2.2.1.length + 1))) := by
    unfold kDisp
    rw [if_neg (show ¬ (4 : Int32) = 0 by decide), if_neg (show ¬ (4 : Int32) = 1 by decide), if_neg (show ¬ (4 : Int32) = 2 by decide), if_neg (show ¬ (4 : Int32) = 3 by decide), if_pos rfl, a1, bd_ret, c15, gd_in (vp_in_nI (n := E.R.2.2.2.1.length) hj (by decide)), nI_clamp (by omega), nm_eq, si_ne (Or.inl (by decide)), x4, nI_1]
  generalize hv : (if (mhT tp t).1 = 0 then prN (vaM (mhA t)) (vaM (mhB tp t)) else 0) = v at un
  have f1 : Fr (fun c k => (c = 9 ∧ k = E.R.2.2.2.1.length) ∨ (c = 0 ∧ k = 15)) M2 (si (si M2 9 E.R.2.2.2.1.length (nI v)) 0 15 (nI (E.R.2.2.2.1.length + 1))) := (Fr.si (Or.inl ⟨rfl, rfl⟩)).trans (Fr.si (Or.inr ⟨rfl, rfl⟩))
  have e9 : ∀ a k, ¬ ((a = 9 ∧ k = E.R.2.2.2.1.length) ∨ (a = 0 ∧ k = 15)) → (si (si M2 9 E.R.2.2.2.1.length (nI v)) 0 15 (nI (E.R.2.2.2.1.length + 1))).1 a k = M2.1 a k := fun a k q => (f1 a k q).1
  have hW := a2.2.2.2.2
  have hY : YW (si (si M2 9 E.R.2.2.2.1.length (nI v)) 0 15 (nI (E.R.2.2.2.1.length + 1))) tp (mhT tp t) ((E.R.1, E.R.2.1, E.R.2.2.1, E.R.2.2.2.1 ++ [v], E.R.2.2.2.2), (mhD tp t E).2) := a2.w.wr f1 (fun c k q => by omega) (fun _ => ⟨⟨⟨by rw [e9 _ _ (by omega)]; exact x1, by rw [e9 _ _ (by omega)]; exact x2, by rw [e9 _ _ (by omega)]; exact x3, by
    rw [si_at]
    show nI (E.R.2.2.2.1.length + 1) = nI (E.R.2.2.2.1 ++ [v]).length
    rw [List.length_append]; rfl, by rw [e9 _ _ (by omega)]; exact x5, fun j q hq => by rw [e9 _ _ (by omega), e9 _ _ (by omega), e9 _ _ (by omega)]; exact x6 j q hq, list_snoc x7 (fun k hk => e9 9 k (by show ¬ ((9 = 9 ∧ k = E.R.2.2.2.1.length) ∨ (9 = 0 ∧ k = 15)); have : k < E.R.2.2.2.1.length := hk; omega)) (by show (si (si M2 9 E.R.2.2.2.1.length (nI v)) 0 15 (nI (E.R.2.2.2.1.length + 1))).1 9 E.R.2.2.2.1.length = nI v; rw [si_ne (Or.inl (by decide)), si_at]), fun i h hi => by rw [e9 _ _ (by omega)]; exact x8 i h hi, x9.fr hW f1 (fun k _ _ q => by omega), fun p hp => by rw [e9 _ _ (by omega)]; exact x10 p hp⟩, fun p hp => by rw [e9 _ _ (by omega)]; exact y2 p hp, by rw [e9 _ _ (by omega)]; exact y3, by rw [e9 _ _ (by omega)]; exact y4⟩, hW⟩)
  obtain ⟨M', t', b1, b2, b3, b4⟩ := m_tail n hn hY q1
  have b3 : QT (rdX tp (paS tp s)) t' := b3
  refine ⟨M', t', by rw [un]; exact b1, b2.cg (fun q => ?_), b3, (a3.trans (f1.mono (fun c k q => by unfold yd; omega))).trans b4⟩
  have p0 := rd_0 ((Q_0 b3).mpr q)
  have s0 := (tkS_0 (show (tkS tp (rfs (decide (vaN 0 (paB tp s) = vaN 0 (paA tp s))) 4 (paB tp s))).1 = 0 from p0))
  have r0 : (rdX tp (rfs (decide (vaN 0 (paB tp s) = vaN 0 (paA tp s))) 4 (paB tp s))).1 = 0 := by
    rw [← s0.2.2]
    exact p0
  have m0 := (Q_0 q1).mp r0
  obtain ⟨g1, g2, g3⟩ := q2 m0
  unfold haD
  have ev : v = paV tp s := by
    rw [← hv, if_pos m0, g2, g3]
    unfold paV
    rw [if_pos p0]
  rw [ev, g1]
theorem m_disp5 (n : Nat) (hn : 400 ≤ n) {M : Mem} {tp : List Nat} {s : Tk} {t : Tm} {E : Dr} (hE : VE E) (h : YS M tp t E) (hQ : QT (rdX tp s) t) (hj : E.R.2.2.2.2.length < 8) : LQ n M tp s E (kDisp n 5 M) (paS tp s) (daD tp s E) := by
  obtain ⟨M2, a1, a2, a3⟩ := m_readHand n hn h hE.1.2.2.2.2.2.2.2.1
  obtain ⟨q1, q2⟩ := pa_Q (E := E) hQ
  have c15 := h.2.2.2.1.1.2.2.2.2.1
  obtain ⟨y1, y2, y3, y4⟩ := a2.2.2.2.1
  obtain ⟨x1, x2, x3, x4, x5, x6, x7, x8, x9, x10⟩ := y1
  have x5 : M2.1 0 16 = nI E.R.2.2.2.2.length := x5
  have un : kDisp n 5 M = kTail n (si (si M2 10 E.R.2.2.2.2.length (nI (if (mhT tp t).1 = 0 then prN (vaM (mhA t)) (vaM (mhB tp t)) else 0))) 0 16 (nI (E.R.2.2.2.2.length + 1))) := by
    unfold kDisp
    rw [if_neg (show ¬ (5 : Int32) = 0 by decide), if_neg (show ¬ (5 : Int32) = 1 by decide), if_neg (show ¬ (5 : Int32) = 2 by decide), if_neg (show ¬ (5 : Int32) = 3 by decide), if_neg (show ¬ (5 : Int32) = 4 by decide), if_pos rfl, a1, bd_ret, c15, gd_in (vp_in_nI (n := E.R.2.2.2.2.length) hj (by decide)), nI_clamp (by omega), nm_eq, si_ne (Or.inl (by decide)), x5, nI_1]
  generalize hv : (if (mhT tp t).1 = 0 then prN (vaM (mhA t)) (vaM (mhB tp t)) else 0) = v at un
  have f1 : Fr (fun c k => (c = 10 ∧ k = E.R.2.2.2.2.length) ∨ (c = 0 ∧ k = 16)) M2 (si (si M2 10 E.R.2.2.2.2.length (nI v)) 0 16 (nI (E.R.2.2.2.2.length + 1))) := (Fr.si (Or.inl ⟨rfl, rfl⟩)).trans (Fr.si (Or.inr ⟨rfl, rfl⟩))
  have e9 : ∀ a k, ¬ ((a = 10 ∧ k = E.R.2.2.2.2.length) ∨ (a = 0 ∧ k = 16)) → (si (si M2 10 E.R.2.2.2.2.length (nI v)) 0 16 (nI (E.R.2.2.2.2.length + 1))).1 a k = M2.1 a k := fun a k q => (f1 a k q).1
  have hW := a2.2.2.2.2
  have hY : YW (si (si M2 10 E.R.2.2.2.2.length (nI v)) 0 16 (nI (E.R.2.2.2.2.length + 1))) tp (mhT tp t) ((E.R.1, E.R.2.1, E.R.2.2.1, E.R.2.2.2.1, E.R.2.2.2.2 ++ [v]), (mhD tp t E).2) := a2.w.wr f1 (fun c k q => by omega) (fun _ => ⟨⟨⟨by rw [e9 _ _ (by omega)]; exact x1, by rw [e9 _ _ (by omega)]; exact x2, by rw [e9 _ _ (by omega)]; exact x3, by rw [e9 _ _ (by omega)]; exact x4, by
    rw [si_at]
    show nI (E.R.2.2.2.2.length + 1) = nI (E.R.2.2.2.2 ++ [v]).length
    rw [List.length_append]; rfl, fun j q hq => by rw [e9 _ _ (by omega), e9 _ _ (by omega), e9 _ _ (by omega)]; exact x6 j q hq, fun i h hi => by rw [e9 _ _ (by omega)]; exact x7 i h hi, list_snoc x8 (fun k hk => e9 10 k (by show ¬ ((10 = 10 ∧ k = E.R.2.2.2.2.length) ∨ (10 = 0 ∧ k = 16)); have : k < E.R.2.2.2.2.length := hk; omega)) (by show (si (si M2 10 E.R.2.2.2.2.length (nI v)) 0 16 (nI (E.R.2.2.2.2.length + 1))).1 10 E.R.2.2.2.2.length = nI v; rw [si_ne (Or.inl (by decide)), si_at]), x9.fr hW f1 (fun k _ _ q => by omega), fun p hp => by rw [e9 _ _ (by omega)]; exact x10 p hp⟩, fun p hp => by rw [e9 _ _ (by omega)]; exact y2 p hp, by rw [e9 _ _ (by omega)]; exact y3, by rw [e9 _ _ (by omega)]; exact y4⟩, hW⟩)
  obtain ⟨M', t', b1, b2, b3, b4⟩ := m_tail n hn hY q1
  have b3 : QT (rdX tp (paS tp s)) t' := b3
  refine ⟨M', t', by rw [un]; exact b1, b2.cg (fun q => ?_), b3, (a3.trans (f1.mono (fun c k q => by unfold yd; omega))).trans b4⟩
  have p0 := rd_0 ((Q_0 b3).mpr q)
  have s0 := (tkS_0 (show (tkS tp (rfs (decide (vaN 0 (paB tp s) = vaN 0 (paA tp s))) 4 (paB tp s))).1 = 0 from p0))
  have r0 : (rdX tp (rfs (decide (vaN 0 (paB tp s) = vaN 0 (paA tp s))) 4 (paB tp s))).1 = 0 := by
    rw [← s0.2.2]
    exact p0
  have m0 := (Q_0 q1).mp r0
  obtain ⟨g1, g2, g3⟩ := q2 m0
  unfold daD
  have ev : v = paV tp s := by
    rw [← hv, if_pos m0, g2, g3]
    unfold paV
    rw [if_pos p0]
  rw [ev, g1]
