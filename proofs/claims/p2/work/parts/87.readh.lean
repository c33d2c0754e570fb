/-! THE TEXT: numbers, hands, joins in the reference -/
theorem YS.rnum (n : Nat) (hn : 400 ≤ n) {M : Mem} {tp : List Nat} {t : Tm} {E : Dr} (h : YS M tp t E) (lo hi : Nat) (hl : lo < 2 ^ 31) (hh : hi < 2 ^ 31) : ∃ M', X_Model_readNumber n (nI lo) (nI hi) M = some (nI (vaM (lkN lo hi t)), M') ∧ YS M' tp (rdM tp (lkN lo hi t)) E ∧ Fr mt M M' := by
  obtain ⟨M2, a1, a2, a3⟩ := h.look n lo hi hl hh
  obtain ⟨M4, b1, b2, b3⟩ := a2.nxt n hn
  refine ⟨M4, ?_, b2, a3.trans b3⟩
  unfold X_Model_readNumber
  rw [a1, bd_ret, b1, bd_ret]
def mhA (t : Tm) : Tm := lkN 0 5 t
def mhB (tp : List Nat) (t : Tm) : Tm := lkN 0 5 (rdM tp (mhA t))
def mhT (tp : List Nat) (t : Tm) : Tm := rdM tp (ned (decide (vaM (mhA t) ≠ vaM (mhB tp t))) 4 (mhB tp t))
def mhD (tp : List Nat) (t : Tm) (E : Dr) : Dr := (E.R, E.W, E.gl, E.pT, E.hT, E.kn, max (max E.hi (vaM (mhA t))) (vaM (mhB tp t)), E.lg)
theorem rdM_0 {tp : List Nat} {t : Tm} (h : (rdM tp t).1 = 0) : t.1 = 0 := by
  by_cases q : t.1 = 0
  · exact q
  · rw [rdM_bad q] at h; exact h
theorem m_readHand (n : Nat) (hn : 400 ≤ n) {M : Mem} {tp : List Nat} {t : Tm} {E : Dr} (h : YS M tp t E) (hh : E.hi < 6) : ∃ M', X_Model_readHand n M = some (nI (if (mhT tp t).1 = 0 then prN (vaM (mhA t)) (vaM (mhB tp t)) else 0), M') ∧ YS M' tp (mhT tp t) (mhD tp t E) ∧ Fr yd M M' := by
  obtain ⟨M2, a1, a2, a3⟩ := h.rnum n hn 0 5 (by decide) (by decide)
  obtain ⟨M4, b1, b2, b3⟩ := a2.look n 0 5 (by decide) (by decide)
  have a1 : X_Model_readNumber n 0 5 M = some (nI (vaM (mhA t)), M2) := a1
  have b1 : X_Model_looked n 0 5 M2 = some (nI (vaM (mhB tp t)), M4) := b1
  have b2 : YS M4 tp (mhB tp t) E := b2
  have va : vaM (mhA t) ≤ 5 := vaM_le
  have vb : vaM (mhB tp t) ≤ 5 := vaM_le
  have k36 : ∀ (N : Mem) (t2 : Tm), YS N tp t2 E → Fr yd M N → t2 = ned (decide (vaM (mhA t) ≠ vaM (mhB tp t))) 4 (mhB tp t) → ∃ M', (bd (X_Model_next n N) fun _ M7 => bd (X_Model_tells n (nI (vaM (mhA t))) M7) fun _ M9 => bd (X_Model_tells n (nI (vaM (mhB tp t))) M9) fun _ M11 => (if (M11.1 0 31) = 0 then bd (X_Model_pairOf n (nI (vaM (mhA t))) (nI (vaM (mhB tp t))) M11) fun r12 M13 => some (r12, M13) else some (0, M11))) = some (nI (if (mhT tp t).1 = 0 then prN (vaM (mhA t)) (vaM (mhB tp t)) else 0), M') ∧ YS M' tp (mhT tp t) (mhD tp t E) ∧ Fr yd M M' := by
    intro N t2 g1 g2 g3
    obtain ⟨M7, c1, c2, c3⟩ := g1.nxt n hn
    have et : rdM tp t2 = mhT tp t := by rw [g3]; rfl
    rw [et] at c2
    obtain ⟨M9, d1, d2, d3⟩ := m_tells n c2 (p := vaM (mhA t)) (by omega) hh
    obtain ⟨M11, e1, e2, e3⟩ := m_tells n d2 (p := vaM (mhB tp t)) (by omega) (by show max E.hi (vaM (mhA t)) < 6; omega)
    rw [c1, bd_ret, d1, bd_ret, e1, bd_ret, e2.2.2.1.1]
    have fa := ((g2.trans (mt_yd c3)).trans d3).trans e3
    by_cases e0 : (mhT tp t).1 = 0
    · have h1 := rdM_0 (show (rdM tp (ned (decide (vaM (mhA t) ≠ vaM (mhB tp t))) 4 (mhB tp t))).1 = 0 from e0)
      have h2 := of_decide_eq_true (ned_0 (by decide) h1).2.1
      rw [if_pos (show nI (mhT tp t).1 = 0 by rw [e0]; rfl), m_pairOf n (by omega) (by omega) h2, bd_ret, if_pos e0]
      exact ⟨M11, rfl, e2, fa⟩
    · rw [if_neg (fun q => e0 ((i_z (by have := e2.2.1.1; omega)).mp q)), if_neg e0]
      exact ⟨M11, rfl, e2, fa⟩
  have f4 := (mt_yd a3).trans (mt_yd b3)
  have un : X_Model_readHand n M = (if (M4.1 0 31) = 0 then (bd (X_Model_needs n (if nI (vaM (mhA t)) = nI (vaM (mhB tp t)) then 0 else 1) 4 M4) fun _ M16 => (bd (X_Model_next n M16) fun _ M7 => bd (X_Model_tells n (nI (vaM (mhA t))) M7) fun _ M9 => bd (X_Model_tells n (nI (vaM (mhB tp t))) M9) fun _ M11 => (if (M11.1 0 31) = 0 then bd (X_Model_pairOf n (nI (vaM (mhA t))) (nI (vaM (mhB tp t))) M11) fun r12 M13 => some (r12, M13) else some (0, M11)))) else (bd (X_Model_next n M4) fun _ M7 => bd (X_Model_tells n (nI (vaM (mhA t))) M7) fun _ M9 => bd (X_Model_tells n (nI (vaM (mhB tp t))) M9) fun _ M11 => (if (M11.1 0 31) = 0 then bd (X_Model_pairOf n (nI (vaM (mhA t))) (nI (vaM (mhB tp t))) M11) fun r12 M13 => some (r12, M13) else some (0, M11)))) := by
    unfold X_Model_readHand
    rw [a1, bd_ret, b1, bd_ret, nm_eq, nm_eq]
    by_cases e : nI (vaM (mhA t)) = nI (vaM (mhB tp t))
    · rw [if_pos e, if_pos e]
    · rw [if_neg e, if_neg e]
  rw [un, b2.2.2.1.1]
  by_cases e : (mhB tp t).1 = 0
  · rw [if_pos (show nI (mhB tp t).1 = 0 by rw [e]; rfl)]
    obtain ⟨M16, c1, c2, c3⟩ := b2.need n (p1 := if nI (vaM (mhA t)) = nI (vaM (mhB tp t)) then 0 else 1) (ok := decide (vaM (mhA t) ≠ vaM (mhB tp t))) (by
      by_cases q : vaM (mhA t) = vaM (mhB tp t)
      · rw [if_pos (by rw [q]), decide_eq_false (fun r => r q)]; decide
      · rw [if_neg (fun r => q ((nI_eq (by omega) (by omega)).mp r)), decide_eq_true q]; decide) 4 (by decide)
    rw [show X_Model_needs n (if nI (vaM (mhA t)) = nI (vaM (mhB tp t)) then 0 else 1) 4 M4 = _ from c1, bd_ret]
    exact k36 M16 _ c2 (f4.trans (mt_yd c3)) rfl
  · rw [if_neg (fun q => e ((i_z (by have := b2.2.1.1; omega)).mp q))]
    exact k36 M4 _ b2 f4 (ned_bad e).symm
-- a draft that counts as long as there is no fault
def YW (M : Mem) (tp : List Nat) (t : Tm) (E : Dr) : Prop := MTp M tp ∧ OkM tp t ∧ MT M t ∧ (t.1 = 0 → YD M E ∧ OkW E.W)
theorem YS.w {M : Mem} {tp : List Nat} {t : Tm} {E : Dr} (h : YS M tp t E) : YW M tp t E := ⟨h.1, h.2.1, h.2.2.1, fun _ => h.2.2.2⟩
theorem YW.nxt (n : Nat) (hn : 400 ≤ n) {M : Mem} {tp : List Nat} {t : Tm} {E : Dr} (h : YW M tp t E) : ∃ M', X_Model_next n M = some ((), M') ∧ YW M' tp (rdM tp t) E ∧ Fr mt M M' := by
  obtain ⟨M', a1, a2, a3⟩ := m_next n hn h.1 h.2.1.1 h.2.1.2.1 h.2.2.1
  exact ⟨M', a1, ⟨h.1.fr a3 (fun c k q => by unfold mt at q; omega), rdM_ok h.2.1, a2, fun q => ⟨(h.2.2.2 (rdM_0 q)).1.mt (h.2.2.2 (rdM_0 q)).2 a3, (h.2.2.2 (rdM_0 q)).2⟩⟩, a3⟩
theorem YW.need (n : Nat) {M : Mem} {tp : List Nat} {t : Tm} {E : Dr} (h : YW M tp t E) {p1 : Int32} {ok : Bool} (hok : p1 = 0 ↔ ok = false) (f : Nat) (hf : 0 < f ∧ f < 8) : ∃ M', X_Model_needs n p1 (nI f) M = some ((), M') ∧ YW M' tp (ned ok f t) E ∧ Fr mt M M' := by
  obtain ⟨M', a1, a2, a3⟩ := m_needs n hok f h.2.1.1 h.2.2.1
  exact ⟨M', a1, ⟨h.1.fr a3 (fun c k q => by unfold mt at q; omega), ned_okM hf h.2.1, a2, fun q => ⟨(h.2.2.2 (ned_0 hf.1 q).1).1.mt (h.2.2.2 (ned_0 hf.1 q).1).2 a3, (h.2.2.2 (ned_0 hf.1 q).1).2⟩⟩, a3⟩
def mjA (t : Tm) : Tm := lkN 0 15 t
def mjB (tp : List Nat) (t : Tm) : Tm := lkN 0 15 (rdM tp (mjA t))
def mjC (tp : List Nat) (t : Tm) : Tm := lkN 0 15 (rdM tp (ned (decide (vaM (mjB tp t) ≠ vaM (mjA t))) 4 (mjB tp t)))
def mjT (tp : List Nat) (t : Tm) : Tm := rdM tp (ned (decide (vaM (mjC tp t) ≠ vaM (mjA t) ∧ vaM (mjC tp t) ≠ vaM (mjB tp t))) 4 (mjC tp t))
def mjD (tp : List Nat) (t : Tm) (E : Dr) : Dr := ((E.R.1, E.R.2.1, E.R.2.2.1 ++ [(vaM (mjA t), vaM (mjB tp t), vaM (mjC tp t))], E.R.2.2.2), E.2)
theorem m_readJoin (n : Nat) (hn : 400 ≤ n) {M : Mem} {tp : List Nat} {t : Tm} {E : Dr} (h : YS M tp t E) (hj : E.R.2.2.1.length < 4) : ∃ M', X_Model_readJoin n M = some ((), M') ∧ YW M' tp (mjT tp t) (mjD tp t E) ∧ Fr yd M M' := by
  obtain ⟨M2, a1, a2, a3⟩ := h.rnum n hn 0 15 (by decide) (by decide)
  obtain ⟨M4, b1, b2, b3⟩ := a2.look n 0 15 (by decide) (by decide)
  have a1 : X_Model_readNumber n 0 15 M = some (nI (vaM (mjA t)), M2) := a1
  have b1 : X_Model_looked n 0 15 M2 = some (nI (vaM (mjB tp t)), M4) := b1
  have b2 : YS M4 tp (mjB tp t) E := b2
  have va : vaM (mjA t) ≤ 15 := vaM_le
  have vb : vaM (mjB tp t) ≤ 15 := vaM_le
  have vc : vaM (mjC tp t) ≤ 15 := vaM_le
  have f4 := (mt_yd a3).trans (mt_yd b3)
  have k77 : ∀ (N : Mem) (t2 : Tm), YS N tp t2 E → Fr yd M N → rdM tp t2 = mjT tp t → ∃ M', (bd (X_Model_next n N) fun _ M12 => nm (fun (M13 : Mem) => (some ((), si M13 0 14 ((M13.1 0 14) + 1)) : Option (Unit × Mem))) fun k128 => (if (M12.1 0 31) = 0 then gd ((3 : Int32) * (M12.1 0 14)) 12 (nm (si M12 8 (((3 : Int32) * (M12.1 0 14)).toNatClampNeg) (nI (vaM (mjA t)))) fun N14 => gd (((3 : Int32) * (N14.1 0 14)) + 1) 12 (nm (si N14 8 ((((3 : Int32) * (N14.1 0 14)) + 1).toNatClampNeg) (nI (vaM (mjB tp t)))) fun N15 => gd (((3 : Int32) * (N15.1 0 14)) + 2) 12 (k128 (si N15 8 ((((3 : Int32) * (N15.1 0 14)) + 2).toNatClampNeg) (nI (vaM (mjC tp t))))))) else k128 M12)) = some ((), M') ∧ YW M' tp (mjT tp t) (mjD tp t E) ∧ Fr yd M M' := by
    intro N t2 g1 g2 g3
    obtain ⟨M12, c1, c2, c3⟩ := g1.nxt n hn
    rw [g3] at c2
    have f12 := g2.trans (mt_yd c3)
    rw [c1, bd_ret, nm_eq, c2.2.2.1.1]
    obtain ⟨d1, d2, d3, d4, d5, d6, d7, d8, d9, d10⟩ := c2.2.2.2.1.1
    generalize hL : E.R.2.2.1.length = L at hj d3
    by_cases e0 : (mjT tp t).1 = 0
    · rw [if_pos (show nI (mjT tp t).1 = 0 by rw [e0]; rfl), nm_eq, d3, show (3 : Int32) = nI 3 from rfl, pk_mul, gd_in (vp_in_nI (n := 3 * L) (by omega) (by decide)), nI_clamp (show 3 * L < 2 ^ 31 by omega), si_ne (Or.inl (by decide)), d3, pk_mul, nI_1, gd_in (vp_in_nI (n := 3 * L + 1) (by omega) (by decide)), nI_clamp (show 3 * L + 1 < 2 ^ 31 by omega), nm_eq, si_ne (Or.inl (by decide)), si_ne (Or.inl (by decide)), d3, pk_mul, show (2 : Int32) = nI 2 from rfl, nI_add, gd_in (vp_in_nI (n := 3 * L + 2) (by omega) (by decide)), nI_clamp (show 3 * L + 2 < 2 ^ 31 by omega)]
      dsimp only
      rw [si_ne (Or.inl (by decide)), si_ne (Or.inl (by decide)), si_ne (Or.inl (by decide)), d3, nI_1]
      generalize hN : si (si (si M12 8 (3 * L) (nI (vaM (mjA t)))) 8 (3 * L + 1) (nI (vaM (mjB tp t)))) 8 (3 * L + 2) (nI (vaM (mjC tp t))) = N16
      have g12 : Fr (fun c k => c = 8 ∧ 3 * L ≤ k) M12 N16 := by rw [← hN]; exact ((Fr.si ⟨rfl, by omega⟩).trans (Fr.si ⟨rfl, by omega⟩)).trans (Fr.si ⟨rfl, by omega⟩)
      have g13 : Fr (fun c k => (c = 8 ∧ 3 * L ≤ k) ∨ (c = 0 ∧ k = 14)) M12 (si N16 0 14 (nI (L + 1))) := (g12.mono (fun c k q => Or.inl q)).trans (Fr.si (Or.inr ⟨rfl, rfl⟩))
      have e9 : ∀ a k, ¬ ((a = 8 ∧ 3 * L ≤ k) ∨ (a = 0 ∧ k = 14)) → (si N16 0 14 (nI (L + 1))).1 a k = M12.1 a k := fun a k q => (g13 a k q).1
      have v0 : (si N16 0 14 (nI (L + 1))).1 8 (3 * L) = nI (vaM (mjA t)) := by rw [si_ne (Or.inl (by decide)), ← hN, si_ne (Or.inr (by omega)), si_ne (Or.inr (by omega)), si_at]
      have v1 : (si N16 0 14 (nI (L + 1))).1 8 (3 * L + 1) = nI (vaM (mjB tp t)) := by rw [si_ne (Or.inl (by decide)), ← hN, si_ne (Or.inr (by omega)), si_at]
      have v2 : (si N16 0 14 (nI (L + 1))).1 8 (3 * L + 2) = nI (vaM (mjC tp t)) := by rw [si_ne (Or.inl (by decide)), ← hN, si_at]
      have hs : YS (si N16 0 14 (nI (L + 1))) tp (mjT tp t) (mjD tp t E) := c2.wr g13 (fun c k q => by omega) ⟨⟨by rw [e9 _ _ (by omega)]; exact d1, by rw [e9 _ _ (by omega)]; exact d2, by
        rw [si_at]
        show nI (L + 1) = nI (E.R.2.2.1 ++ [(vaM (mjA t), vaM (mjB tp t), vaM (mjC tp t))]).length
        rw [List.length_append, hL]; rfl, by rw [e9 _ _ (by omega)]; exact d4, by rw [e9 _ _ (by omega)]; exact d5, joins_snoc d6 (fun k hk => e9 8 k (by omega)) (by rw [hL]; exact v0) (by rw [hL]; exact v1) (by rw [hL]; exact v2), fun i h hi => by rw [e9 _ _ (by omega)]; exact d7 i h hi, fun i h hi => by rw [e9 _ _ (by omega)]; exact d8 i h hi, d9.fr c2.2.2.2.2 g13 (fun k _ _ q => by omega), fun p hp => by rw [e9 _ _ (by omega)]; exact d10 p hp⟩, fun p hp => by rw [e9 _ _ (by omega)]; exact c2.2.2.2.1.2.1 p hp, by rw [e9 _ _ (by omega)]; exact c2.2.2.2.1.2.2.1, by rw [e9 _ _ (by omega)]; exact c2.2.2.2.1.2.2.2⟩ c2.2.2.2.2
      exact ⟨_, rfl, hs.w, f12.trans (g13.mono (fun a k q => by unfold yd; omega))⟩
    · rw [if_neg (fun q => e0 ((i_z (by have := c2.2.1.1; omega)).mp q))]
      have g13 : Fr (fun c k => c = 0 ∧ k = 14) M12 (si M12 0 14 ((M12.1 0 14) + 1)) := Fr.si ⟨rfl, rfl⟩
      exact ⟨_, rfl, ⟨c2.1.fr g13 (fun c k q => by omega), c2.2.1, c2.2.2.1.nt g13 (fun k q => by omega), fun q => absurd q e0⟩, f12.trans (g13.mono (fun a k q => by unfold yd; omega))⟩
  have k38 : ∀ (N : Mem) (t2 : Tm), YS N tp t2 E → Fr yd M N → t2 = ned (decide (vaM (mjB tp t) ≠ vaM (mjA t))) 4 (mjB tp t) → ∃ M', (bd (X_Model_next n N) fun _ M7 => bd (X_Model_looked n 0 15 M7) fun r8 M9 => nm (fun (M10 : Mem) => (bd (X_Model_next n M10) fun _ M12 => nm (fun (M13 : Mem) => (some ((), si M13 0 14 ((M13.1 0 14) + 1)) : Option (Unit × Mem))) fun k128 => (if (M12.1 0 31) = 0 then gd ((3 : Int32) * (M12.1 0 14)) 12 (nm (si M12 8 (((3 : Int32) * (M12.1 0 14)).toNatClampNeg) (nI (vaM (mjA t)))) fun N14 => gd (((3 : Int32) * (N14.1 0 14)) + 1) 12 (nm (si N14 8 ((((3 : Int32) * (N14.1 0 14)) + 1).toNatClampNeg) (nI (vaM (mjB tp t)))) fun N15 => gd (((3 : Int32) * (N15.1 0 14)) + 2) 12 (k128 (si N15 8 ((((3 : Int32) * (N15.1 0 14)) + 2).toNatClampNeg) r8)))) else k128 M12) : Option (Unit × Mem))) fun k77 => (if (M9.1 0 31) = 0 then nm (fun (u16 : Int32) => (bd (X_Model_needs n u16 4 M9) fun _ M18 => k77 M18 : Option (Unit × Mem))) fun k73 => (if r8 = nI (vaM (mjA t)) then k73 0 else (if r8 = nI (vaM (mjB tp t)) then k73 0 else k73 1)) else k77 M9)) = some ((), M') ∧ YW M' tp (mjT tp t) (mjD tp t E) ∧ Fr yd M M' := by
    intro N t2 g1 g2 g3
    obtain ⟨M7, c1, c2, c3⟩ := g1.nxt n hn
    obtain ⟨M9, d1, d2, d3⟩ := c2.look n 0 15 (by decide) (by decide)
    have et : lkN 0 15 (rdM tp t2) = mjC tp t := by rw [g3]; rfl
    rw [et] at d1 d2
    have f9 := (g2.trans (mt_yd c3)).trans (mt_yd d3)
    rw [c1, bd_ret, show X_Model_looked n 0 15 M7 = _ from d1, bd_ret, nm_eq, nm_eq, d2.2.2.1.1]
    by_cases e : (mjC tp t).1 = 0
    · rw [if_pos (show nI (mjC tp t).1 = 0 by rw [e]; rfl)]
      have go : ∀ (p1 : Int32), (p1 = 0 ↔ decide (vaM (mjC tp t) ≠ vaM (mjA t) ∧ vaM (mjC tp t) ≠ vaM (mjB tp t)) = false) → ∃ M', (bd (X_Model_needs n p1 4 M9) fun _ M18 => (bd (X_Model_next n M18) fun _ M12 => nm (fun (M13 : Mem) => (some ((), si M13 0 14 ((M13.1 0 14) + 1)) : Option (Unit × Mem))) fun k128 => (if (M12.1 0 31) = 0 then gd ((3 : Int32) * (M12.1 0 14)) 12 (nm (si M12 8 (((3 : Int32) * (M12.1 0 14)).toNatClampNeg) (nI (vaM (mjA t)))) fun N14 => gd (((3 : Int32) * (N14.1 0 14)) + 1) 12 (nm (si N14 8 ((((3 : Int32) * (N14.1 0 14)) + 1).toNatClampNeg) (nI (vaM (mjB tp t)))) fun N15 => gd (((3 : Int32) * (N15.1 0 14)) + 2) 12 (k128 (si N15 8 ((((3 : Int32) * (N15.1 0 14)) + 2).toNatClampNeg) (nI (vaM (mjC tp t))))))) else k128 M12))) = some ((), M') ∧ YW M' tp (mjT tp t) (mjD tp t E) ∧ Fr yd M M' := fun p1 hp1 => by
        obtain ⟨M18, i1, i2, i3⟩ := d2.need n hp1 4 (by decide)
        rw [show X_Model_needs n p1 4 M9 = _ from i1, bd_ret]
        exact k77 M18 _ i2 (f9.trans (mt_yd i3)) rfl
      by_cases e1 : vaM (mjC tp t) = vaM (mjA t)
      · rw [if_pos (by rw [e1])]
        exact go 0 (by rw [decide_eq_false (fun q => q.1 e1)]; decide)
      · rw [if_neg (fun q => e1 ((nI_eq (by omega) (by omega)).mp q))]
        by_cases e2 : vaM (mjC tp t) = vaM (mjB tp t)
        · rw [if_pos (by rw [e2])]
          exact go 0 (by rw [decide_eq_false (fun q => q.2 e2)]; decide)
        · rw [if_neg (fun q => e2 ((nI_eq (by omega) (by omega)).mp q))]
          exact go 1 (by rw [decide_eq_true ⟨e1, e2⟩]; decide)
    · rw [if_neg (fun q => e ((i_z (by have := d2.2.1.1; omega)).mp q))]
      exact k77 M9 _ d2 f9 (by unfold mjT; rw [ned_bad e])
  unfold X_Model_readJoin
  rw [a1, bd_ret, b1, bd_ret, nm_eq, nm_eq, b2.2.2.1.1]
  by_cases e : (mjB tp t).1 = 0
  · rw [if_pos (show nI (mjB tp t).1 = 0 by rw [e]; rfl)]
    have go : ∀ (p1 : Int32), (p1 = 0 ↔ decide (vaM (mjB tp t) ≠ vaM (mjA t)) = false) → ∃ M16, X_Model_needs n p1 4 M4 = some ((), M16) ∧ YS M16 tp (ned (decide (vaM (mjB tp t) ≠ vaM (mjA t))) 4 (mjB tp t)) E ∧ Fr mt M4 M16 := fun p1 hp1 => b2.need n hp1 4 (by decide)
    by_cases e1 : vaM (mjB tp t) = vaM (mjA t)
    · obtain ⟨M16, i1, i2, i3⟩ := go 0 (by rw [decide_eq_false (fun q => q e1)]; decide)
      rw [if_pos (by rw [e1])]
      dsimp only
      rw [i1, bd_ret]
      exact k38 M16 _ i2 (f4.trans (mt_yd i3)) rfl
    · obtain ⟨M16, i1, i2, i3⟩ := go 1 (by rw [decide_eq_true e1]; decide)
      rw [if_neg (fun q => e1 ((nI_eq (by omega) (by omega)).mp q))]
      dsimp only
      rw [i1, bd_ret]
      exact k38 M16 _ i2 (f4.trans (mt_yd i3)) rfl
  · rw [if_neg (fun q => e ((i_z (by have := b2.2.1.1; omega)).mp q))]
    exact k38 M4 _ b2 f4 (ned_bad e).symm
