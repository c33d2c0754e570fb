/-! THE TEXT: knows, in the class -/
theorem RowAt.tk {M M' : Mem} {l : List Nat} (h : RowAt M 10 l) (f : Fr xt M M') : RowAt M' 10 l := ⟨by rw [(f 10 0 (fun q => by unfold xt at q; omega)).2]; exact h.1, by rw [(f 10 1 (fun q => by unfold xt at q; omega)).1]; exact h.2⟩
theorem XS.bd (n : Nat) {M : Mem} {tp : List Nat} {s : Tk} {D : Dr} (h : XS M tp s D) (hk : s.2.2.1 = 2) (lo hi : Nat) (hl : lo < 2 ^ 31) (hh : hi < 2 ^ 31) : ∃ M', X_Teller_boundedValue n (nI lo) (nI hi) M = some (nI (vaN lo (rfs (oob lo hi s.2.2.2.2) 3 s)), M') ∧ XS M' tp (rfs (oob lo hi s.2.2.2.2) 3 s) D ∧ Fr xt M M' := by
  obtain ⟨M', a1, a2, a3⟩ := x_bounded n hl hh h.2.1.1 (fun e => by have := h.2.1.2.2.1 e hk; omega) h.2.2.1
  exact ⟨M', a1, ⟨h.1.dr (xt_xd a3), rfs_ok (by decide) h.2.1, a2, h.2.2.2.tk a3⟩, a3⟩
def bd15 (s : Tk) : Tk := rfs (oob 0 15 s.2.2.2.2) 3 s
theorem bd15_le (s : Tk) : vaN 0 (bd15 s) ≤ 15 := by
  unfold vaN bd15
  by_cases e : (rfs (oob 0 15 s.2.2.2.2) 3 s).1 = 0
  · rw [if_pos e]
    obtain ⟨e1, e2, e3⟩ := rfs_0 (by decide) e
    rw [e3]
    have := of_decide_eq_false e2
    omega
  · rw [if_neg e]; decide
def rwL (tp : List Nat) : Nat → List Nat → Tk → List Nat × Tk
  | 0, l, s => (l, s)
  | k + 1, l, s => if s.1 = 0 ∧ s.2.2.1 = 2 then rwL tp k (thL l (vaN 0 (bd15 s))) (rdX tp (thS l (vaN 0 (bd15 s)) (bd15 s))) else (l, s)
theorem x_rowL (n : Nat) (hn : 400 ≤ n) {a1 : Int32} (kx : Mem → Option (Unit × Mem)) {tp : List Nat} {D : Dr} : ∀ k v f M l s, v + k = 10 → k < f → XS M tp s D → RowAt M 10 l → Ro l → l.length ≤ 9 → ∃ M', X_Teller_tellRow_L72 n a1 kx f (nI v) M = kx M' ∧ XS M' tp (rwL tp k l s).2 D ∧ RowAt M' 10 (rwL tp k l s).1 ∧ Ro (rwL tp k l s).1 ∧ (rwL tp k l s).1.length ≤ 9 ∧ Fr xd M M'
  | 0, v, f, M, l, s, h1, h2, hS, hM, hr, h9 => by
    obtain ⟨f, rfl⟩ : ∃ q, f = q + 1 := ⟨f - 1, by omega⟩
    refine ⟨M, ?_, hS, hM, hr, h9, Fr.rf⟩
    show (if (9 : Int32) < nI v then kx M else _) = _
    rw [if_pos (show (9 : Int32) < nI v from nI_lt (a := 9) (by omega) (by omega))]
  | k + 1, v, f, M, l, s, h1, h2, hS, hM, hr, h9 => by
    obtain ⟨f, rfl⟩ : ∃ q, f = q + 1 := ⟨f - 1, by omega⟩
    have un : X_Teller_tellRow_L72 n a1 kx (f + 1) (nI v) M = (if nI s.1 = 0 then (if nI s.2.2.1 = 2 then (bd (X_Teller_boundedValue n 0 15 M) fun r14 M15 => bd (X_Teller_tellThing n r14 M15) fun _ M17 => bd (X_Teller_readToken n M17) fun _ M19 => X_Teller_tellRow_L72 n a1 kx f (nI (v + 1)) M19) else kx M) else kx M) := by
      show (if (9 : Int32) < nI v then kx M else (if (M.1 3 3) = 0 then (if (M.1 3 7) = 2 then (bd (X_Teller_boundedValue n 0 15 M) fun r14 M15 => bd (X_Teller_tellThing n r14 M15) fun _ M17 => bd (X_Teller_readToken n M17) fun _ M19 => X_Teller_tellRow_L72 n a1 kx f (nI v + 1) M19) else kx M) else kx M)) = _
      rw [if_neg (show ¬ (9 : Int32) < nI v from Int32.not_lt.mpr (nI_le (b := 9) (by omega) (by decide))), hS.2.2.1.1, hS.2.2.1.2.2.1, nI_1]
    rw [un]
    unfold rwL
    by_cases e1 : s.1 = 0
    · rw [if_pos (show nI s.1 = 0 by rw [e1]; rfl)]
      by_cases e2 : s.2.2.1 = 2
      · rw [if_pos (show nI s.2.2.1 = 2 by rw [e2]; rfl), if_pos ⟨e1, e2⟩]
        obtain ⟨M15, b1, b2, b3⟩ := hS.bd n e2 0 15 (by decide) (by decide)
        have b1 : X_Teller_boundedValue n 0 15 M = some (nI (vaN 0 (bd15 s)), M15) := b1
        have b2 : XS M15 tp (bd15 s) D := b2
        have hb := bd15_le s
        obtain ⟨M17, c1, c2, c3, c4⟩ := x_thing n b2 (hM.tk b3) hr h9 (show vaN 0 (bd15 s) < 16 by omega)
        obtain ⟨r1, r2⟩ := thL_ok (t := vaN 0 (bd15 s)) hr h9 (by omega)
        obtain ⟨M19, d1, d2, d3⟩ := c2.rd n hn
        obtain ⟨M', g1, g2, g3, g4, g5, g6⟩ := x_rowL n hn kx k (v + 1) f M19 _ _ (by omega) (by omega) d2 (c3.tk d3) r1 r2
        refine ⟨M', ?_, g2, g3, g4, g5, (((xt_xd b3).trans c4).trans (xt_xd d3)).trans g6⟩
        rw [b1, bd_ret, c1, bd_ret, d1, bd_ret]
        exact g1
      · rw [if_neg (show ¬ nI s.2.2.1 = 2 from fun q => e2 ((nI_eq (b := 2) (by have := hS.2.1.2.2.2; omega) (by decide)).mp q)), if_neg (fun q => e2 q.2)]
        exact ⟨M, rfl, hS, hM, hr, h9, Fr.rf⟩
    · rw [if_neg (fun q => e1 ((i_z (by have := hS.2.1.1; omega)).mp q)), if_neg (fun q => e1 q.1)]
      exact ⟨M, rfl, hS, hM, hr, h9, Fr.rf⟩
def knA (tp : List Nat) (s : Tk) : Tk := tkN tp 0 5 s
def knB (tp : List Nat) (s : Tk) (D : Dr) : Tk := rfs (D.kn.testBit (vaN 0 (knA tp s))) 4 (knA tp s)
def knC (tp : List Nat) (s : Tk) (D : Dr) : Tk := tkN tp 0 15 (knB tp s D)
def knE (tp : List Nat) (s : Tk) (D : Dr) : List Nat × Tk := rwL tp 9 (thL [] (vaN 0 (knC tp s D))) (rdX tp (thS [] (vaN 0 (knC tp s D)) (knC tp s D)))
def knS (tp : List Nat) (s : Tk) (D : Dr) : Tk := rfs (decide ((knE tp s D).2.2.2.1 ≠ 3)) 2 (knE tp s D).2
def knD (tp : List Nat) (s : Tk) (D : Dr) : Dr := (D.R, updW D.W (vaN 0 (knA tp s)) (knE tp s D).1, D.gl, D.pT, D.hT, D.kn ||| 2 ^ vaN 0 (knA tp s), max D.hi (vaN 0 (knA tp s)), max D.lg (knE tp s D).1.length)
theorem enc_nil : enc [] = 0 := by decide +kernel
theorem take_nil (n : Nat) (M : Mem) : X_Row_take n 10 0 M = some ((), stR M 10 []) := by
  have h := row_take n (o := 10) (M := M) (l := []) ⟨List.nodup_nil, fun t q => absurd q List.not_mem_nil⟩ (by decide)
  rw [enc_nil] at h
  exact h
theorem x_row (n : Nat) (hn : 400 ≤ n) {M : Mem} {tp : List Nat} {s : Tk} {D : Dr} (hV : VD D) (h : XS M tp s D) : ∃ M', X_Teller_tellRow n M = some ((), M') ∧ XS M' tp (knS tp s D) (knD tp s D) ∧ Fr xd M M' ∧ Ro (knE tp s D).1 ∧ (knE tp s D).1.length ≤ 9 := by
  obtain ⟨M2, a1, a2, a3⟩ := h.num n hn 0 5 (by decide) (by decide)
  have a1 : X_Teller_takeNumber n 0 5 M = some (nI (vaN 0 (knA tp s)), M2) := a1
  have a2 : XS M2 tp (knA tp s) D := a2
  have hp : vaN 0 (knA tp s) ≤ 5 := (vaN_le (tp := tp) (s := s) (show 0 ≤ 5 by decide)).2
  have hkn := hV.2.2.2.2.2.2.1
  have hhi := hV.2.2.2.2.2.2.2.1
  have hlg := hV.2.2.2.2.2.2.2.2
  have k23 : ∀ (N : Mem), XS N tp (knB tp s D) D → Fr xd M N → ∃ M', (nm (si N 3 12 ((N.1 3 12) ||| ((1 : Int32) <<< (nI (vaN 0 (knA tp s)) &&& 31)))) fun N4 => nm (si N4 3 13 (if (N4.1 3 13) < nI (vaN 0 (knA tp s)) then nI (vaN 0 (knA tp s)) else (N4.1 3 13))) fun N5 => bd (X_Row_take n 10 0 N5) fun _ M7 => bd (X_Teller_takeNumber n 0 15 M7) fun r8 M9 => bd (X_Teller_tellThing n r8 M9) fun _ M11 => bd (X_Teller_readToken n M11) fun _ M13 => X_Teller_tellRow_L72 n (nI (vaN 0 (knA tp s))) (fun M20 => nm (fun (M21 : Mem) => (bd (X_Integer_bitCount n (M21.1 10 1) M21) fun r22 M23 => nm (si M23 3 14 (if (M21.1 3 14) < r22 then r22 else (M21.1 3 14))) fun N24 => bd (X_Row_atRest n 10 N24) fun r25 M26 => gd (nI (vaN 0 (knA tp s))) 6 (some ((), sl M26 9 ((nI (vaN 0 (knA tp s))).toNatClampNeg) r25)) : Option (Unit × Mem))) fun k127 => (if (M20.1 3 7) = 3 then k127 M20 else bd (X_Teller_refuse n 2 M20) fun _ M28 => k127 M28)) n 1 M13) = some ((), M') ∧ XS M' tp (knS tp s D) (knD tp s D) ∧ Fr xd M M' ∧ Ro (knE tp s D).1 ∧ (knE tp s D).1.length ≤ 9 := by
    intro N g1 g2
    have d3 := g1.2.2.2.2.2
    rw [nm_eq, nm_eq, d3.2.2.2.1, i_shl1 (by omega), i_or, si_ne (Or.inr (by decide)), d3.2.2.2.2.1, imax _ _ (by omega) (by omega)]
    generalize hN5 : si (si N 3 12 (nI (D.kn ||| 2 ^ vaN 0 (knA tp s)))) 3 13 (nI (max D.hi (vaN 0 (knA tp s)))) = N5
    have f5 : Fr (fun c k => c = 3 ∧ (k = 12 ∨ k = 13)) N N5 := by rw [← hN5]; exact (Fr.si ⟨rfl, Or.inl rfl⟩).trans (Fr.si ⟨rfl, Or.inr rfl⟩)
    have hS5 : XS N5 tp (knB tp s D) (D.R, D.W, D.gl, D.pT, D.hT, D.kn ||| 2 ^ vaN 0 (knA tp s), max D.hi (vaN 0 (knA tp s)), D.lg) := g1.wr f5 (fun c k q => by omega) ⟨g1.2.2.2.1.fr f5 (fun c k q => by omega), g1.2.2.2.2.1.fr f5 (fun k q => by omega), ⟨by rw [(f5 3 2 (by omega)).1]; exact d3.1, by rw [(f5 3 10 (by omega)).1]; exact d3.2.1, by rw [(f5 3 11 (by omega)).1]; exact d3.2.2.1, by rw [← hN5]; rfl, by rw [← hN5]; rfl, by rw [(f5 3 14 (by omega)).1]; exact d3.2.2.2.2.2⟩⟩
    obtain ⟨hS7, f7⟩ := hS5.st N5 []
    obtain ⟨M9, c1, c2, c3⟩ := hS7.num n hn 0 15 (by decide) (by decide)
    have c1 : X_Teller_takeNumber n 0 15 (stR N5 10 []) = some (nI (vaN 0 (knC tp s D)), M9) := c1
    have c2 : XS M9 tp (knC tp s D) _ := c2
    have ht : vaN 0 (knC tp s D) ≤ 15 := (vaN_le (tp := tp) (s := knB tp s D) (show 0 ≤ 15 by decide)).2
    have r0 : Ro ([] : List Nat) := ⟨List.nodup_nil, fun t q => absurd q List.not_mem_nil⟩
    obtain ⟨M11, e1, e2, e3, e4⟩ := x_thing n c2 ((stR_at N5 10 []).tk c3) r0 (by decide) (show vaN 0 (knC tp s D) < 16 by omega)
    obtain ⟨r1, r2⟩ := thL_ok (t := vaN 0 (knC tp s D)) r0 (by decide) (by omega)
    obtain ⟨M13, i1, i2, i3⟩ := e2.rd n hn
    generalize hkx : (fun M20 : Mem => nm (fun (M21 : Mem) => (bd (X_Integer_bitCount n (M21.1 10 1) M21) fun r22 M23 => nm (si M23 3 14 (if (M21.1 3 14) < r22 then r22 else (M21.1 3 14))) fun N24 => bd (X_Row_atRest n 10 N24) fun r25 M26 => gd (nI (vaN 0 (knA tp s))) 6 (some ((), sl M26 9 ((nI (vaN 0 (knA tp s))).toNatClampNeg) r25)) : Option (Unit × Mem))) fun k127 => (if (M20.1 3 7) = 3 then k127 M20 else bd (X_Teller_refuse n 2 M20) fun _ M28 => k127 M28)) = kx
    obtain ⟨M20, j1, j2, j3, j4, j5, j6⟩ := x_rowL n hn (a1 := nI (vaN 0 (knA tp s))) kx 9 1 n M13 _ _ rfl (by omega) i2 (e3.tk i3) r1 r2
    have j2 : XS M20 tp (knE tp s D).2 _ := j2
    have j3 : RowAt M20 10 (knE tp s D).1 := j3
    have j4 : Ro (knE tp s D).1 := j4
    have j5 : (knE tp s D).1.length ≤ 9 := j5
    have f20 := (((((g2.trans (f5.mono (fun c k q => by unfold xd; omega))).trans f7).trans (xt_xd c3)).trans e4).trans (xt_xd i3)).trans j6
    rw [take_nil n N5, bd_ret, c1, bd_ret, e1, bd_ret, i1, bd_ret, show X_Teller_tellRow_L72 n (nI (vaN 0 (knA tp s))) kx n 1 M13 = _ from j1, ← hkx]
    dsimp only
    rw [nm_eq]
    have k127 : ∀ (K : Mem), XS K tp (knS tp s D) (D.R, D.W, D.gl, D.pT, D.hT, D.kn ||| 2 ^ vaN 0 (knA tp s), max D.hi (vaN 0 (knA tp s)), D.lg) → RowAt K 10 (knE tp s D).1 → Fr xd M K → ∃ M', (bd (X_Integer_bitCount n (K.1 10 1) K) fun r22 M23 => nm (si M23 3 14 (if (K.1 3 14) < r22 then r22 else (K.1 3 14))) fun N24 => bd (X_Row_atRest n 10 N24) fun r25 M26 => gd (nI (vaN 0 (knA tp s))) 6 (some ((), sl M26 9 ((nI (vaN 0 (knA tp s))).toNatClampNeg) r25))) = some ((), M') ∧ XS M' tp (knS tp s D) (knD tp s D) ∧ Fr xd M M' ∧ Ro (knE tp s D).1 ∧ (knE tp s D).1.length ≤ 9 := by
      intro K m1 m2 m3
      have x3 := m1.2.2.2.2.2
      rw [m2.2, bitCount_eq n (knN_lt j4.2), pop_knN j4, bd_ret, nm_eq, show K.1 3 14 = nI D.lg from x3.2.2.2.2.2, imax _ _ (by omega) (by omega)]
      have fa : Fr (fun c k => c = 3 ∧ k = 14) K (si K 3 14 (nI (max D.lg (knE tp s D).1.length))) := Fr.si ⟨rfl, rfl⟩
      rw [row_atRest n (M := si K 3 14 (nI (max D.lg (knE tp s D).1.length))) (show RowAt _ 10 (knE tp s D).1 from ⟨m2.1, m2.2⟩) j4 j5, bd_ret, gd_in (vp_in_nI (n := vaN 0 (knA tp s)) (by omega) (by decide)), nI_clamp (by omega)]
      have fb : Fr (fun c k => (c = 3 ∧ k = 14) ∨ c = 9) K (sl (si K 3 14 (nI (max D.lg (knE tp s D).1.length))) 9 (vaN 0 (knA tp s)) (enc (knE tp s D).1)) := (fa.mono (fun c k q => Or.inl q)).trans (Fr.sl (Or.inr rfl))
      refine ⟨_, rfl, m1.wr fb (fun c k q => by omega) ⟨m1.2.2.2.1.fr fb (fun c k q => by omega), ?_, ⟨x3.1, x3.2.1, x3.2.2.1, x3.2.2.2.1, x3.2.2.2.2.1, rfl⟩⟩, m3.trans (fb.mono (fun c k q => by unfold xd; omega)), j4, j5⟩
      exact (m1.2.2.2.2.1.fr fa (fun k q => by omega)).upd _ _
    by_cases q3 : (knE tp s D).2.2.2.1 = 3
    · rw [if_pos (show M20.1 3 7 = 3 by rw [j2.2.2.1.2.2.1, q3]; rfl)]
      have es : knS tp s D = (knE tp s D).2 := by unfold knS; rw [decide_eq_false (fun q => q q3), rfs_f]
      exact k127 M20 (by rw [es]; exact j2) j3 f20
    · rw [if_neg (show ¬ M20.1 3 7 = 3 from fun q => q3 ((nI_eq (b := 3) (by have := j2.2.1.2.2.2; omega) (by decide)).mp (j2.2.2.1.2.2.1.symm.trans q)))]
      obtain ⟨M28, m1, m2, m3⟩ := j2.rf n 2 (by decide)
      rw [show X_Teller_refuse n 2 M20 = _ from m1, bd_ret]
      have es : knS tp s D = rfs true 2 (knE tp s D).2 := by unfold knS; rw [decide_eq_true q3]
      exact k127 M28 (by rw [es]; exact m2) (j3.tk m3) (f20.trans (xt_xd m3))
  unfold X_Teller_tellRow
  rw [a1, bd_ret, nm_eq, a2.2.2.2.2.2.2.2.2.1, b_iu (by omega) (by omega)]
  cases e : D.kn.testBit (vaN 0 (knA tp s)) with
  | false =>
    rw [if_pos (show nI (if false = true then 1 else 0) = 0 from rfl)]
    exact k23 M2 (by unfold knB; rw [e, rfs_f]; exact a2) (xt_xd a3)
  | true =>
    rw [if_neg (show ¬ nI (if true = true then 1 else 0) = 0 by decide)]
    obtain ⟨M3, b1, b2, b3⟩ := a2.rf n 4 (by decide)
    rw [show X_Teller_refuse n 4 M2 = _ from b1, bd_ret]
    exact k23 M3 (by unfold knB; rw [e]; exact b2) ((xt_xd a3).trans (xt_xd b3))
