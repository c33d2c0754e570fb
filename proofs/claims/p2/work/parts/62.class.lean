/-! SEARCH: the class's rows of hands -/
def xQ : List Nat := [15, 26, 27, 28, 30, 31, 32, 33, 34, 35, 36]
theorem xQ_in {a : Nat} (h : a ∈ xQ) : a = 15 ∨ (26 ≤ a ∧ a ≤ 28) ∨ (30 ≤ a ∧ a ≤ 36) := by
  simp only [xQ, List.mem_cons, List.not_mem_nil, or_false] at h
  omega
theorem xQ_of {a : Nat} (h : a = 15 ∨ (26 ≤ a ∧ a ≤ 28) ∨ (30 ≤ a ∧ a ≤ 36)) : a ∈ xQ := by
  simp only [xQ, List.mem_cons, List.not_mem_nil, or_false]
  omega
theorem xQ_S {a : Nat} (h : a ∈ xQ) : a ∈ xS := by
  have := xQ_in h
  simp only [xS, List.mem_cons, List.not_mem_nil, or_false]
  omega
def Ks (S : Ab) (u : Nat → Int32) (M : Mem) : Prop := XA M S ∧ M.1 26 8 = nI (prs S.R.1) ∧ ∀ k, 9 ≤ k → k < 13 → M.1 26 k = u k
def Xf (d : Nat) (M M' : Mem) : Prop := Off xQ M M' ∧ (∀ k, 8 ≤ k → M'.1 26 k = M.1 26 k) ∧ (∀ e, e ≤ d → M'.2 (30 + e) = M.2 (30 + e)) ∧ ∀ i, i < d → M'.1 27 i = M.1 27 i
theorem Xf.rf {d : Nat} {M : Mem} : Xf d M M := ⟨Off.rf, fun _ _ => rfl, fun _ _ => rfl, fun _ _ => rfl⟩
theorem Xf.trans {d : Nat} {M M' M2 : Mem} (h : Xf d M M') (h2 : Xf d M' M2) : Xf d M M2 := ⟨h.1.trans h2.1, fun k q => (h2.2.1 k q).trans (h.2.1 k q), fun e q => (h2.2.2.1 e q).trans (h.2.2.1 e q), fun i q => (h2.2.2.2 i q).trans (h.2.2.2 i q)⟩
theorem Xf.mono {d : Nat} {M M' : Mem} (h : Xf (d + 1) M M') : Xf d M M' := ⟨h.1, h.2.1, fun e q => h.2.2.1 e (by omega), fun i q => h.2.2.2 i (by omega)⟩
theorem Xf.step {d : Nat} {M M' : Mem} (hd : d < 6) (h : Off [15, 31 + d] M M') : Xf d M M' := ⟨h.mono (fun a ha => by
  simp only [List.mem_cons, List.not_mem_nil, or_false] at ha
  exact xQ_of (by omega)), fun k _ => by rw [(h 26 (by simp; omega)).1], fun e q => (h (30 + e) (by simp; omega)).2, fun i _ => by rw [(h 27 (by simp; omega)).1]⟩
theorem Xf.path {d : Nat} {M : Mem} {v : Int32} : Xf d M (si M 27 d v) := ⟨Off.si (by simp [xQ]), fun k _ => si_ne (Or.inl (by decide)), fun _ _ => rfl, fun i q => si_ne (Or.inr (by omega))⟩
theorem Xf.acc {d k : Nat} {M : Mem} {v : Int32} (h : k < 8) : Xf d M (si M 26 k v) := ⟨Off.si (by simp [xQ]), fun j q => si_ne (Or.inr (by omega)), fun _ _ => rfl, fun i q => si_ne (Or.inl (by decide))⟩
theorem Ks.fr {S : Ab} {u : Nat → Int32} {M M' : Mem} {d : Nat} (h : Ks S u M) (ho : Xf d M M') : Ks S u M' := ⟨h.1.off (ho.1.mono (fun a ha => xQ_S ha)), by rw [ho.2.1 8 (by omega)]; exact h.2.1, fun k h1 h2 => by rw [ho.2.1 k (by omega)]; exact h.2.2 k h1 h2⟩
theorem rows_fr {M M' : Mem} {d : Nat} {W : WW} (h : rowsAt M (30 + d) W) (ho : Xf d M M') : rowsAt M' (30 + d) W := fun p hp => by rw [ho.2.2.1 d (Nat.le_refl d)]; exact h p hp
def amH (n : Nat) (S : Ab) (u : Nat → Int32) (am : WW → Nat) : Prop := ∀ M W d, d < 7 → Ks S u M → OkW W → (∀ p, S.R.1 ≤ p → W p = []) → rowsAt M (30 + d) W → X_Search_amiss n (30 + d) M = some (nI (am W), M)
def baH (n : Nat) (S : Ab) (u : Nat → Int32) (st : WW → Bool) : Prop := ∀ M W d, d < 7 → Ks S u M → OkW W → (∀ p, S.R.1 ≤ p → W p = []) → rowsAt M (30 + d) W → X_Search_isBarred n (30 + d) M = some (if st W then 0 else 1, M)
def uK (t wa sh ne : Int32) (k : Nat) : Int32 := if k = 9 then t else if k = 10 then wa else if k = 11 then sh else ne
theorem x_aim (n : Nat) (t wa sh ne : Int32) {S : Ab} {M : Mem} (hM : XA M S) (h8 : M.1 26 8 = nI (prs S.R.1)) : ∃ M', X_Search_aim n t wa sh ne M = some ((), M') ∧ Off [26] M M' ∧ Ks S (uK t wa sh ne) M' := by
  have ho : Off [26] M (si (si (si (si M 26 9 t) 26 10 wa) 26 11 sh) 26 12 ne) := (((Off.si (by simp)).trans (Off.si (by simp))).trans (Off.si (by simp))).trans (Off.si (by simp))
  refine ⟨_, rfl, ho, hM.off (ho.mono (fun a ha => xQ_S (xQ_of (by simp at ha; omega)))), h8, fun k h1 h2 => ?_⟩
  have : k = 9 ∨ k = 10 ∨ k = 11 ∨ k = 12 := by omega
  rcases this with rfl | rfl | rfl | rfl <;> rfl
theorem am_k (n : Nat) (hn : 7 ≤ n) {S : Ab} (hS : Ok S) {t so sh : Nat} {ne : Int32} (ht : t < 16) : amH n S (uK (nI t) (nI so) (nI sh) ne) (amF S.R.1 t so sh) := fun M W d hd hK hW he hr => by
  have e9 : M.1 26 9 = nI t := hK.2.2 9 (by omega) (by omega)
  have e10 : M.1 26 10 = nI so := hK.2.2 10 (by omega) (by omega)
  have e11 : M.1 26 11 = nI sh := hK.2.2 11 (by omega) (by omega)
  unfold X_Search_amiss amF
  rw [e9, minds_knowers n hn hW hr ht, bd_ret, e10, e11, whoN_6 hS.p6 he, i_xor, i_or, i_and]
theorem ba_k (n : Nat) (hn : 7 ≤ n) {S : Ab} (hS : Ok S) {t ne : Nat} {so sh : Int32} (ht : t < 16) : baH n S (uK (nI t) so sh (nI ne)) (stF S.R.1 t ne) := fun M W d hd hK hW he hr => by
  have e9 : M.1 26 9 = nI t := hK.2.2 9 (by omega) (by omega)
  have e12 : M.1 26 12 = nI ne := hK.2.2 12 (by omega) (by omega)
  unfold X_Search_isBarred stF
  rw [e9, minds_knowers n hn hW hr ht, bd_ret, e12, whoN_6 hS.p6 he]
  by_cases e : whoN W t S.R.1 &&& ne = 0
  · rw [if_pos ((and_i0 (wlt hS.p6 W t)).mpr e), decide_eq_true e]; rfl
  · rw [if_neg (fun q => e ((and_i0 (wlt hS.p6 W t)).mp q)), decide_eq_false e]; rfl
theorem x_unlike (n : Nat) (hn : 7 ≤ n) {S : Ab} (hS : Ok S) {M : Mem} (hM : XA M S) {rows : Nat} {W : WW} (hW : OkW W) (hr : rowsAt M rows W) : X_Search_unlikeSeen n rows M = some (nI (ulN S.A.sn S.A.sg W S.R.1), M) := by
  have h6 := hS.p6
  have key : ∀ d p f, p + d = S.R.1 → d < f → X_Search_unlikeSeen_L4 n rows f (nI (ulN S.A.sn S.A.sg W p)) (nI p) M = some (nI (ulN S.A.sn S.A.sg W S.R.1), M) := by
    intro d
    induction d with
    | zero =>
      intro p f h1 h2
      obtain ⟨f, rfl⟩ : ∃ q, f = q + 1 := ⟨f - 1, by omega⟩
      have hp : p = S.R.1 := by omega
      rw [hp]
      show (if M.1 11 0 ≤ nI S.R.1 then _ else _) = _
      rw [hM.c.1, if_pos (nI_le (Nat.le_refl _) (by omega))]
    | succ d ih =>
      intro p f h1 h2
      obtain ⟨f, rfl⟩ : ∃ q, f = q + 1 := ⟨f - 1, by omega⟩
      have hp : p < S.R.1 := by omega
      have hs := hS.sn
      rw [← ih (p + 1) f (by omega) (by omega)]
      show (if M.1 11 0 ≤ nI p then _ else nm (fun (z1 : Int32) (M2 : Mem) => (X_Search_unlikeSeen_L4 n rows f z1 (nI p + 1) M2 : Option (Int32 × Mem))) fun k53 => (if ((((M.1 16 2).toUInt32 >>> ((nI p).toUInt32 &&& Int32.toUInt32 31)).toInt32) &&& 1) = 0 then k53 (nI (ulN S.A.sn S.A.sg W p)) M else gd (nI p) 6 (bd (X_Row_knownOf n (M.2 rows (nI p).toNatClampNeg) M) fun r3 M4 => gd (nI p) 6 (if r3 = (M4.1 18 (nI p).toNatClampNeg) then k53 (nI (ulN S.A.sn S.A.sg W p)) M4 else nm (nI (ulN S.A.sn S.A.sg W p) ||| ((1 : Int32) <<< (nI p &&& 31))) fun x5 => k53 x5 M4)))) = _
      simp only [nm]
      rw [hM.c.1, if_neg (nI_ge hp (by omega)), hM.a.2.1, b_iu (by omega) (by omega), gd_in (vp_in_nI (n := p) (by omega) (by decide)), nI_clamp (show p < 2 ^ 31 by omega), hr p (by omega), row_known n (hW p).1 (hW p).2, bd_ret, gd_in (vp_in_nI (n := p) (by omega) (by decide)), nI_1, i_shl1 (by omega), i_or]
      have hU : ulN S.A.sn S.A.sg W (p + 1) = ulN S.A.sn S.A.sg W p ||| (if (S.A.sn.testBit p && !decide (knN (W p) = S.A.sg p)) = true then 2 ^ p else 0) := rfl
      cases es : S.A.sn.testBit p with
      | false =>
        rw [if_pos (show nI (if false = true then 1 else 0) = 0 from rfl)]
        have : ulN S.A.sn S.A.sg W (p + 1) = ulN S.A.sn S.A.sg W p := by simp [hU, es]
        rw [this]
      | true =>
        rw [if_neg (show ¬ nI (if true = true then 1 else 0) = 0 by decide), hM.a.2.2.2 p (by omega) es]
        have hk := knN_lt (hW p).1.2
        have hg := hS.hA.2.2.2.2 p
        by_cases ek : knN (W p) = S.A.sg p
        · have : ulN S.A.sn S.A.sg W (p + 1) = ulN S.A.sn S.A.sg W p := by simp [hU, es, ek]
          rw [if_pos (by rw [ek]), this]
        · have : ulN S.A.sn S.A.sg W (p + 1) = ulN S.A.sn S.A.sg W p ||| 2 ^ p := by simp [hU, es, ek]
          rw [if_neg (fun q => ek ((nI_eq (by omega) (by omega)).mp q)), this]
  exact key S.R.1 0 n (by omega) (by omega)
