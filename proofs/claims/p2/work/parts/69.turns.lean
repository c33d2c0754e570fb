/-! SEARCH: the class's turns -/
def TT (R : Rl) (g : Nat) (st : WW → Bool) (am : WW → Nat) : Nat → Nat → Nat → WW → Prop
  | 0, _, _, W => am W = 0
  | l + 1, j, b, W => TK R g (fun V => st V = true ∧ TT R g st am l 15 0 V) j b W
def UU (R : Rl) (g : Nat) (st : WW → Bool) (am : WW → Nat) (l b : Nat) (W : WW) (v : Nat) : Prop := ∃ x, v ≤ x ∧ x < 15 ∧ free R.1 g x = true ∧ b &&& two_ x = 0 ∧ TT R g st am l (14 - x) (b ||| two_ x) (handF R g x W)
theorem x_turns (n : Nat) (hn : 20 ≤ n) {S : Ab} (hS : Ok S) {u : Nat → Int32} {am : WW → Nat} {st : WW → Bool} (hA : OkA am) (hm : amH n S u am) (hb : baH n S u st) : ∀ l, l < 100 → ∀ h f d j b M W, 4 * l + h < f → b < 64 → ((l = 0 ∧ d ≤ 6) ∨ (1 ≤ l ∧ popN 16 b + 2 * h = 6 ∧ d + h + 3 * (l - 1) ≤ 6)) → j ≤ 15 → Ks S u M → OkW W → (∀ p, S.R.1 ≤ p → W p = []) → rowsAt M (30 + d) W → ∃ r M', X_Search_turns n f (nI d) (nI b) (nI (15 - j)) (nI l) M = some (r, M') ∧ Xf d M M' ∧ ((r = 1 ∧ TT S.R S.A.gl st am l j b W) ∨ (r = 0 ∧ ¬ TT S.R S.A.gl st am l j b W)) := by
  have h6 := hS.p6
  have hg := hS.gl
  have hP := hS.hR.1
  intro l
  induction l with
  | zero =>
    intro _ h f d j b M W hf hb64 hc hj hK hW he hr
    obtain ⟨f, rfl⟩ : ∃ q, f = q + 1 := ⟨f - 1, by omega⟩
    have hd : d ≤ 6 := by omega
    have un : X_Search_turns n (f + 1) (nI d) (nI b) (nI (15 - j)) (nI 0) M = (if nI (am W) = 0 then some (1, M) else some (0, M)) := by
      show (if nI 0 = 0 then gd (nI d) 7 (bd (X_Search_amiss n (([30, 31, 32, 33, 34, 35, 36] : List Nat).getD (nI d).toNatClampNeg 0) M) fun r15 M16 => (if r15 = 0 then some (1, M16) else some (0, M16))) else _) = _
      rw [if_pos (show nI 0 = 0 from rfl), gd_in (vp_in_nI (n := d) (by omega) (by decide)), nI_clamp (by omega), lv_id (by omega), hm M W d (by omega) hK hW he hr, bd_ret]
    have hlt := hA.1 W
    rw [un]
    by_cases ea : am W = 0
    · rw [if_pos (by rw [ea]; rfl)]
      exact ⟨1, M, rfl, Xf.rf, Or.inl ⟨rfl, ea⟩⟩
    · rw [if_neg (fun q => ea ((i_z (show am W < 2 ^ 31 by omega)).mp q))]
      exact ⟨0, M, rfl, Xf.rf, Or.inr ⟨rfl, ea⟩⟩
  | succ l ihl =>
    intro hl100 h
    induction h using Nat.strongRecOn with
    | ind h ihh =>
    intro f d j b M W hf hb64 hc hj hK hW he hr
    obtain ⟨f, rfl⟩ : ∃ q, f = q + 1 := ⟨f - 1, by omega⟩
    obtain ⟨hpop, hdh⟩ : popN 16 b + 2 * h = 6 ∧ d + h + 3 * l ≤ 6 := by
      rcases hc with hc | hc
      · omega
      · exact ⟨hc.2.1, by have := hc.2.2; omega⟩
    have key : ∀ j v m M, v + j = 15 → j < m → Ks S u M → rowsAt M (30 + d) W → ∃ r M', X_Search_turns_L56 n (X_Search_turns n f) (nI d) (nI b) (nI (l + 1)) m (nI v) M = some (r, M') ∧ Xf d M M' ∧ ((r = 1 ∧ UU S.R S.A.gl st am (l + 1) b W v) ∨ (r = 0 ∧ ¬ UU S.R S.A.gl st am (l + 1) b W v)) := by
      intro j
      induction j with
      | zero =>
        intro v m M h1 h2 hK hr
        obtain ⟨m, rfl⟩ : ∃ q, m = q + 1 := ⟨m - 1, by omega⟩
        have hp := (prs_i S.R.1 (by omega) hP).2
        refine ⟨0, M, ?_, Xf.rf, Or.inr ⟨rfl, fun ⟨x, q1, q2, _⟩ => by omega⟩⟩
        show (if M.1 26 8 ≤ nI v then _ else _) = _
        rw [hK.2.1, if_pos (nI_le (by omega) (by omega))]
      | succ j ihj =>
        intro v m M h1 h2 hK hr
        obtain ⟨m, rfl⟩ : ∃ q, m = q + 1 := ⟨m - 1, by omega⟩
        have hp := (prs_i S.R.1 (by omega) hP).2
        have hv : v < 15 := by omega
        by_cases hx : prs S.R.1 ≤ v
        · refine ⟨0, M, ?_, Xf.rf, Or.inr ⟨rfl, fun ⟨x, q1, q2, q3, _⟩ => by rw [free_big (by omega) q2 (by omega)] at q3; exact absurd q3 Bool.false_ne_true⟩⟩
          show (if M.1 26 8 ≤ nI v then _ else _) = _
          rw [hK.2.1, if_pos (nI_le (by omega) (by omega))]
        · by_cases hd6 : 6 ≤ d
          · refine ⟨0, M, ?_, Xf.rf, Or.inr ⟨rfl, fun ⟨x, q1, q2, q3, q4, _⟩ => ?_⟩⟩
            · show (if M.1 26 8 ≤ nI v then _ else if (6 : Int32) ≤ nI d then _ else _) = _
              rw [hK.2.1, if_neg (nI_ge (by omega) (by omega)), if_pos (show (6 : Int32) ≤ nI d from nI_le (a := 6) hd6 (by omega))]
            · have := (pop_two b hb64 x q2 q4).2
              omega
          · have hgr : gre v < S.R.1 := (prs_gre S.R.1 (by omega) v hv).mp (by omega)
            have hfr := free_of (g := S.A.gl) hg hv hgr
            obtain ⟨r0, M0, i1, i2, i3⟩ := ihj (v + 1) m M (by omega) (by omega) hK hr
            have un : X_Search_turns_L56 n (X_Search_turns n f) (nI d) (nI b) (nI (l + 1)) (m + 1) (nI v) M = if (b ||| S.A.gl) &&& two_ v = 0 then (bd (X_Search_step n (nI d) (nI v) M) fun r8 M9 => bd (X_Search_turns n f (nI (d + 1)) (nI (b ||| two_ v)) (nI (v + 1)) (nI (l + 1)) M9) fun r10 M11 => (if r10 = 0 then X_Search_turns_L56 n (X_Search_turns n f) (nI d) (nI b) (nI (l + 1)) m (nI (v + 1)) M11 else some (1, M11))) else X_Search_turns_L56 n (X_Search_turns n f) (nI d) (nI b) (nI (l + 1)) m (nI (v + 1)) M := by
              show (if M.1 26 8 ≤ nI v then _ else if (6 : Int32) ≤ nI d then _ else bd (X_Search_bitsOf n (nI v) M) fun r5 M6 => nm (fun (M7 : Mem) => (X_Search_turns_L56 n (X_Search_turns n f) (nI d) (nI b) (nI (l + 1)) m (nI v + 1) M7 : Option (Int32 × Mem))) fun k123 => (if ((nI b ||| (M6.1 16 1)) &&& r5) = 0 then bd (X_Search_step n (nI d) (nI v) M6) fun r8 M9 => bd (X_Search_turns n f (nI d + 1) (nI b ||| r5) (nI v + 1) (nI (l + 1)) M9) fun r10 M11 => (if r10 = 0 then k123 M11 else some (1, M11)) else k123 M6)) = _
              simp only [nm]
              rw [hK.2.1, if_neg (nI_ge (by omega) (by omega)), if_neg (show ¬ (6 : Int32) ≤ nI d from nI_ge (b := 6) (by omega) (by decide)), x_bits2 n hv, bd_ret, hK.1.a.1, i_or, i_or, nI_1, nI_1]
              have hbg : b ||| S.A.gl < 64 := Nat.or_lt_two_pow (n := 6) hb64 hg
              by_cases e : (b ||| S.A.gl) &&& two_ v = 0
              · rw [if_pos e, if_pos ((and_i0 hbg).mpr e)]
              · rw [if_neg e, if_neg (fun q => e ((and_i0 hbg).mp q))]
            rw [un]
            by_cases e : (b ||| S.A.gl) &&& two_ v = 0
            · rw [if_pos e]
              obtain ⟨eb, eg⟩ := (z_oa _ _ _).mp e
              obtain ⟨pt1, pt2⟩ := pop_two b hb64 v hv eb
              obtain ⟨r, M2, s1, s2, s3, -⟩ := x_step n hn hS hK.1 (d := d) (by omega) hv hW hr
              have f2 : Xf d M M2 := Xf.step (by omega) s2
              obtain ⟨r2, M3, t1, t2, t3⟩ := ihh (h - 1) (by omega) f (d + 1) j (b ||| two_ v) M2 (handF S.R S.A.gl v W) (by omega) (Nat.or_lt_two_pow (n := 6) hb64 (two_lt v hv)) (Or.inr ⟨by omega, by omega, by show d + 1 + (h - 1) + 3 * l ≤ 6; omega⟩) (by omega) (hK.fr f2) (hW.hand hS.hR _ _) (handF_end hv hgr he) (by rw [show 30 + (d + 1) = 31 + d by omega]; exact s3)
              rw [show 15 - j = v + 1 by omega] at t1
              have f3 := f2.trans t2.mono
              rw [s1, bd_ret, t1, bd_ret]
              rcases t3 with ⟨t3, t4⟩ | ⟨t3, t4⟩
              · rw [t3, if_neg i10]
                exact ⟨1, M3, rfl, f3, Or.inl ⟨rfl, v, Nat.le_refl _, hv, hfr.mp eg, eb, by rw [show 14 - v = j by omega]; exact t4⟩⟩
              · rw [t3, if_pos rfl]
                obtain ⟨r4, M4, w1, w2, w3⟩ := ihj (v + 1) m M3 (by omega) (by omega) (hK.fr f3) (rows_fr hr f3)
                refine ⟨r4, M4, w1, f3.trans w2, ?_⟩
                rcases w3 with ⟨w3, x, q1, q2⟩ | ⟨w3, w4⟩
                · exact Or.inl ⟨w3, x, by omega, q2⟩
                · refine Or.inr ⟨w3, fun ⟨x, q1, q2⟩ => ?_⟩
                  by_cases ex : x = v
                  · rw [ex, show 14 - v = j by omega] at q2
                    exact t4 q2.2.2.2
                  · exact w4 ⟨x, by omega, q2⟩
            · rw [if_neg e]
              refine ⟨r0, M0, i1, i2, ?_⟩
              rcases i3 with ⟨w3, x, q1, q2⟩ | ⟨w3, w4⟩
              · exact Or.inl ⟨w3, x, by omega, q2⟩
              · refine Or.inr ⟨w3, fun ⟨x, q1, q2⟩ => ?_⟩
                by_cases ex : x = v
                · rw [ex] at q2
                  exact e ((z_oa _ _ _).mpr ⟨q2.2.2.1, hfr.mpr q2.2.1⟩)
                · exact w4 ⟨x, by omega, q2⟩
    have eT : TT S.R S.A.gl st am (l + 1) j b W ↔ ((st W = true ∧ TT S.R S.A.gl st am l 15 0 W) ∨ UU S.R S.A.gl st am (l + 1) b W (15 - j)) := TK_iff j hj b W
    have eb := hb M W d (by omega) hK hW he hr
    have un : X_Search_turns n (f + 1) (nI d) (nI b) (nI (15 - j)) (nI (l + 1)) M = if (if st W then (0 : Int32) else 1) = 0 then (bd (X_Search_turns n f (nI d) 0 0 (nI l) M) fun r12 M13 => (if r12 = 0 then X_Search_turns_L56 n (X_Search_turns n f) (nI d) (nI b) (nI (l + 1)) n (nI (15 - j)) M13 else some (1, M13))) else X_Search_turns_L56 n (X_Search_turns n f) (nI d) (nI b) (nI (l + 1)) n (nI (15 - j)) M := by
      show (if nI (l + 1) = 0 then _ else gd (nI d) 7 (bd (X_Search_isBarred n (([30, 31, 32, 33, 34, 35, 36] : List Nat).getD (nI d).toNatClampNeg 0) M) fun r2 M3 => nm (fun (M4 : Mem) => (X_Search_turns_L56 n (X_Search_turns n f) (nI d) (nI b) (nI (l + 1)) n (nI (15 - j)) M4 : Option (Int32 × Mem))) fun k53 => (if r2 = 0 then bd ((X_Search_turns n f) (nI d) 0 0 (nI (l + 1) - 1) M3) fun r12 M13 => (if r12 = 0 then k53 M13 else some (1, M13)) else k53 M3))) = _
      rw [if_neg (fun q => by have := (i_z (k := l + 1) (by omega)).mp q; omega), gd_in (vp_in_nI (n := d) (by omega) (by decide)), nI_clamp (by omega), lv_id (by omega), eb, bd_ret, show nI (l + 1) - 1 = nI l by rw [show (1 : Int32) = nI 1 from rfl, pk_sub (by omega), Nat.add_sub_cancel]]
      rfl
    rw [un]
    cases es : st W with
    | false =>
      rw [if_neg (show ¬ (if false = true then (0 : Int32) else 1) = 0 by decide)]
      obtain ⟨r, M', a1, a2, a3⟩ := key j (15 - j) n M (by omega) (by omega) hK hr
      refine ⟨r, M', a1, a2, ?_⟩
      rcases a3 with ⟨a3, a4⟩ | ⟨a3, a4⟩
      · exact Or.inl ⟨a3, eT.mpr (Or.inr a4)⟩
      · exact Or.inr ⟨a3, fun q => (eT.mp q).elim (fun q => by rw [es] at q; exact absurd q.1 Bool.false_ne_true) a4⟩
    | true =>
      rw [if_pos (show (if true = true then (0 : Int32) else 1) = 0 from rfl)]
      have e0 : popN 16 0 = 0 := by decide
      obtain ⟨r, M2, b1, b2, b3⟩ : ∃ r M2, X_Search_turns n f (nI d) 0 0 (nI l) M = some (r, M2) ∧ Xf d M M2 ∧ ((r = 1 ∧ TT S.R S.A.gl st am l 15 0 W) ∨ (r = 0 ∧ ¬ TT S.R S.A.gl st am l 15 0 W)) := by
        rcases Nat.eq_zero_or_pos l with e | e
        · exact ihl (by omega) 0 f d 15 0 M W (by omega) (by decide) (Or.inl ⟨e, by omega⟩) (Nat.le_refl _) hK hW he hr
        · exact ihl (by omega) 3 f d 15 0 M W (by omega) (by decide) (Or.inr ⟨e, by omega, by omega⟩) (Nat.le_refl _) hK hW he hr
      rw [b1, bd_ret]
      rcases b3 with ⟨b3, b4⟩ | ⟨b3, b4⟩
      · rw [b3, if_neg i10]
        exact ⟨1, M2, rfl, b2, Or.inl ⟨rfl, eT.mpr (Or.inl ⟨es, b4⟩)⟩⟩
      · rw [b3, if_pos rfl]
        obtain ⟨r, M', a1, a2, a3⟩ := key j (15 - j) n M2 (by omega) (by omega) (hK.fr b2) (rows_fr hr b2)
        refine ⟨r, M', a1, b2.trans a2, ?_⟩
        rcases a3 with ⟨a3, a4⟩ | ⟨a3, a4⟩
        · exact Or.inl ⟨a3, eT.mpr (Or.inr a4)⟩
        · exact Or.inr ⟨a3, fun q => (eT.mp q).elim (fun q => b4 q.2) a4⟩
