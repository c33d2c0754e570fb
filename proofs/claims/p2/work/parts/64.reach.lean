/-! SEARCH: the class reaches -/
def HN (R : Rl) (g : Nat) (st : WW → Bool) (am : WW → Nat) (k : Nat) (W : WW) (pre : List Nat) (x : Nat) : List (List Nat) := if free R.1 g x && (!same R g x W && st (handF R g x W)) then wdn R g st (gdA am) k (handF R g x W) (pre ++ [x]) else []
def Pt (M : Mem) (w : List Nat) : Prop := ∀ i x, w[i]? = some x → M.1 27 i = nI x
theorem Pt.fr {M M' : Mem} {w : List Nat} {d : Nat} (h : Pt M w) (hw : w.length ≤ d) (ho : Xf d M M') : Pt M' w := fun i x hi => by
  rw [ho.2.2.2 i (by have := (List.getElem?_eq_some_iff.mp hi).1; omega)]
  exact h i x hi
theorem Pt.snoc {M : Mem} {w : List Nat} {x : Nat} (h : Pt M w) (e : M.1 27 w.length = nI x) : Pt M (w ++ [x]) := fun i y hi => by
  by_cases q : i < w.length
  · rw [List.getElem?_append_left q] at hi
    exact h i y hi
  · have hl := (List.getElem?_eq_some_iff.mp hi).1
    rw [List.length_append, List.length_singleton] at hl
    have : i = w.length := by omega
    subst this
    rw [List.getElem?_append_right (Nat.le_refl _), Nat.sub_self] at hi
    rw [e, ← Option.some.inj hi]
def RcR (l : List (List Nat)) (r : Int32) (M' : Mem) : Prop := (l = [] ∧ r = 0) ∨ ∃ w t, l = w :: t ∧ r = 1 ∧ Pt M' w
theorem same_gl {R : Rl} {g x : Nat} {W : WW} (h : (!g.testBit (les x) && !g.testBit (gre x)) = false) (p : Nat) : handF R g x W p = W p := by
  unfold handF
  rw [if_pos]
  cases e1 : g.testBit (les x) <;> cases e2 : g.testBit (gre x) <;> simp [e1, e2] at h ⊢
theorem x_reaches (n : Nat) (hn : 20 ≤ n) {S : Ab} (hS : Ok S) {u : Nat → Int32} {am : WW → Nat} {st : WW → Bool} (hA : OkA am) (hm : amH n S u am) (hb : baH n S u st) : ∀ k f d M W pre, k < f → d + k ≤ 4 → Ks S u M → OkW W → (∀ p, S.R.1 ≤ p → W p = []) → rowsAt M (30 + d) W → Pt M pre → pre.length = d → ∃ r M', X_Search_reaches n f (nI d) (nI (d + k)) M = some (r, M') ∧ Xf d M M' ∧ RcR (wdn S.R S.A.gl st (gdA am) k W pre) r M' := by
  have h6 := hS.p6
  have hg := hS.gl
  have hP := hS.hR.1
  intro k
  induction k with
  | zero =>
    intro f d M W pre hf hd hK hW he hr hp hl
    obtain ⟨f, rfl⟩ : ∃ q, f = q + 1 := ⟨f - 1, by omega⟩
    have un : X_Search_reaches n (f + 1) (nI d) (nI (d + 0)) M = (if nI (am W) = 0 then some (1, M) else some (0, M)) := by
      show gd (nI d) 7 (bd (X_Search_amiss n (([30, 31, 32, 33, 34, 35, 36] : List Nat).getD (nI d).toNatClampNeg 0) M) fun r2 M3 => (if nI d < nI d then _ else (if r2 = 0 then some (1, M3) else some (0, M3)))) = _
      rw [gd_in (vp_in_nI (n := d) (by omega) (by decide)), nI_clamp (by omega), lv_id (by omega), hm M W d (by omega) hK hW he hr, bd_ret, if_neg (Int32.lt_irrefl)]
    have hlt := hA.1 W
    rw [un]
    by_cases ea : am W = 0
    · have ew : wdn S.R S.A.gl st (gdA am) 0 W pre = [pre] := if_pos (decide_eq_true ea)
      rw [if_pos (by rw [ea]; rfl), ew]
      exact ⟨1, M, rfl, Xf.rf, Or.inr ⟨pre, [], rfl, rfl, hp⟩⟩
    · have ew : wdn S.R S.A.gl st (gdA am) 0 W pre = [] := if_neg (fun q => ea (of_decide_eq_true q))
      rw [if_neg (fun q => ea ((i_z (show am W < 2 ^ 31 by omega)).mp q)), ew]
      exact ⟨0, M, rfl, Xf.rf, Or.inl ⟨rfl, rfl⟩⟩
  | succ k ih =>
    intro f d M W pre hf hd hK hW he hr hp hl
    obtain ⟨f, rfl⟩ : ∃ q, f = q + 1 := ⟨f - 1, by omega⟩
    have key : ∀ j v m M, v + j = 15 → j < m → Ks S u M → rowsAt M (30 + d) W → Pt M pre → ∃ r M', X_Search_reaches_L29 n (X_Search_reaches n f) (nI d) (nI (d + (k + 1))) (nI (am W)) m (nI v) M = some (r, M') ∧ Xf d M M' ∧ RcR (fl (HN S.R S.A.gl st am k W pre) j) r M' := by
      intro j
      induction j with
      | zero =>
        intro v m M h1 h2 hK hr hpt
        obtain ⟨m, rfl⟩ : ∃ q, m = q + 1 := ⟨m - 1, by omega⟩
        have hp := (prs_i S.R.1 (by omega) hP).2
        refine ⟨0, M, ?_, Xf.rf, Or.inl ⟨rfl, rfl⟩⟩
        show (if M.1 26 8 ≤ nI v then _ else _) = _
        rw [hK.2.1, if_pos (nI_le (by omega) (by omega))]
      | succ j ihj =>
        intro v m M h1 h2 hK hr hpt
        obtain ⟨m, rfl⟩ : ∃ q, m = q + 1 := ⟨m - 1, by omega⟩
        have hp := (prs_i S.R.1 (by omega) hP).2
        have hv : v < 15 := by omega
        by_cases hx : prs S.R.1 ≤ v
        · have e0 : fl (HN S.R S.A.gl st am k W pre) (j + 1) = [] := (fl_nil _ (by omega)).mpr (fun x h4 h5 => if_neg (by rw [free_big (by omega) h5 (by omega), Bool.false_and]; decide))
          refine ⟨0, M, ?_, Xf.rf, Or.inl ⟨e0, rfl⟩⟩
          show (if M.1 26 8 ≤ nI v then _ else _) = _
          rw [hK.2.1, if_pos (nI_le (by omega) (by omega))]
        · have hgr : gre v < S.R.1 := (prs_gre S.R.1 (by omega) v hv).mp (by omega)
          have e1 : fl (HN S.R S.A.gl st am k W pre) (j + 1) = HN S.R S.A.gl st am k W pre v ++ fl (HN S.R S.A.gl st am k W pre) j := by
            show HN _ _ _ _ _ _ _ (14 - j) ++ _ = _
            rw [show 14 - j = v by omega]
          generalize hself : X_Search_reaches n f = self at ihj
          generalize hk101 : (fun (M8 : Mem) => X_Search_reaches_L29 n self (nI d) (nI (d + (k + 1))) (nI (am W)) m (nI (v + 1)) M8) = k101 at ihj
          have un : X_Search_reaches_L29 n self (nI d) (nI (d + (k + 1))) (nI (am W)) (m + 1) (nI v) M = (if popN 16 (am W &&& com v) ≤ 2 * k then bd (X_Search_step n (nI d) (nI v) M) fun r9 M10 => (if r9 = 0 then k101 M10 else bd (X_Search_isBarred n (30 + (d + 1)) M10) fun r12 M13 => (if r12 = 0 then bd (self (nI (d + 1)) (nI (d + 1 + k)) (si M13 27 d (nI v))) fun r15 M16 => (if r15 = 0 then k101 M16 else some (1, M16)) else k101 M13)) else k101 M) := by
            show (if M.1 26 8 ≤ nI v then _ else bd (X_Search_bitsOf n (nI v) M) fun r4 M5 => bd (X_Search_canMend n (nI (am W)) r4 ((nI (d + (k + 1)) - nI d) - 1) M5) fun r6 M7 => nm (fun (M8 : Mem) => (X_Search_reaches_L29 n self (nI d) (nI (d + (k + 1))) (nI (am W)) m (nI v + 1) M8 : Option (Int32 × Mem))) fun k101 => (if r6 = 0 then k101 M7 else bd (X_Search_step n (nI d) (nI v) M7) fun r9 M10 => (if r9 = 0 then k101 M10 else gd (nI d + 1) 7 (bd (X_Search_isBarred n (([30, 31, 32, 33, 34, 35, 36] : List Nat).getD (nI d + 1).toNatClampNeg 0) M10) fun r12 M13 => (if r12 = 0 then gd (nI d) 6 (nm (si M13 27 ((nI d).toNatClampNeg) (nI v)) fun N14 => bd (self (nI d + 1) (nI (d + (k + 1))) N14) fun r15 M16 => (if r15 = 0 then k101 M16 else some (1, M16))) else k101 M13))))) = _
            have hv1 : vp_in (nI (d + 1)) 7 := vp_in_nI (n := d + 1) (by omega) (by decide)
            have hv2 : vp_in (nI d) 6 := vp_in_nI (n := d) (by omega) (by decide)
            have hc1 : (nI (d + 1)).toNatClampNeg = d + 1 := nI_clamp (by omega)
            have hc2 : (nI d).toNatClampNeg = d := nI_clamp (by omega)
            have hlv : ([30, 31, 32, 33, 34, 35, 36] : List Nat).getD (d + 1) 0 = 30 + (d + 1) := lv_id (by omega)
            have hdk : d + (k + 1) = d + 1 + k := by omega
            rw [hK.2.1, if_neg (nI_ge (by omega) (by omega)), x_bits2 n hv, bd_ret, i_left, x_mend2 n (hA.1 W) hv (by omega), bd_ret]
            simp only [nm, nI_1, gd_in hv1, gd_in hv2, hc1, hc2, hlv]
            rw [← hk101, hdk]
            by_cases e2 : popN 16 (am W &&& com v) ≤ 2 * k
            · rw [if_pos e2, if_pos e2, if_neg i10]
            · rw [if_neg e2, if_neg e2, if_pos rfl]
          rw [un, e1]
          have ihj : ∀ M, Ks S u M → rowsAt M (30 + d) W → Pt M pre → ∃ r M', k101 M = some (r, M') ∧ Xf d M M' ∧ RcR (fl (HN S.R S.A.gl st am k W pre) j) r M' := fun M a1 a2 a3 => by
            rw [← hk101]
            exact ihj (v + 1) m M (by omega) (by omega) a1 a2 a3
          have hfr := free_of (g := S.A.gl) hg hv hgr
          by_cases e2 : popN 16 (am W &&& com v) ≤ 2 * k
          · rw [if_pos e2]
            obtain ⟨r, M2, s1, s2, s3, s4⟩ := x_step n hn hS hK.1 (d := d) (by omega) hv hW hr
            have f2 : Xf d M M2 := Xf.step (by omega) s2
            have hW2 : OkW (handF S.R S.A.gl v W) := hW.hand hS.hR _ _
            have he2 := handF_end (R := S.R) (g := S.A.gl) hv hgr he
            have s3 : rowsAt M2 (30 + (d + 1)) (handF S.R S.A.gl v W) := by rw [show 30 + (d + 1) = 31 + d by omega]; exact s3
            have hp2 : Pt M2 pre := hpt.fr (by omega) f2
            have ih2 := ihj M2 (hK.fr f2) (rows_fr hr f2) hp2
            rw [s1, bd_ret]
            rcases s4 with ⟨r0, s4⟩ | ⟨r1, s4⟩
            · rw [if_pos r0]
              have eH : HN S.R S.A.gl st am k W pre v = [] := if_neg (by rw [same_iff.mpr s4]; simp)
              rw [eH]
              obtain ⟨r, M3, t1, t2, t3⟩ := ih2
              exact ⟨r, M3, t1, f2.trans t2, t3⟩
            · rw [r1, if_neg i10, hb M2 _ (d + 1) (by omega) (hK.fr f2) hW2 he2 s3, bd_ret]
              have hsm : same S.R S.A.gl v W = false := Bool.eq_false_iff.mpr (fun q => by
                obtain ⟨p, p1, p2⟩ := s4
                exact p2 (same_iff.mp q p p1))
              have hf : free S.R.1 S.A.gl v = true := by
                cases q : free S.R.1 S.A.gl v with
                | true => rfl
                | false =>
                  obtain ⟨p, p1, p2⟩ := s4
                  refine absurd (same_gl ?_ p) p2
                  unfold free at q
                  rw [decide_eq_true hgr, Bool.true_and] at q
                  exact q
              cases es : st (handF S.R S.A.gl v W) with
              | false =>
                have eH : HN S.R S.A.gl st am k W pre v = [] := if_neg (by rw [es]; simp)
                rw [eH]
                obtain ⟨r, M3, t1, t2, t3⟩ := ih2
                exact ⟨r, M3, t1, f2.trans t2, t3⟩
              | true =>
                have eH : HN S.R S.A.gl st am k W pre v = wdn S.R S.A.gl st (gdA am) k (handF S.R S.A.gl v W) (pre ++ [v]) := if_pos (by rw [es, hf, hsm]; rfl)
                rw [eH, if_pos (show (if true = true then (0 : Int32) else 1) = 0 from rfl)]
                have f3 : Xf d M2 (si M2 27 d (nI v)) := Xf.path
                have hp3 : Pt (si M2 27 d (nI v)) (pre ++ [v]) := (hp2.fr (by omega) f3).snoc (by rw [hl]; exact si_at _ _ _ _)
                obtain ⟨r, M3, t1, t2, t3⟩ := ih f (d + 1) (si M2 27 d (nI v)) (handF S.R S.A.gl v W) (pre ++ [v]) (by omega) (by omega) ((hK.fr f2).fr f3) hW2 he2 s3 hp3 (by rw [List.length_append, hl]; rfl)
                rw [hself] at t1
                rw [t1, bd_ret]
                have f4 := (f2.trans f3).trans t2.mono
                rcases t3 with ⟨t3, t4⟩ | ⟨w, t, t3, t4, t5⟩
                · rw [if_pos t4, t3]
                  obtain ⟨r, M4, w1, w2, w3⟩ := ihj M3 (hK.fr f4) (rows_fr hr f4) (hpt.fr (by omega) f4)
                  exact ⟨r, M4, w1, f4.trans w2, w3⟩
                · rw [t4, if_neg i10, t3]
                  exact ⟨1, M3, rfl, f4, Or.inr ⟨w, _, rfl, rfl, t5⟩⟩
          · rw [if_neg e2]
            have eH : HN S.R S.A.gl st am k W pre v = [] := by
              unfold HN
              split
              · exact wdn_nil _ _ _ (wds_cut hA hv (by omega))
              · rfl
            rw [eH]
            exact ihj M hK hr hpt
    obtain ⟨r, M', a1, a2, a3⟩ := key 15 0 n M rfl (by omega) hK hr hp
    refine ⟨r, M', ?_, a2, a3⟩
    show gd (nI d) 7 (bd (X_Search_amiss n (([30, 31, 32, 33, 34, 35, 36] : List Nat).getD (nI d).toNatClampNeg 0) M) fun r2 M3 => (if nI d < nI (d + (k + 1)) then X_Search_reaches_L29 n (X_Search_reaches n f) (nI d) (nI (d + (k + 1))) r2 n 0 M3 else _)) = _
    rw [gd_in (vp_in_nI (n := d) (by omega) (by decide)), nI_clamp (by omega), lv_id (by omega), hm M W d (by omega) hK hW he hr, bd_ret, if_pos (nI_lt (by omega) (by omega))]
    exact a1
