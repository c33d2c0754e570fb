/-! SEARCH: the class counts rows that fit, and reaches -/
def two_ (x : Nat) : Nat := 2 ^ les x ||| 2 ^ gre x
theorem two_free : ∀ g, g < 64 → ∀ x, x < 15 → ((g &&& two_ x = 0) ↔ (!g.testBit (les x) && !g.testBit (gre x)) = true) := by decide +kernel
theorem two_lt : ∀ x, x < 15 → two_ x < 64 := by decide +kernel
theorem free_of {P g x : Nat} (hg : g < 64) (hx : x < 15) (hP : gre x < P) : (g &&& two_ x = 0) ↔ free P g x = true := by
  rw [two_free g hg x hx]
  unfold free
  rw [decide_eq_true hP, Bool.true_and]
theorem free_big {P g x : Nat} (hP : P < 7) (hx : x < 15) (h : prs P ≤ x) : free P g x = false := by
  unfold free
  rw [decide_eq_false, Bool.false_and]
  intro q
  have := (prs_gre P hP x hx).mpr q
  omega
theorem x_bits2 (n : Nat) {h : Nat} (hh : h < 15) (M : Mem) : X_Search_bitsOf n (nI h) M = some (nI (two_ h), M) := x_bitsOf n hh M
theorem x_mend2 (n : Nat) {w x k : Nat} (hw : w < 64) (hx : x < 15) (hk : k < 100) (M : Mem) : X_Search_canMend n (nI w) (nI (two_ x)) (nI k) M = some (if popN 16 (w &&& com x) ≤ 2 * k then 1 else 0, M) := x_canMend n hw (two_lt x hx) hk M
def F3 (M : Mem) (a : Int32 × Int32 × Int32) : Prop := M.1 26 2 = a.1 ∧ M.1 26 3 = a.2.1 ∧ M.1 26 4 = a.2.2
def addC (a : Int32 × Int32 × Int32) (w : List Nat) : Int32 × Int32 × Int32 := (a.1 + 1, a.2.1 &&& nI (msk w), a.2.2 ||| nI (msk w))
theorem F3.off {M M' : Mem} {a : Int32 × Int32 × Int32} {S : List Nat} (h : F3 M a) (ho : Off S M M') (hs : 26 ∉ S) : F3 M' a := by
  unfold F3
  rw [(ho 26 hs).1]
  exact h
def stT (_ : WW) : Bool := true
theorem st_k2 (n : Nat) {S : Ab} {t so ot : Int32} : stH n S (vK 2 t so ot) stT := fun M W L hL hK hW hl => by
  have e39 : M.1 0 39 = 2 := hK.2.2 39 (by omega) (by omega)
  unfold X_Model_isStill stT
  rw [e39, if_neg (by decide)]; rfl
def amU (S : Ab) (W : WW) : Nat := ulN S.A.sn S.A.sg W S.R.1
theorem i_left {d k : Nat} : (nI (d + (k + 1)) - nI d) - 1 = nI k := by
  rw [pk_sub (by omega), show (1 : Int32) = nI 1 from rfl, pk_sub (by omega), show d + (k + 1) - d - 1 = k by omega]
theorem x_fit (n : Nat) (hn : 20 ≤ n) {S : Ab} (hS : Ok S) {u : Nat → Int32} : ∀ k f d M W pre a, k < f → d + k ≤ 4 → Ks S u M → OkW W → (∀ p, S.R.1 ≤ p → W p = []) → rowsAt M (30 + d) W → F3 M a → ∃ M', X_Search_fit n f (nI d) (nI (d + k)) (nI (msk pre)) M = some ((), M') ∧ Xf d M M' ∧ F3 M' ((wds S.R S.A.gl stT (gdA (amU S)) k W pre).foldl addC a) := by
  have h6 := hS.p6
  have hg := hS.gl
  have hP := hS.hR.1
  intro k
  induction k with
  | zero =>
    intro f d M W pre a hf hd hK hW he hr h3
    obtain ⟨f, rfl⟩ : ∃ q, f = q + 1 := ⟨f - 1, by omega⟩
    have un : X_Search_fit n (f + 1) (nI d) (nI (d + 0)) (nI (msk pre)) M = (if nI (amU S W) = 0 then some ((), si (si (si M 26 2 (M.1 26 2 + 1)) 26 3 (M.1 26 3 &&& nI (msk pre))) 26 4 (M.1 26 4 ||| nI (msk pre))) else some ((), M)) := by
      show gd (nI d) 7 (bd (X_Search_unlikeSeen n (([30, 31, 32, 33, 34, 35, 36] : List Nat).getD (nI d).toNatClampNeg 0) M) fun r2 M3 => (if nI d < nI d then _ else (if r2 = 0 then _ else some ((), M3)))) = _
      rw [gd_in (vp_in_nI (n := d) (by omega) (by decide)), nI_clamp (by omega), lv_id (by omega), x_unlike n (by omega) hS hK.1 hW hr, bd_ret, if_neg (Int32.lt_irrefl)]
      rfl
    rw [un]
    by_cases ea : amU S W = 0
    · have ew : wds S.R S.A.gl stT (gdA (amU S)) 0 W pre = [pre] := if_pos (decide_eq_true ea)
      rw [if_pos (by rw [ea]; rfl), ew]
      exact ⟨_, rfl, ((Xf.acc (by decide)).trans (Xf.acc (by decide))).trans (Xf.acc (by decide)), by show _ + 1 = _ + 1; rw [h3.1], by show _ &&& _ = _ &&& _; rw [h3.2.1], by show _ ||| _ = _ ||| _; rw [h3.2.2]⟩
    · have ew : wds S.R S.A.gl stT (gdA (amU S)) 0 W pre = [] := if_neg (fun q => ea (of_decide_eq_true q))
      have hlt : amU S W < 64 := (amU_ok (sn := S.A.sn) (sg := S.A.sg) h6).1 W
      rw [if_neg (fun q => ea ((i_z (show amU S W < 2 ^ 31 by omega)).mp q)), ew]
      exact ⟨M, rfl, Xf.rf, h3⟩
  | succ k ih =>
    intro f d M W pre a hf hd hK hW he hr h3
    obtain ⟨f, rfl⟩ : ∃ q, f = q + 1 := ⟨f - 1, by omega⟩
    have hA : OkA (amU S) := amU_ok h6
    have key : ∀ j v m M a, v + j = 15 → j < m → Ks S u M → rowsAt M (30 + d) W → F3 M a → ∃ M', X_Search_fit_L56 n (X_Search_fit n f) (nI d) (nI (d + (k + 1))) (nI (msk pre)) (nI (amU S W)) m (nI v) M = some ((), M') ∧ Xf d M M' ∧ F3 M' ((fl (HH S.R S.A.gl stT (amU S) k W pre) j).foldl addC a) := by
      intro j
      induction j with
      | zero =>
        intro v m M a h1 h2 hK hr h3
        obtain ⟨m, rfl⟩ : ∃ q, m = q + 1 := ⟨m - 1, by omega⟩
        have hp := (prs_i S.R.1 (by omega) hP).2
        refine ⟨M, ?_, Xf.rf, h3⟩
        show (if M.1 26 8 ≤ nI v then _ else _) = _
        rw [hK.2.1, if_pos (nI_le (by omega) (by omega))]
      | succ j ihj =>
        intro v m M a h1 h2 hK hr h3
        obtain ⟨m, rfl⟩ : ∃ q, m = q + 1 := ⟨m - 1, by omega⟩
        have hp := (prs_i S.R.1 (by omega) hP).2
        have hv : v < 15 := by omega
        by_cases hx : prs S.R.1 ≤ v
        · have e0 : fl (HH S.R S.A.gl stT (amU S) k W pre) (j + 1) = [] := (fl_nil _ (by omega)).mpr (fun x h4 h5 => HH_free (free_big (by omega) h5 (by omega)))
          refine ⟨M, ?_, Xf.rf, by rw [e0]; exact h3⟩
          show (if M.1 26 8 ≤ nI v then _ else _) = _
          rw [hK.2.1, if_pos (nI_le (by omega) (by omega))]
        · have hgr : gre v < S.R.1 := (prs_gre S.R.1 (by omega) v hv).mp (by omega)
          have e1 : fl (HH S.R S.A.gl stT (amU S) k W pre) (j + 1) = HH S.R S.A.gl stT (amU S) k W pre v ++ fl (HH S.R S.A.gl stT (amU S) k W pre) j := by
            show HH _ _ _ _ _ _ _ (14 - j) ++ _ = _
            rw [show 14 - j = v by omega]
          have un : X_Search_fit_L56 n (X_Search_fit n f) (nI d) (nI (d + (k + 1))) (nI (msk pre)) (nI (amU S W)) (m + 1) (nI v) M = (if S.A.gl &&& two_ v = 0 then (if popN 16 (amU S W &&& com v) ≤ 2 * k then bd (X_Search_step n (nI d) (nI v) M) fun r9 M10 => bd (X_Search_fit n f (nI (d + 1)) (nI (d + 1 + k)) (nI (msk (pre ++ [v]))) M10) fun _ M12 => X_Search_fit_L56 n (X_Search_fit n f) (nI d) (nI (d + (k + 1))) (nI (msk pre)) (nI (amU S W)) m (nI (v + 1)) M12 else X_Search_fit_L56 n (X_Search_fit n f) (nI d) (nI (d + (k + 1))) (nI (msk pre)) (nI (amU S W)) m (nI (v + 1)) M) else X_Search_fit_L56 n (X_Search_fit n f) (nI d) (nI (d + (k + 1))) (nI (msk pre)) (nI (amU S W)) m (nI (v + 1)) M) := by
            show (if M.1 26 8 ≤ nI v then _ else bd (X_Search_bitsOf n (nI v) M) fun r4 M5 => nm (fun (M6 : Mem) => (X_Search_fit_L56 n (X_Search_fit n f) (nI d) (nI (d + (k + 1))) (nI (msk pre)) (nI (amU S W)) m (nI v + 1) M6 : Option (Unit × Mem))) fun k122 => (if ((M5.1 16 1) &&& r4) = 0 then bd (X_Search_canMend n (nI (amU S W)) r4 ((nI (d + (k + 1)) - nI d) - 1) M5) fun r7 M8 => (if r7 = 0 then k122 M8 else bd (X_Search_step n (nI d) (nI v) M8) fun r9 M10 => bd (X_Search_fit n f (nI d + 1) (nI (d + (k + 1))) (nI (msk pre) ||| ((1 : Int32) <<< (nI v &&& 31))) M10) fun _ M12 => k122 M12) else k122 M5)) = _
            simp only [nm]
            rw [hK.2.1, if_neg (nI_ge (by omega) (by omega)), x_bits2 n hv, bd_ret, hK.1.a.1, i_left, x_mend2 n (hA.1 W) hv (by omega), nI_1, nI_1, i_shl1 (by omega), i_or, ← msk_snoc, show d + (k + 1) = d + 1 + k by omega]
            by_cases e : S.A.gl &&& two_ v = 0
            · rw [if_pos e, if_pos ((and_i0 hg).mpr e)]
              by_cases e2 : popN 16 (amU S W &&& com v) ≤ 2 * k
              · rw [if_pos e2, if_pos e2, bd_ret, if_neg i10]
              · rw [if_neg e2, if_neg e2, bd_ret, if_pos rfl]
            · rw [if_neg e, if_neg (fun q => e ((and_i0 hg).mp q))]
          have hfr := free_of (g := S.A.gl) hg hv hgr
          rw [un, e1, List.foldl_append]
          by_cases e : S.A.gl &&& two_ v = 0
          · rw [if_pos e]
            by_cases e2 : popN 16 (amU S W &&& com v) ≤ 2 * k
            · rw [if_pos e2]
              obtain ⟨r, M2, s1, s2, s3, -⟩ := x_step n hn hS hK.1 (d := d) (by omega) hv hW hr
              have f2 : Xf d M M2 := Xf.step (by omega) s2
              obtain ⟨M3, t1, t2, t3⟩ := ih f (d + 1) M2 (handF S.R S.A.gl v W) (pre ++ [v]) a (by omega) (by omega) (hK.fr f2) (hW.hand hS.hR _ _) (handF_end hv hgr he) (by rw [show 30 + (d + 1) = 31 + d by omega]; exact s3) (h3.off s2 (by simp; omega))
              have f3 := f2.trans t2.mono
              obtain ⟨M4, w1, w2, w3⟩ := ihj (v + 1) m M3 _ (by omega) (by omega) (hK.fr f3) (rows_fr hr f3) t3
              have eH : HH S.R S.A.gl stT (amU S) k W pre v = wds S.R S.A.gl stT (gdA (amU S)) k (handF S.R S.A.gl v W) (pre ++ [v]) := if_pos (by rw [hfr.mp e]; rfl)
              refine ⟨M4, ?_, f3.trans w2, by rw [eH]; exact w3⟩
              rw [s1, bd_ret, t1, bd_ret]
              exact w1
            · rw [if_neg e2]
              have eH : HH S.R S.A.gl stT (amU S) k W pre v = [] := by
                unfold HH
                split
                · exact wds_cut hA hv (by omega)
                · rfl
              rw [eH]
              exact ihj (v + 1) m M a (by omega) (by omega) hK hr h3
          · rw [if_neg e]
            have eH : HH S.R S.A.gl stT (amU S) k W pre v = [] := HH_free (Bool.eq_false_iff.mpr (fun q => e (hfr.mpr q)))
            rw [eH]
            exact ihj (v + 1) m M a (by omega) (by omega) hK hr h3
    obtain ⟨M', a1, a2, a3⟩ := key 15 0 n M a rfl (by omega) hK hr h3
    refine ⟨M', ?_, a2, a3⟩
    show gd (nI d) 7 (bd (X_Search_unlikeSeen n (([30, 31, 32, 33, 34, 35, 36] : List Nat).getD (nI d).toNatClampNeg 0) M) fun r2 M3 => (if nI d < nI (d + (k + 1)) then X_Search_fit_L56 n (X_Search_fit n f) (nI d) (nI (d + (k + 1))) (nI (msk pre)) r2 n 0 M3 else _)) = _
    rw [gd_in (vp_in_nI (n := d) (by omega) (by decide)), nI_clamp (by omega), lv_id (by omega), x_unlike n (by omega) hS hK.1 hW hr, bd_ret, if_pos (nI_lt (by omega) (by omega))]
    exact a1
