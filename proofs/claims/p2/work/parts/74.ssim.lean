/-! CALLS: seats -/
def WA (M : Mem) (A : List (List Nat)) : Prop := M.1 26 2 = nI A.length ∧ ∀ w t, A = w :: t → ∀ i x, w[i]? = some x → M.1 28 i = nI x
theorem WA.off {M M' : Mem} {A : List (List Nat)} {L : List Nat} (h : WA M A) (ho : Off L M M') (h1 : 26 ∉ L) (h2 : 28 ∉ L) : WA M' A := ⟨by rw [(ho 26 h1).1]; exact h.1, fun w t e i x hi => by rw [(ho 28 h2).1]; exact h.2 w t e i x hi⟩
theorem x_sit (n : Nat) (hn : 20 ≤ n) {S : Ab} (hS : Ok S) {u : Nat → Int32} {am : WW → Nat} (hA : OkA am) (hm : amH n S u am) : ∀ k f d b pre M A, k < f → d + k = S.R.1 → pre.length = d → b < 64 → (∀ x ∈ pre, x < S.R.1 ∧ b.testBit x = true) → Ks S u M → OkW (wk S.R S.A.gl S.A.W pre (d - 1)) → (∀ q, S.R.1 ≤ q → wk S.R S.A.gl S.A.W pre (d - 1) q = []) → rowsAt M (30 + d) (wk S.R S.A.gl S.A.W pre (d - 1)) → Pt M pre → WA M A → A.length + (pl S.R.1 k b pre).length < 2 ^ 31 → ∃ M', X_Search_sit n f (nI d) (nI b) M = some ((), M') ∧ Xf d M M' ∧ WA M' (A ++ (pl S.R.1 k b pre).filter (fun w => decide (am (wk S.R S.A.gl S.A.W w (S.R.1 - 1)) = 0))) := by
  have h6 := hS.p6
  have hP := hS.hR.1
  intro k
  induction k with
  | zero =>
    intro f d b pre M A hf hd hl hb hpx hK hW he hr hp hA' hcnt
    obtain ⟨f, rfl⟩ : ∃ q, f = q + 1 := ⟨f - 1, by omega⟩
    have hdP : d = S.R.1 := by omega
    have hlt := hA.1 (wk S.R S.A.gl S.A.W pre (d - 1))
    have un : X_Search_sit n (f + 1) (nI d) (nI b) M = (if am (wk S.R S.A.gl S.A.W pre (d - 1)) = 0 then (if M.1 26 2 = 0 then some ((), si (cpI M 27 0 28 0 6) 26 2 ((cpI M 27 0 28 0 6).1 26 2 + 1)) else some ((), si M 26 2 (M.1 26 2 + 1))) else some ((), M)) := by
      show (if nI d < M.1 11 0 then _ else gd (nI d) 7 (bd (X_Search_amiss n (([30, 31, 32, 33, 34, 35, 36] : List Nat).getD (nI d).toNatClampNeg 0) M) fun r12 M13 => (if r12 = 0 then nm (fun (M14 : Mem) => (some ((), si M14 26 2 ((M14.1 26 2) + 1)) : Option (Unit × Mem))) fun k46 => (if (M13.1 26 2) = 0 then gc (0 : Int32) (0 : Int32) (6 : Int32) 6 6 (k46 (cpI M13 27 ((0 : Int32).toNatClampNeg) 28 ((0 : Int32).toNatClampNeg) ((6 : Int32).toNatClampNeg))) else k46 M13) else some ((), M13)))) = _
      simp only [nm]
      rw [hK.1.c.1, hdP, if_neg Int32.lt_irrefl, ← hdP, gd_in (vp_in_nI (n := d) (by omega) (by decide)), nI_clamp (by omega), lv_id (by omega), hm M _ d (by omega) hK hW he hr, bd_ret]
      by_cases ea : am (wk S.R S.A.gl S.A.W pre (d - 1)) = 0
      · rw [if_pos ea, ea, if_pos (show nI 0 = 0 from rfl)]
        unfold gc
        rw [if_neg (show ¬ ((0 : Int32) < 0 ∨ (0 : Int32) < 0 ∨ (6 : Int32) < 0 ∨ 6 < (0 : Int32).toNatClampNeg + (6 : Int32).toNatClampNeg ∨ 6 < (0 : Int32).toNatClampNeg + (6 : Int32).toNatClampNeg) by decide)]
        rfl
      · rw [if_neg ea, if_neg (fun q => ea ((i_z (show am (wk S.R S.A.gl S.A.W pre (d - 1)) < 2 ^ 31 by omega)).mp q))]
    rw [un]
    have ef : (pl S.R.1 0 b pre).filter (fun w => decide (am (wk S.R S.A.gl S.A.W w (S.R.1 - 1)) = 0)) = if am (wk S.R S.A.gl S.A.W pre (d - 1)) = 0 then [pre] else [] := by
      show [pre].filter _ = _
      rw [List.filter_cons, hdP]
      by_cases ea : am (wk S.R S.A.gl S.A.W pre (S.R.1 - 1)) = 0
      · rw [if_pos ea, if_pos (decide_eq_true ea)]; rfl
      · rw [if_neg ea, if_neg (fun q => ea (of_decide_eq_true q))]; rfl
    rw [ef]
    by_cases ea : am (wk S.R S.A.gl S.A.W pre (d - 1)) = 0
    · rw [if_pos ea, if_pos ea]
      by_cases e0 : A = []
      · rw [if_pos (by rw [hA'.1, e0]; rfl)]
        refine ⟨_, rfl, Xf.trans (M' := cpI M 27 0 28 0 6) ⟨Off.cpI (by simp [xQ]), fun _ _ => rfl, fun _ _ => rfl, fun _ _ => rfl⟩ (Xf.acc (by decide)), ?_, fun w t e i x hi => ?_⟩
        · rw [si_at, show (cpI M 27 0 28 0 6).1 26 2 = M.1 26 2 from rfl, hA'.1, nI_1, List.length_append]; rfl
        · rw [e0, List.nil_append] at e
          rw [← (List.cons.inj e).1] at hi
          have hi6 : i < 6 := by have := (List.getElem?_eq_some_iff.mp hi).1; omega
          rw [si_ne (Or.inl (by decide))]
          have := cpI_at (M := M) (a := 27) (sp := 0) (b := 28) (dp := 0) hi6
          rw [Nat.zero_add] at this
          rw [this]
          exact hp i x hi
      · rw [if_neg (fun q => e0 (List.length_eq_zero_iff.mp ((i_z (by omega)).mp (hA'.1 ▸ q))))]
        refine ⟨_, rfl, Xf.acc (by decide), ?_, fun w t e i x hi => ?_⟩
        · rw [si_at, hA'.1, nI_1, List.length_append]; rfl
        · obtain ⟨w0, t0, e0'⟩ := List.exists_cons_of_ne_nil e0
          rw [e0', List.cons_append] at e
          rw [← (List.cons.inj e).1] at hi
          rw [si_ne (Or.inl (by decide))]
          exact hA'.2 w0 t0 e0' i x hi
    · rw [if_neg ea, if_neg ea, List.append_nil]
      exact ⟨M, rfl, Xf.rf, hA'⟩
  | succ k ih =>
    intro f d b pre M A hf hd hl hb hpx hK hW he hr hp hA' hcnt
    obtain ⟨f, rfl⟩ : ∃ q, f = q + 1 := ⟨f - 1, by omega⟩
    have hd6 : d < 6 := by omega
    generalize hh : (fun v => if b.testBit v then [] else pl S.R.1 k (b ||| 2 ^ v) (pre ++ [v])) = h
    have key : ∀ j v m M A, v + j = S.R.1 → j < m → Ks S u M → rowsAt M (30 + d) (wk S.R S.A.gl S.A.W pre (d - 1)) → Pt M pre → WA M A → A.length + (flP S.R.1 h j).length < 2 ^ 31 → ∃ M', X_Search_sit_L59 n (X_Search_sit n f) (nI d) (nI b) m (nI v) M = some ((), M') ∧ Xf d M M' ∧ WA M' (A ++ (flP S.R.1 h j).filter (fun w => decide (am (wk S.R S.A.gl S.A.W w (S.R.1 - 1)) = 0))) := by
      intro j
      induction j with
      | zero =>
        intro v m M A h1 h2 hK hr hp hA' hcnt
        obtain ⟨m, rfl⟩ : ∃ q, m = q + 1 := ⟨m - 1, by omega⟩
        refine ⟨M, ?_, Xf.rf, by show WA M (A ++ []); rw [List.append_nil]; exact hA'⟩
        show (if M.1 11 0 ≤ nI v then _ else _) = _
        rw [hK.1.c.1, if_pos (nI_le (by omega) (by omega))]
      | succ j ihj =>
        intro v m M A h1 h2 hK hr hp hA' hcnt
        obtain ⟨m, rfl⟩ : ∃ q, m = q + 1 := ⟨m - 1, by omega⟩
        have hv : v < S.R.1 := by omega
        have e1 : flP S.R.1 h (j + 1) = h v ++ flP S.R.1 h j := by
          show h (S.R.1 - (j + 1)) ++ _ = _
          rw [show S.R.1 - (j + 1) = v by omega]
        rw [e1, List.length_append] at hcnt
        generalize hself : X_Search_sit n f = self at ihj
        have un0 : X_Search_sit_L59 n self (nI d) (nI b) (m + 1) (nI v) M = (if b.testBit v then X_Search_sit_L59 n self (nI d) (nI b) m (nI (v + 1)) M else (if nI d = 0 then (bd (X_Search_step n (nI d) (-1) (si M 27 d (nI v))) fun r4 M5 => bd (self (nI (d + 1)) (nI (b ||| 2 ^ v)) M5) fun _ M7 => X_Search_sit_L59 n self (nI d) (nI b) m (nI (v + 1)) M7) else gd (nI d - 1) 6 (bd (X_ShakeHands_pairOf n ((si M 27 d (nI v)).1 27 (nI d - 1).toNatClampNeg) (nI v) (si M 27 d (nI v))) fun r9 M10 => (bd (X_Search_step n (nI d) r9 M10) fun r4 M5 => bd (self (nI (d + 1)) (nI (b ||| 2 ^ v)) M5) fun _ M7 => X_Search_sit_L59 n self (nI d) (nI b) m (nI (v + 1)) M7)))) := by
          show (if M.1 11 0 ≤ nI v then _ else nm (fun (M1 : Mem) => (X_Search_sit_L59 n self (nI d) (nI b) m (nI v + 1) M1 : Option (Unit × Mem))) fun k123 => (if ((((nI b).toUInt32 >>> ((nI v).toUInt32 &&& Int32.toUInt32 31)).toInt32) &&& 1) = 0 then gd (nI d) 6 (nm (fun (u2 : Int32) (M3 : Mem) => (bd (X_Search_step n (nI d) u2 M3) fun r4 M5 => bd (self (nI d + 1) (nI b ||| ((1 : Int32) <<< (nI v &&& 31))) M5) fun _ M7 => k123 M7 : Option (Unit × Mem))) fun k107 => (if nI d = 0 then k107 (-1) (si M 27 ((nI d).toNatClampNeg) (nI v)) else nm (si M 27 ((nI d).toNatClampNeg) (nI v)) fun N8 => gd (nI d - 1) 6 (bd (X_ShakeHands_pairOf n (N8.1 27 (nI d - 1).toNatClampNeg) (nI v) N8) fun r9 M10 => k107 r9 M10))) else k123 M)) = _
          simp only [nm]
          rw [hK.1.c.1, if_neg (nI_ge hv (by omega)), b_iu (by omega) (by omega), gd_in (vp_in_nI (n := d) (by omega) (by decide)), nI_clamp (show d < 2 ^ 31 by omega), nI_1, nI_1, i_shl1 (by omega), i_or]
          cases b.testBit v <;> rfl
        rw [un0, e1, List.filter_append, ← List.append_assoc]
        cases eb : b.testBit v with
        | true =>
          rw [if_pos rfl]
          have eh : h v = [] := by rw [← hh]; exact if_pos eb
          rw [eh, List.filter_nil, List.append_nil]
          rw [eh] at hcnt
          exact ihj (v + 1) m M A (by omega) (by omega) hK hr hp hA' (by rw [List.length_nil] at hcnt; omega)
        | false =>
          rw [if_neg Bool.false_ne_true]
          have eh : h v = pl S.R.1 k (b ||| 2 ^ v) (pre ++ [v]) := by rw [← hh]; exact if_neg (by rw [eb]; exact Bool.false_ne_true)
          have fN : Xf d M (si M 27 d (nI v)) := Xf.path
          have pN' : Pt (si M 27 d (nI v)) (pre ++ [v]) := (hp.fr (by omega) fN).snoc (by rw [hl]; exact si_at _ _ _ _)
          have hKN := hK.fr fN
          have hrN := rows_fr hr fN
          have hAN : WA (si M 27 d (nI v)) A := hA'.off (L := [27]) (Off.si (by simp)) (by simp) (by simp)
          obtain ⟨M2, s1, s2, s3, s4, s5, s6⟩ : ∃ M2, (if nI d = 0 then (bd (X_Search_step n (nI d) (-1) (si M 27 d (nI v))) fun r4 M5 => bd (self (nI (d + 1)) (nI (b ||| 2 ^ v)) M5) fun _ M7 => X_Search_sit_L59 n self (nI d) (nI b) m (nI (v + 1)) M7) else gd (nI d - 1) 6 (bd (X_ShakeHands_pairOf n ((si M 27 d (nI v)).1 27 (nI d - 1).toNatClampNeg) (nI v) (si M 27 d (nI v))) fun r9 M10 => (bd (X_Search_step n (nI d) r9 M10) fun r4 M5 => bd (self (nI (d + 1)) (nI (b ||| 2 ^ v)) M5) fun _ M7 => X_Search_sit_L59 n self (nI d) (nI b) m (nI (v + 1)) M7))) = (bd (self (nI (d + 1)) (nI (b ||| 2 ^ v)) M2) fun _ M7 => X_Search_sit_L59 n self (nI d) (nI b) m (nI (v + 1)) M7) ∧ Xf d (si M 27 d (nI v)) M2 ∧ rowsAt M2 (30 + (d + 1)) (wk S.R S.A.gl S.A.W (pre ++ [v]) d) ∧ OkW (wk S.R S.A.gl S.A.W (pre ++ [v]) d) ∧ (∀ q, S.R.1 ≤ q → wk S.R S.A.gl S.A.W (pre ++ [v]) d q = []) ∧ Pt M2 (pre ++ [v]) ∧ WA M2 A := by
            rcases Nat.eq_zero_or_pos d with e | e
            · subst e
              obtain ⟨M2, t1, t2, t3⟩ := x_step0 (S := S) n (M := si M 27 0 (nI v)) hrN
              refine ⟨M2, ?_, ⟨t2.mono (fun a ha => xQ_of (by simp at ha; omega)), fun k _ => by rw [(t2 26 (by simp)).1], fun e q => (t2 (30 + e) (by simp; omega)).2, fun i q => absurd q (Nat.not_lt_zero i)⟩, t3, hW, he, fun i x hi => by rw [(t2 27 (by simp)).1]; exact pN' i x hi, hAN.off t2 (by simp) (by simp)⟩
              rw [if_pos (show nI 0 = 0 from rfl), show X_Search_step n (nI 0) (-1) (si M 27 0 (nI v)) = _ from t1, bd_ret]
            · have hd0 : d - 1 < pre.length := by omega
              have hlast := getD_mem (w := pre) (i := d - 1) hd0
              obtain ⟨l1, l2⟩ := hpx _ hlast
              have hne : pre.getD (d - 1) 0 ≠ v := fun q => by rw [q, eb] at l2; exact absurd l2 Bool.false_ne_true
              have hpr := pr_ok _ (show pre.getD (d - 1) 0 < 6 by omega) v (by omega) hne
              obtain ⟨r, M2, t1, t2, t3, -⟩ := x_step n hn hS hKN.1 (d := d) hd6 hpr.1 hW hrN
              have ewk : wk S.R S.A.gl S.A.W (pre ++ [v]) d = handF S.R S.A.gl (prN (pre.getD (d - 1) 0) v) (wk S.R S.A.gl S.A.W pre (d - 1)) := by
                obtain ⟨c, rfl⟩ : ∃ c, d = c + 1 := ⟨d - 1, by omega⟩
                rw [Nat.add_sub_cancel]
                conv => lhs; unfold wk
                rw [wk_app c (by omega), getD_app (show c < pre.length by omega), show (pre ++ [v]).getD (c + 1) 0 = v by rw [← hl]; exact getD_end pre v]
              rw [ewk]
              refine ⟨M2, ?_, Xf.step hd6 t2, by rw [show 30 + (d + 1) = 31 + d by omega]; exact t3, hW.hand hS.hR _ _, handF_end hpr.1 (by rw [hpr.2.2]; omega) he, fun i x hi => by rw [(t2 27 (by simp; omega)).1]; exact pN' i x hi, hAN.off t2 (by simp; omega) (by simp; omega)⟩
              have e27 : (si M 27 d (nI v)).1 27 (d - 1) = nI (pre.getD (d - 1) 0) := by
                rw [si_ne (Or.inr (by omega))]
                exact hp _ _ (getD_some hd0)
              rw [if_neg (fun q => by have := (i_z (k := d) (by omega)).mp q; omega), show nI d - 1 = nI (d - 1) by rw [show (1 : Int32) = nI 1 from rfl, pk_sub (by omega)], gd_in (vp_in_nI (n := d - 1) (by omega) (by decide)), nI_clamp (show d - 1 < 2 ^ 31 by omega), e27, x_pairOf n (by omega) (by omega) hne, bd_ret, t1, bd_ret]
          rw [s1]
          obtain ⟨M3, t1, t2, t3⟩ := ih f (d + 1) (b ||| 2 ^ v) (pre ++ [v]) M2 A (by omega) (by omega) (by rw [List.length_append, hl]; rfl) (Nat.or_lt_two_pow (n := 6) hb (Nat.pow_lt_pow_right (by decide) (by omega))) (fun x hx => by
            rw [or_bit]
            rcases List.mem_append.mp hx with q | q
            · exact ⟨(hpx x q).1, by rw [(hpx x q).2]; rfl⟩
            · rw [List.mem_singleton.mp q, decide_eq_true rfl, Bool.or_true]
              exact ⟨hv, rfl⟩) (hKN.fr s2) s4 s5 s3 s6.1 s6.2 (by rw [← eh]; omega)
          rw [hself] at t1
          have f3 := (fN.trans s2).trans t2.mono
          rw [← eh] at t3
          have hfl : ((h v).filter (fun w => decide (am (wk S.R S.A.gl S.A.W w (S.R.1 - 1)) = 0))).length ≤ (h v).length := List.length_filter_le _ _
          obtain ⟨M4, w1, w2, w3⟩ := ihj (v + 1) m M3 _ (by omega) (by omega) (hK.fr f3) (rows_fr hr f3) (hp.fr (by omega) f3) t3 (by rw [List.length_append]; omega)
          refine ⟨M4, ?_, f3.trans w2, w3⟩
          rw [t1, bd_ret]
          exact w1
    obtain ⟨M', a1, a2, a3⟩ := key S.R.1 0 n M A (by omega) (by omega) hK hr hp hA' (by unfold pl at hcnt; rw [hh] at hcnt; exact hcnt)
    refine ⟨M', ?_, a2, by unfold pl; rw [hh]; exact a3⟩
    show (if nI d < M.1 11 0 then X_Search_sit_L59 n (X_Search_sit n f) (nI d) (nI b) n 0 M else _) = _
    rw [hK.1.c.1, if_pos (nI_lt (by omega) (by omega))]
    exact a1
theorem seat_bits {P a b p : Nat} (hP : P ≤ 6) (ha : a < 2 ^ P) (hp : p < P) (hb : b.testBit p = false) : (a &&& (b ^^^ (2 ^ 32 - 1)) = 2 ^ p) ↔ (a ^^^ 2 ^ p) &&& (2 ^ p ||| clN ((2 ^ P - 1) &&& (b ^^^ (2 ^ 32 - 1))) p) = 0 := by
  have ha32 : ∀ i, P ≤ i → a.testBit i = false := fun i hi => Nat.testBit_lt_two_pow (Nat.lt_of_lt_of_le ha (Nat.pow_le_pow_right (by decide) hi))
  constructor
  · intro h
    apply Nat.eq_of_testBit_eq
    intro i
    have hi := congrArg (fun q => q.testBit i) h
    simp only [Nat.testBit_and, Nat.testBit_two_pow] at hi
    rw [Nat.zero_testBit, Nat.testBit_and, Nat.testBit_xor, Nat.testBit_or, Nat.testBit_two_pow, clN_bit, Nat.testBit_and, Nat.testBit_two_pow_sub_one]
    by_cases e : i < P
    · rw [com_bit (by omega)] at hi ⊢
      by_cases e2 : p = i
      · subst e2
        rw [hb] at hi
        simp at hi ⊢
        exact hi
      · rw [decide_eq_false e2] at hi ⊢
        cases e3 : b.testBit i <;> rw [e3] at hi <;> simp at hi ⊢
        · rw [hi]; simp
    · rw [ha32 i (by omega), decide_eq_false (show ¬ p = i by omega), decide_eq_false e]
      rfl
  · intro h
    apply Nat.eq_of_testBit_eq
    intro i
    have hi := congrArg (fun q => q.testBit i) h
    simp only [Nat.zero_testBit, Nat.testBit_and, Nat.testBit_xor, Nat.testBit_or, Nat.testBit_two_pow, clN_bit, Nat.testBit_two_pow_sub_one] at hi
    rw [Nat.testBit_and, Nat.testBit_two_pow]
    by_cases e : i < P
    · have e32 : decide (i < 32) = true := decide_eq_true (by omega)
      rw [e32, Bool.xor_true] at hi
      rw [com_bit (by omega)]
      by_cases e2 : p = i
      · subst e2
        rw [hb] at hi ⊢
        rw [decide_eq_true rfl] at hi ⊢
        cases e4 : a.testBit p
        · rw [e4] at hi; simp at hi
        · rfl
      · rw [decide_eq_false e2] at hi ⊢
        cases e3 : b.testBit i
        · rw [e3] at hi
          cases e4 : a.testBit i
          · rfl
          · rw [e4] at hi
            have e5 : i ≠ p := fun q => e2 q.symm
            simp [e, e5] at hi
        · rw [Bool.not_true, Bool.and_false]
    · rw [ha32 i (by omega), decide_eq_false (show ¬ p = i by omega), Bool.false_and]
theorem s_cases {P : Nat} (hP : P ≤ 6) (a : Int32) : ((a < 10 ∨ (¬ a < 10 ∧ nI (10 + P) ≤ a ∧ a ≠ 0)) ∧ vN (a - 10) P = false) ∨ ∃ k, k < P ∧ a = nI (10 + k) ∧ vN (a - 10) P = true := by
  cases ev : vN (a - 10) P with
  | true =>
    obtain ⟨k, h1, h2⟩ : ∃ k, k < P ∧ a - 10 = nI k := ⟨_, vN_y (by omega) ev⟩
    refine Or.inr ⟨k, h1, ?_, rfl⟩
    rw [← Int32.sub_add_cancel a 10, h2, show (10 : Int32) = nI 10 from rfl, nI_add, Nat.add_comm]
  | false =>
    refine Or.inl ⟨?_, rfl⟩
    rcases i_cases a with q | ⟨k, hk, rfl⟩
    · exact Or.inl (Int32.lt_trans q (by decide))
    · by_cases e : k < 10
      · exact Or.inl (nI_lt (b := 10) e (by decide))
      · refine Or.inr ⟨Int32.not_lt.mpr (nI_le (a := 10) (by omega) hk), ?_, fun q => by have := (i_z hk).mp q; omega⟩
        apply nI_le _ hk
        have es : nI k - 10 = nI (k - 10) := by rw [show (10 : Int32) = nI 10 from rfl, pk_sub (by omega)]
        rw [es, vN_k (by omega) (by omega)] at ev
        have := of_decide_eq_false ev
        omega
