/-! SEARCH: seats -/
def wk (R : Rl) (g : Nat) (W : WW) (w : List Nat) : Nat → WW
  | 0 => W
  | i + 1 => handF R g (prN (w.getD i 0) (w.getD (i + 1) 0)) (wk R g W w i)
theorem getD_app {w : List Nat} {i v : Nat} (h : i < w.length) : (w ++ [v]).getD i 0 = w.getD i 0 := by
  rw [List.getD_eq_getElem?_getD, List.getD_eq_getElem?_getD, List.getElem?_append_left h]
theorem getD_end (w : List Nat) (v : Nat) : (w ++ [v]).getD w.length 0 = v := by
  rw [List.getD_eq_getElem?_getD, List.getElem?_append_right (Nat.le_refl _), Nat.sub_self]; rfl
theorem getD_some {w : List Nat} {i : Nat} (h : i < w.length) : w[i]? = some (w.getD i 0) := by
  rw [List.getD_eq_getElem?_getD, List.getElem?_eq_getElem h]; rfl
theorem wk_app {R : Rl} {g : Nat} {W : WW} {w : List Nat} {v : Nat} : ∀ i, i < w.length → wk R g W (w ++ [v]) i = wk R g W w i
  | 0, _ => rfl
  | i + 1, h => by
    unfold wk
    rw [wk_app i (by omega), getD_app (show i < w.length by omega), getD_app h]
def okw (P : Nat) (w : List Nat) : Bool := decide (w.length = P) && (w.all (fun x => decide (x < P)) && (List.range (P - 1)).all (fun i => decide (w.getD i 0 ≠ w.getD (i + 1) 0)))
theorem pl_okw : ∀ P, P < 7 → 2 ≤ P → (pl P P 0 []).all (okw P) = true := by decide +kernel
theorem okw_p {P : Nat} {w : List Nat} (h : okw P w = true) : w.length = P ∧ (∀ x ∈ w, x < P) ∧ ∀ i, i + 1 < P → w.getD i 0 ≠ w.getD (i + 1) 0 := by
  unfold okw at h
  rw [Bool.and_eq_true, Bool.and_eq_true, List.all_eq_true, List.all_eq_true] at h
  exact ⟨of_decide_eq_true h.1, fun x hx => of_decide_eq_true (h.2.1 x hx), fun i hi => of_decide_eq_true (h.2.2 i (List.mem_range.mpr (by omega)))⟩
theorem getD_mem {w : List Nat} {i : Nat} (h : i < w.length) : w.getD i 0 ∈ w := by
  have := getD_some h
  exact List.mem_of_getElem? this
theorem wk_ok {R : Rl} (hR : OkR R) {g : Nat} {W : WW} (hW : OkW W) (w : List Nat) : ∀ i, OkW (wk R g W w i)
  | 0 => hW
  | i + 1 => (wk_ok hR hW w i).hand hR _ _
theorem m_L107 {S : Ab} (hS : Ok S) {a1 a2 a3 a4 a5 a6 a7 : Int32} (n : Nat) (hn : 20 ≤ n) (kx : Mem → Option (Int32 × Mem)) {W : WW} (hW : OkW W) {w : List Nat} (hw : okw S.R.1 w = true) : ∀ d i f M, i + d + 1 = S.R.1 → d < f → MA M S → Sq M w → LyM M 15 (60 * 0) (wk S.R S.A.gl W w i) → ∃ M', X_Model_seats_L107 n a1 a2 a3 a4 a5 a6 a7 kx f (nI i) M = kx M' ∧ Fr (mh 0) M M' ∧ LyM M' 15 (60 * 0) (wk S.R S.A.gl W w (S.R.1 - 1)) := by
  have h6 := hS.p6
  obtain ⟨w1, w2, w3⟩ := okw_p hw
  intro d
  induction d with
  | zero =>
    intro i f M h1 h2 hM hs hl
    obtain ⟨f, rfl⟩ : ∃ q, f = q + 1 := ⟨f - 1, by omega⟩
    refine ⟨M, ?_, Fr.rf, by rw [show S.R.1 - 1 = i by omega]; exact hl⟩
    show (if M.1 0 2 ≤ nI i + 1 then _ else _) = _
    rw [hM.c.1, nI_1, if_pos (nI_le (by omega) (by omega))]
  | succ d ih =>
    intro i f M h1 h2 hM hs hl
    obtain ⟨f, rfl⟩ : ∃ q, f = q + 1 := ⟨f - 1, by omega⟩
    have ha : w.getD i 0 < 6 := by have := w2 _ (getD_mem (w := w) (i := i) (by omega)); omega
    have hb : w.getD (i + 1) 0 < 6 := by have := w2 _ (getD_mem (w := w) (i := i + 1) (by omega)); omega
    have hab := w3 i (by omega)
    have hpr := (pr_ok _ ha _ hb hab).1
    obtain ⟨M2, b1, b2, b3⟩ := m_shakes n hn hS.hR hM.c (L := 0) (by omega) (wk_ok hS.hR hW w i) hl (g := S.A.gl) (x := prN (w.getD i 0) (w.getD (i + 1) 0)) (by have := hS.gl; omega) hpr
    have hM2 : MA M2 S := hM.fr hS (mh_S b2)
    obtain ⟨M', c1, c2, c3⟩ := ih (i + 1) f M2 (by omega) (by omega) hM2 (fun j x hj => by rw [(b2 21 j (fun q => by unfold mh mk rg at q; omega)).1]; exact hs j x hj) b3
    refine ⟨M', ?_, b2.trans c2, c3⟩
    rw [← c1]
    show (if M.1 0 2 ≤ nI i + 1 then _ else gd (nI i) 6 (gd (nI i + 1) 6 (bd (X_Model_pairOf n (M.1 21 (nI i).toNatClampNeg) (M.1 21 (nI i + 1).toNatClampNeg) M) fun r14 M15 => bd (X_Model_worn n M15) fun r16 M17 => bd (X_Model_shakes n 0 r14 r16 M17) fun _ M19 => X_Model_seats_L107 n a1 a2 a3 a4 a5 a6 a7 kx f (nI i + 1) M19))) = _
    rw [hM.c.1, nI_1, if_neg (nI_ge (by omega) (by omega)), gd_in (vp_in_nI (n := i) (by omega) (by decide)), gd_in (vp_in_nI (n := i + 1) (by omega) (by decide)), nI_clamp (show i < 2 ^ 31 by omega), nI_clamp (show i + 1 < 2 ^ 31 by omega), hs i _ (getD_some (by omega)), hs (i + 1) _ (getD_some (by omega)), m_pairOf n ha hb hab, bd_ret, m_worn n hn hM.c.1 h6 hS.hA.2.2.1 hM.a.2.1, bd_ret, show X_Model_shakes n 0 (nI (prN (w.getD i 0) (w.getD (i + 1) 0))) (nI S.A.gl) M = _ from b1, bd_ret]
def F22 (M : Mem) (A : List (List Nat)) : Prop := ∀ w t, A = w :: t → ∀ i x, w[i]? = some x → M.1 22 i = nI x
theorem m_L172 {a1 a2 a3 a4 a5 a7 : Int32} (n : Nat) (kx : Mem → Option (Int32 × Mem)) {P : Nat} (hP : P ≤ 6) {w : List Nat} (hw : w.length = P) : ∀ d i f M, i + d = P → d < f → M.1 0 2 = nI P → Sq M w → (∀ j x, j < i → w[j]? = some x → M.1 22 j = nI x) → ∃ M', X_Model_seats_L172 n a1 a2 a3 a4 a5 0 a7 kx f (nI i) M = kx M' ∧ Fr (fun c _ => c = 22) M M' ∧ ∀ j x, w[j]? = some x → M'.1 22 j = nI x
  | 0, i, f, M, h1, h2, hM, hs, hq => by
    obtain ⟨f, rfl⟩ : ∃ q, f = q + 1 := ⟨f - 1, by omega⟩
    refine ⟨M, ?_, Fr.rf, fun j x hj => hq j x (by have := (List.getElem?_eq_some_iff.mp hj).1; omega) hj⟩
    show (if M.1 0 2 ≤ nI i then _ else _) = _
    rw [hM, if_pos (nI_le (by omega) (by omega))]
  | d + 1, i, f, M, h1, h2, hM, hs, hq => by
    obtain ⟨f, rfl⟩ : ∃ q, f = q + 1 := ⟨f - 1, by omega⟩
    have f1 : Fr (fun c _ => c = 22) M (si M 22 i (M.1 21 i)) := Fr.si rfl
    obtain ⟨M', q1, q2, q3⟩ := m_L172 n kx hP hw d (i + 1) f (si M 22 i (M.1 21 i)) (by omega) (by omega) hM hs (fun j x hj hx => by
      by_cases e : j = i
      · subst e
        rw [si_at]
        exact hs j x hx
      · rw [si_ne (Or.inr e)]
        exact hq j x (by omega) hx)
    refine ⟨M', ?_, f1.trans q2, q3⟩
    rw [← q1]
    show (if M.1 0 2 ≤ nI i then _ else (if (0 : Int32) = 0 then gd (nI i) 6 (gd (nI i) 6 (X_Model_seats_L172 n a1 a2 a3 a4 a5 0 a7 kx f (nI i + 1) (si M 22 ((nI i).toNatClampNeg) (M.1 21 (nI i).toNatClampNeg)))) else kx M)) = _
    rw [hM, if_neg (nI_ge (by omega) (by omega)), if_pos rfl, gd_in (vp_in_nI (n := i) (by omega) (by decide)), gd_in (vp_in_nI (n := i) (by omega) (by decide)), nI_clamp (by omega), nI_1]
def gdS (S : Ab) (t b0 p : Nat) (w : List Nat) : Bool := decide (whoN (wk S.R S.A.gl S.A.W w (S.R.1 - 1)) t S.R.1 &&& (b0 ^^^ (2 ^ 32 - 1)) = 2 ^ p)
theorem m_L86 {S : Ab} (hS : Ok S) (n : Nat) (hn : 61 ≤ n) {t b0 p : Nat} (ht : t < 16) (hb0 : b0 < 64) (hp : p < 6) {a3 : Int32} (kx : Int32 → Mem → Option (Int32 × Mem)) : ∀ suf pre f M, pl S.R.1 S.R.1 0 [] = pre ++ suf → suf.length < f → MA M S → F22 M (pre.filter (gdS S t b0 p)) → ∃ M', X_Model_seats_L86 n (nI t) (nI p) a3 (nI b0) (nI (fc S.R.1)) kx f (nI (pre.filter (gdS S t b0 p)).length) (nI pre.length) M = kx (nI ((pl S.R.1 S.R.1 0 []).filter (gdS S t b0 p)).length) M' ∧ MA M' S ∧ F22 M' ((pl S.R.1 S.R.1 0 []).filter (gdS S t b0 p))
  | [], pre, f, M, h1, h2, hM, hF => by
    obtain ⟨f, rfl⟩ : ∃ q, f = q + 1 := ⟨f - 1, by omega⟩
    have h6 := hS.p6
    have hP := hS.hR.1
    have hf := fc_le S.R.1 (by omega)
    have hl := pl_len (P := S.R.1) (by omega) hP
    rw [List.append_nil] at h1
    rw [h1] at hl ⊢
    refine ⟨M, ?_, hM, hF⟩
    show (if nI (fc S.R.1) ≤ nI pre.length then _ else _) = _
    rw [hl, if_pos (nI_le (Nat.le_refl _) (by omega))]
  | w :: suf, pre, f, M, h1, h2, hM, hF => by
    rw [List.length_cons] at h2
    obtain ⟨f, rfl⟩ : ∃ q, f = q + 1 := ⟨f - 1, by omega⟩
    have h6 := hS.p6
    have hP := hS.hR.1
    have hf := fc_le S.R.1 (by omega)
    have hl := pl_len (P := S.R.1) (by omega) hP
    have hlen : pre.length < fc S.R.1 := by rw [← hl, h1, List.length_append, List.length_cons]; omega
    have ew : (pl S.R.1 S.R.1 0 [])[pre.length]? = some w := by rw [h1, List.getElem?_append_right (Nat.le_refl _), Nat.sub_self]; rfl
    have hok : okw S.R.1 w = true := List.all_eq_true.mp (pl_okw S.R.1 (by omega) hP) w (List.mem_of_getElem? ew)
    have hfl : (pre.filter (gdS S t b0 p)).length ≤ 720 := Nat.le_trans (List.length_filter_le _ _) (by omega)
    obtain ⟨M1, s1, s2, s3⟩ := m_sits n (by omega) (P := S.R.1) (i := pre.length) (by omega) hP hM.c.1 ew
    have hM1 : MA M1 S := hM.fr hS (s2.mono (fun c k q => by unfold mS; omega))
    have f6 : Fr (mh 0) M1 (m0 M1) := m0_fr M1
    have hM2 : MA (m0 M1) S := hM1.fr hS (mh_S f6)
    have sq2 : Sq (m0 M1) w := fun j x hj => by rw [(f6 21 j (fun q => by unfold mh mk rg at q; omega)).1]; exact s3 j x hj
    generalize hkx2 : (fun M20 : Mem => bd (X_Model_whoIn n 0 (nI t) M20) fun r21 M22 => nm (fun (z23 : Int32) (M24 : Mem) => (X_Model_seats_L86 n (nI t) (nI p) a3 (nI b0) (nI (fc S.R.1)) kx f z23 (nI pre.length + 1) M24 : Option (Int32 × Mem))) fun k209 => (if (r21 &&& (nI b0 ^^^ (-1))) = ((1 : Int32) <<< (nI p &&& 31)) then X_Model_seats_L172 n (nI t) (nI p) a3 (nI b0) (nI (fc S.R.1)) (nI (pre.filter (gdS S t b0 p)).length) (nI pre.length) (fun M25 => k209 (nI (pre.filter (gdS S t b0 p)).length + 1) M25) n 0 M22 else k209 (nI (pre.filter (gdS S t b0 p)).length) M22)) = kx2
    obtain ⟨M3, c1, c2, c3⟩ := m_L107 hS (a1 := nI t) (a2 := nI p) (a3 := a3) (a4 := nI b0) (a5 := nI (fc S.R.1)) (a6 := nI (pre.filter (gdS S t b0 p)).length) (a7 := nI pre.length) n (by omega) kx2 hS.hA.1 hok (S.R.1 - 1) 0 n (m0 M1) (by omega) (by omega) hM2 sq2 (m0_ly hS hM1)
    have hM3 : MA M3 S := hM2.fr hS (mh_S c2)
    have sq3 : Sq M3 w := fun j x hj => by rw [(c2 21 j (fun q => by unfold mh mk rg at q; omega)).1]; exact sq2 j x hj
    have e22 : ∀ k, M3.1 22 k = M.1 22 k := fun k => by
      rw [(c2 22 k (fun q => by unfold mh mk rg at q; omega)).1, (f6 22 k (fun q => by unfold mh mk rg at q; omega)).1, (s2 22 k (fun q : 22 = 21 => absurd q (by decide))).1]
    have hF3 : F22 M3 (pre.filter (gdS S t b0 p)) := fun w' t' e i x hi => by rw [e22]; exact hF w' t' e i x hi
    have hwk := wk_ok hS.hR (g := S.A.gl) hS.hA.1 w (S.R.1 - 1)
    have un : X_Model_seats_L86 n (nI t) (nI p) a3 (nI b0) (nI (fc S.R.1)) kx (f + 1) (nI (pre.filter (gdS S t b0 p)).length) (nI pre.length) M = (if gdS S t b0 p w then X_Model_seats_L172 n (nI t) (nI p) a3 (nI b0) (nI (fc S.R.1)) (nI (pre.filter (gdS S t b0 p)).length) (nI pre.length) (fun M25 => X_Model_seats_L86 n (nI t) (nI p) a3 (nI b0) (nI (fc S.R.1)) kx f (nI ((pre.filter (gdS S t b0 p)).length + 1)) (nI (pre.length + 1)) M25) n 0 M3 else X_Model_seats_L86 n (nI t) (nI p) a3 (nI b0) (nI (fc S.R.1)) kx f (nI (pre.filter (gdS S t b0 p)).length) (nI (pre.length + 1)) M3) := by
      show (if nI (fc S.R.1) ≤ nI pre.length then _ else bd (X_Model_sits n (nI pre.length) M) fun _ M11 => bd (X_Model_begins n 0 M11) fun _ M13 => X_Model_seats_L107 n (nI t) (nI p) a3 (nI b0) (nI (fc S.R.1)) (nI (pre.filter (gdS S t b0 p)).length) (nI pre.length) (fun M20 : Mem => bd (X_Model_whoIn n 0 (nI t) M20) fun r21 M22 => nm (fun (z23 : Int32) (M24 : Mem) => (X_Model_seats_L86 n (nI t) (nI p) a3 (nI b0) (nI (fc S.R.1)) kx f z23 (nI pre.length + 1) M24 : Option (Int32 × Mem))) fun k209 => (if (r21 &&& (nI b0 ^^^ (-1))) = ((1 : Int32) <<< (nI p &&& 31)) then X_Model_seats_L172 n (nI t) (nI p) a3 (nI b0) (nI (fc S.R.1)) (nI (pre.filter (gdS S t b0 p)).length) (nI pre.length) (fun M25 => k209 (nI (pre.filter (gdS S t b0 p)).length + 1) M25) n 0 M22 else k209 (nI (pre.filter (gdS S t b0 p)).length) M22)) n 0 M13) = _
      rw [hkx2, if_neg (nI_ge hlen (by omega)), s1, bd_ret, show X_Model_begins n 0 M1 = some ((), m0 M1) from m_begins n hn (L := 0) (by omega) M1, bd_ret, show X_Model_seats_L107 n (nI t) (nI p) a3 (nI b0) (nI (fc S.R.1)) (nI (pre.filter (gdS S t b0 p)).length) (nI pre.length) kx2 n 0 (m0 M1) = _ from c1, ← hkx2]
      simp only [nm]
      rw [show X_Model_whoIn n 0 (nI t) M3 = _ from m_whoIn n (by omega) hM3.c.1 h6 (L := 0) (by omega) ht hwk c3, bd_ret, i_com _ (by omega), i_shl1 (by omega), nI_1, nI_1]
      have hw6 := wlt h6 (wk S.R S.A.gl S.A.W w (S.R.1 - 1)) t
      have hp2 : 2 ^ p ≤ 2 ^ 6 := Nat.pow_le_pow_right (by decide) (by omega)
      by_cases e : whoN (wk S.R S.A.gl S.A.W w (S.R.1 - 1)) t S.R.1 &&& (b0 ^^^ (2 ^ 32 - 1)) = 2 ^ p
      · rw [if_pos (by rw [e]), if_pos (show gdS S t b0 p w = true from decide_eq_true e)]
      · rw [if_neg (fun q => e ((nI_eq (Nat.lt_of_le_of_lt Nat.and_le_left (by omega)) (by omega)).mp q)), if_neg (show ¬ gdS S t b0 p w = true from fun q => e (of_decide_eq_true q))]
    have e2 : pl S.R.1 S.R.1 0 [] = (pre ++ [w]) ++ suf := by rw [h1, List.append_assoc]; rfl
    have elen : (pre ++ [w]).length = pre.length + 1 := by rw [List.length_append, List.length_singleton]
    rw [un]
    by_cases eg : gdS S t b0 p w = true
    · have ef : (pre ++ [w]).filter (gdS S t b0 p) = pre.filter (gdS S t b0 p) ++ [w] := by
        rw [List.filter_append, List.filter_cons, if_pos eg]; rfl
      have ef2 : ((pre ++ [w]).filter (gdS S t b0 p)).length = (pre.filter (gdS S t b0 p)).length + 1 := by rw [ef, List.length_append, List.length_singleton]
      rw [if_pos eg]
      by_cases e0 : pre.filter (gdS S t b0 p) = []
      · obtain ⟨M4, d1, d2, d3⟩ := m_L172 (a1 := nI t) (a2 := nI p) (a3 := a3) (a4 := nI b0) (a5 := nI (fc S.R.1)) (a7 := nI pre.length) n (fun M25 => X_Model_seats_L86 n (nI t) (nI p) a3 (nI b0) (nI (fc S.R.1)) kx f (nI ((pre.filter (gdS S t b0 p)).length + 1)) (nI (pre.length + 1)) M25) h6 (okw_p hok).1 S.R.1 0 n M3 (by omega) (by omega) hM3.c.1 sq3 (fun j x hj => absurd hj (Nat.not_lt_zero j))
        have hM4 : MA M4 S := hM3.fr hS (d2.mono (fun c k q => by unfold mS; omega))
        obtain ⟨M', g1, g2, g3⟩ := m_L86 hS n hn ht hb0 hp kx suf (pre ++ [w]) f M4 e2 (by omega) hM4 (fun w' t' e i x hi => by
          rw [ef, e0] at e
          have : w = w' := (List.cons.inj e).1
          rw [← this] at hi
          exact d3 i x hi)
        rw [ef2, elen] at g1
        refine ⟨M', ?_, g2, g3⟩
        rw [← g1]
        have e00 : nI (pre.filter (gdS S t b0 p)).length = 0 := by rw [e0]; rfl
        rw [← d1]
        conv => lhs; rw [e00]
        rfl
      · obtain ⟨w0, t0, e0'⟩ := List.exists_cons_of_ne_nil e0
        obtain ⟨M', g1, g2, g3⟩ := m_L86 hS n hn ht hb0 hp kx suf (pre ++ [w]) f M3 e2 (by omega) hM3 (fun w' t' e i x hi => by
          rw [ef, e0', List.cons_append] at e
          have : w0 = w' := (List.cons.inj e).1
          rw [← this] at hi
          exact hF3 w0 t0 e0' i x hi)
        rw [ef2, elen] at g1
        refine ⟨M', ?_, g2, g3⟩
        rw [← g1]
        obtain ⟨q, rfl⟩ : ∃ q, n = q + 1 := ⟨n - 1, by omega⟩
        show (if M3.1 0 2 ≤ 0 then X_Model_seats_L86 (q + 1) (nI t) (nI p) a3 (nI b0) (nI (fc S.R.1)) kx f (nI ((pre.filter (gdS S t b0 p)).length + 1)) (nI (pre.length + 1)) M3 else (if nI (pre.filter (gdS S t b0 p)).length = 0 then _ else X_Model_seats_L86 (q + 1) (nI t) (nI p) a3 (nI b0) (nI (fc S.R.1)) kx f (nI ((pre.filter (gdS S t b0 p)).length + 1)) (nI (pre.length + 1)) M3)) = _
        rw [if_neg (show ¬ nI (pre.filter (gdS S t b0 p)).length = 0 from fun q => e0 (List.length_eq_zero_iff.mp ((i_z (by omega)).mp q)))]
        split <;> rfl
    · have ef : (pre ++ [w]).filter (gdS S t b0 p) = pre.filter (gdS S t b0 p) := by
        rw [List.filter_append, List.filter_cons, if_neg eg, List.filter_nil, List.append_nil]
      rw [if_neg eg]
      obtain ⟨M', g1, g2, g3⟩ := m_L86 hS n hn ht hb0 hp kx suf (pre ++ [w]) f M3 e2 (by omega) hM3 (by rw [ef]; exact hF3)
      rw [ef, elen] at g1
      exact ⟨M', g1, g2, g3⟩
