/-! SEARCH: seats, their order -/
def flP (P : Nat) (h : Nat → List (List Nat)) : Nat → List (List Nat)
  | 0 => []
  | j + 1 => h (P - (j + 1)) ++ flP P h j
def pl (P : Nat) : Nat → Nat → List Nat → List (List Nat)
  | 0, _, pre => [pre]
  | k + 1, b, pre => flP P (fun v => if b.testBit v then [] else pl P k (b ||| 2 ^ v) (pre ++ [v])) P
def nthO (used : Nat) : Nat → Nat → Nat → Option Nat
  | 0, _, _ => none
  | k + 1, c, v => if used.testBit v then nthO used k c (v + 1) else if c = 0 then some v else nthO used k (c - 1) (v + 1)
def decO : Nat → Nat → Nat → Nat → List Nat → Option (List Nat)
  | 0, _, _, _, pre => some pre
  | k + 1, i, f, used, pre => if f / (k + 1) = 0 then none else match nthO used 6 (i / (f / (k + 1))) 0 with
    | none => none
    | some y => decO k (i - i / (f / (k + 1)) * (f / (k + 1))) (f / (k + 1)) (used ||| 2 ^ y) (pre ++ [y])
def fc : Nat → Nat
  | 0 => 1
  | n + 1 => fc n * (n + 1)
theorem dec_pl : ∀ P, P < 7 → 2 ≤ P → (List.range (fc P)).map (fun i => decO P i (fc P) 0 []) = (pl P P 0 []).map some := by decide +kernel
theorem fc_le : ∀ P, P < 7 → fc P ≤ 720 := by decide
theorem i_div {a b : Nat} (ha : a < 2 ^ 31) (hb : b < 2 ^ 31) : nI a / nI b = nI (a / b) := by
  have h1 : (nI a).toInt = (a : Int) := Int32.toInt_ofNat_of_lt ha
  have h2 : (nI b).toInt = (b : Int) := Int32.toInt_ofNat_of_lt hb
  have hd : a / b < 2 ^ 31 := Nat.lt_of_le_of_lt (Nat.div_le_self a b) ha
  have h3 : (nI (a / b)).toInt = ((a / b : Nat) : Int) := Int32.toInt_ofNat_of_lt hd
  apply Int32.toInt_inj.mp
  rw [Int32.toInt_div, h1, h2, h3, ← Int.ofNat_tdiv]
  generalize a / b = q at hd
  exact Int.bmod_eq_of_le (by omega) (by omega)
def Sq (M : Mem) (w : List Nat) : Prop := ∀ i x, w[i]? = some x → M.1 21 i = nI x
theorem Sq.snoc {M : Mem} {w : List Nat} {x : Nat} (h : Sq M w) : Sq (si M 21 w.length (nI x)) (w ++ [x]) := fun i y hi => by
  by_cases q : i < w.length
  · rw [List.getElem?_append_left q] at hi
    rw [si_ne (Or.inr (by omega))]
    exact h i y hi
  · have hl := (List.getElem?_eq_some_iff.mp hi).1
    rw [List.length_append, List.length_singleton] at hl
    have : i = w.length := by omega
    subst this
    rw [List.getElem?_append_right (Nat.le_refl _), Nat.sub_self] at hi
    rw [si_at, ← Option.some.inj hi]
theorem m_sits_64 (n : Nat) {a2 a3 a5 : Int32} {used : Nat} (hu : used < 2 ^ 31) (kx : Int32 → Option (Unit × Mem)) (M : Mem) {y : Nat} : ∀ k c v m, k < m → k + v < 20 → c < 2 ^ 31 → nthO used k c v = some y → X_Model_sits_L64 n a2 a3 (nI used) a5 kx M m (nI c) (nI v) = kx (nI y)
  | 0, c, v, m, h1, h2, h3, h => absurd h (by simp [nthO])
  | k + 1, c, v, m, h1, h2, h3, h => by
    obtain ⟨m, rfl⟩ : ∃ q, m = q + 1 := ⟨m - 1, by omega⟩
    show nm (nm (fun (u6 : Int32) => (nm (nI c - u6) fun x7 => X_Model_sits_L64 n a2 a3 (nI used) a5 kx M m x7 (nI v + 1) : Option (Unit × Mem))) fun k98 => (if ((nI used >>> (nI v &&& 31)) &&& 1) = 1 then k98 0 else k98 1) : Option (Unit × Mem)) (fun k80 => (if ((nI used >>> (nI v &&& 31)) &&& 1) = 1 then k80 else (if nI c ≤ 0 then kx (nI v) else k80))) = _
    simp only [nm]
    rw [b_is hu (by omega)]
    unfold nthO at h
    cases e : used.testBit v with
    | true =>
      rw [e, if_pos rfl] at h
      rw [if_pos (show nI (if true = true then 1 else 0) = 1 from rfl), if_pos (show nI (if true = true then 1 else 0) = 1 from rfl), nI_1, show nI c - 0 = nI c from Int32.sub_zero _]
      exact m_sits_64 n hu kx M k c (v + 1) m (by omega) (by omega) h3 h
    | false =>
      rw [e, if_neg Bool.false_ne_true] at h
      rw [if_neg (show ¬ nI (if false = true then 1 else 0) = 1 by decide)]
      by_cases ec : c = 0
      · rw [if_pos ec] at h
        rw [if_pos (by rw [ec]; exact Int32.le_refl _), Option.some.inj h]
      · rw [if_neg ec] at h
        rw [if_neg (show ¬ nI c ≤ 0 from nI_ge (a := 0) (by omega) h3), if_neg (show ¬ nI (if false = true then 1 else 0) = 1 by decide), nI_1, show (1 : Int32) = nI 1 from rfl, pk_sub (by omega)]
        exact m_sits_64 n hu kx M k (c - 1) (v + 1) m (by omega) (by omega) (by omega) h
theorem nthO_lt {used y : Nat} : ∀ k c v, nthO used k c v = some y → y < k + v
  | 0, c, v, h => absurd h (by simp [nthO])
  | k + 1, c, v, h => by
    unfold nthO at h
    split at h
    · have := nthO_lt k c (v + 1) h
      omega
    · split at h
      · rw [← Option.some.inj h]; omega
      · have := nthO_lt k (c - 1) (v + 1) h
        omega
theorem m_sits_33 (n : Nat) (hn : 20 ≤ n) {P : Nat} (hP : P ≤ 6) : ∀ k i f used pre w m M, pre.length + k = P → k < m → i < 2 ^ 31 → f < 2 ^ 31 → used < 64 → M.1 0 2 = nI P → Sq M pre → decO k i f used pre = some w → ∃ M', X_Model_sits_L33 n m (nI i) (nI f) (nI used) (nI pre.length) M = some ((), M') ∧ Fr (fun c _ => c = 21) M M' ∧ Sq M' w
  | 0, i, f, used, pre, w, m, M, h1, h2, h3, h4, h5, h6, h7, h => by
    obtain ⟨m, rfl⟩ : ∃ q, m = q + 1 := ⟨m - 1, by omega⟩
    refine ⟨M, ?_, Fr.rf, by rw [← Option.some.inj h]; exact h7⟩
    show (if M.1 0 2 ≤ nI pre.length then _ else _) = _
    rw [h6, if_pos (nI_le (by omega) (by omega))]
  | k + 1, i, f, used, pre, w, m, M, h1, h2, h3, h4, h5, h6, h7, h => by
    obtain ⟨m, rfl⟩ : ∃ q, m = q + 1 := ⟨m - 1, by omega⟩
    unfold decO at h
    by_cases e0 : f / (k + 1) = 0
    · rw [if_pos e0] at h
      exact absurd h (by simp)
    · rw [if_neg e0] at h
      have hf : f / (k + 1) < 2 ^ 31 := Nat.lt_of_le_of_lt (Nat.div_le_self _ _) h4
      have hi : i / (f / (k + 1)) < 2 ^ 31 := Nat.lt_of_le_of_lt (Nat.div_le_self _ _) h3
      cases ey : nthO used 6 (i / (f / (k + 1))) 0 with
      | none => rw [ey] at h; exact absurd h (by simp)
      | some y =>
        rw [ey] at h
        have hy : y < 6 := nthO_lt 6 _ 0 ey
        have hle : i / (f / (k + 1)) * (f / (k + 1)) ≤ i := Nat.div_mul_le_self _ _
        have f1 : Fr (fun c _ => c = 21) M (si M 21 pre.length (nI y)) := Fr.si rfl
        obtain ⟨M', a1, a2, a3⟩ := m_sits_33 n hn hP k (i - i / (f / (k + 1)) * (f / (k + 1))) (f / (k + 1)) (used ||| 2 ^ y) (pre ++ [y]) w m (si M 21 pre.length (nI y)) (by rw [List.length_append, List.length_singleton]; omega) (by omega) (by omega) hf (Nat.or_lt_two_pow (n := 6) h5 (Nat.pow_lt_pow_right (by decide) hy)) h6 h7.snoc h
        refine ⟨M', ?_, f1.trans a2, a3⟩
        rw [← a1]
        have e1 : nI P - nI pre.length = nI (k + 1) := by rw [pk_sub (by omega), show P - pre.length = k + 1 by omega]
        have n0 : ¬ nI (f / (k + 1)) = 0 := fun q => e0 ((i_z hf).mp q)
        show (if M.1 0 2 ≤ nI pre.length then _ else (if (M.1 0 2 - nI pre.length) = 0 then none else nm (nI f / (M.1 0 2 - nI pre.length)) fun x3 => (if x3 = 0 then none else nm (nI i / x3) fun x4 => (if x3 = 0 then none else nm (nI i - nI i / x3 * x3) fun x5 => X_Model_sits_L64 n x5 x3 (nI used) (nI pre.length) (fun y8 => gd (nI pre.length) 6 (nm (nI used ||| ((1 : Int32) <<< (y8 &&& 31))) fun x9 => X_Model_sits_L33 n m x5 x3 x9 (nI pre.length + 1) (si M 21 ((nI pre.length).toNatClampNeg) y8))) M n x4 0)))) = _
        simp only [nm]
        rw [h6, if_neg (nI_ge (by omega) (by omega)), e1, if_neg (fun q => by have := (i_z (k := k + 1) (by omega)).mp q; omega), i_div h4 (by omega), if_neg n0, if_neg n0, i_div h3 hf, pk_mul, pk_sub hle]
        refine (m_sits_64 n (show used < 2 ^ 31 by omega) _ M 6 (i / (f / (k + 1))) 0 n (by omega) (by omega) hi ey).trans ?_
        rw [gd_in (vp_in_nI (n := pre.length) (by omega) (by decide)), i_shl1 (by omega), i_or, nI_clamp (by omega), nI_1, List.length_append, List.length_singleton]
theorem m_sits_10 (n : Nat) {a2 a4 : Int32} (kx : Int32 → Option (Unit × Mem)) {M : Mem} {P : Nat} (hP : P ≤ 6) (h6 : M.1 0 2 = nI P) : ∀ d v m, v + d = P → d < m → X_Model_sits_L10 n a2 a4 kx M m (nI (fc v)) (nI (v + 1)) = kx (nI (fc P))
  | 0, v, m, h1, h2 => by
    obtain ⟨m, rfl⟩ : ∃ q, m = q + 1 := ⟨m - 1, by omega⟩
    show (if M.1 0 2 < nI (v + 1) then kx (nI (fc v)) else _) = _
    rw [h6, if_pos (nI_lt (by omega) (by omega)), show v = P by omega]
  | d + 1, v, m, h1, h2 => by
    obtain ⟨m, rfl⟩ : ∃ q, m = q + 1 := ⟨m - 1, by omega⟩
    rw [← m_sits_10 n kx hP h6 d (v + 1) m (by omega) (by omega)]
    show (if M.1 0 2 < nI (v + 1) then _ else nm (nI (fc v) * nI (v + 1)) fun x1 => X_Model_sits_L10 n a2 a4 kx M m x1 (nI (v + 1) + 1)) = _
    simp only [nm]
    rw [h6, if_neg (Int32.not_lt.mpr (nI_le (by omega) (by omega))), pk_mul, nI_1]
    rfl
theorem m_seats_58 (n : Nat) {a1 a2 a3 a4 : Int32} (kx : Int32 → Option (Int32 × Mem)) {M : Mem} {P : Nat} (hP : P ≤ 6) (h6 : M.1 0 2 = nI P) : ∀ d v m, v + d = P → d < m → X_Model_seats_L58 n a1 a2 a3 a4 kx M m (nI (fc v)) (nI (v + 1)) = kx (nI (fc P))
  | 0, v, m, h1, h2 => by
    obtain ⟨m, rfl⟩ : ∃ q, m = q + 1 := ⟨m - 1, by omega⟩
    show (if M.1 0 2 < nI (v + 1) then kx (nI (fc v)) else _) = _
    rw [h6, if_pos (nI_lt (by omega) (by omega)), show v = P by omega]
  | d + 1, v, m, h1, h2 => by
    obtain ⟨m, rfl⟩ : ∃ q, m = q + 1 := ⟨m - 1, by omega⟩
    rw [← m_seats_58 n kx hP h6 d (v + 1) m (by omega) (by omega)]
    show (if M.1 0 2 < nI (v + 1) then _ else nm (nI (fc v) * nI (v + 1)) fun x8 => X_Model_seats_L58 n a1 a2 a3 a4 kx M m x8 (nI (v + 1) + 1)) = _
    simp only [nm]
    rw [h6, if_neg (Int32.not_lt.mpr (nI_le (by omega) (by omega))), pk_mul, nI_1]
    rfl
theorem dec_at {P i : Nat} (hP : P < 7) (h2 : 2 ≤ P) {w : List Nat} (h : (pl P P 0 [])[i]? = some w) : decO P i (fc P) 0 [] = some w ∧ i < fc P := by
  have e := dec_pl P hP h2
  have h1 : ((pl P P 0 []).map some)[i]? = some (some w) := by rw [List.getElem?_map, h]; rfl
  rw [← e, List.getElem?_map] at h1
  cases er : (List.range (fc P))[i]? with
  | none => rw [er] at h1; exact absurd h1 (by simp)
  | some k =>
    rw [er] at h1
    obtain ⟨q1, q2⟩ := List.getElem?_eq_some_iff.mp er
    rw [List.length_range] at q1
    rw [List.getElem_range] at q2
    refine ⟨?_, q1⟩
    rw [q2]
    exact Option.some.inj h1
theorem pl_len {P : Nat} (hP : P < 7) (h2 : 2 ≤ P) : (pl P P 0 []).length = fc P := by
  have e := congrArg List.length (dec_pl P hP h2)
  rw [List.length_map, List.length_map, List.length_range] at e
  exact e.symm
theorem m_sits (n : Nat) (hn : 20 ≤ n) {M : Mem} {P i : Nat} (hP : P < 7) (h2 : 2 ≤ P) (hM : M.1 0 2 = nI P) {w : List Nat} (h : (pl P P 0 [])[i]? = some w) : ∃ M', X_Model_sits n (nI i) M = some ((), M') ∧ Fr (fun c _ => c = 21) M M' ∧ Sq M' w := by
  obtain ⟨e1, e2⟩ := dec_at hP h2 h
  have hf := fc_le P hP
  obtain ⟨M', a1, a2, a3⟩ := m_sits_33 n hn (by omega) P i (fc P) 0 [] w n M (by show 0 + P = P; omega) (by omega) (by omega) (by omega) (by decide) hM (fun i x h => absurd h (by simp)) e1
  refine ⟨M', ?_, a2, a3⟩
  unfold X_Model_sits
  exact (m_sits_10 n _ (by omega) hM (P - 1) 1 n (by omega) (by omega)).trans a1
