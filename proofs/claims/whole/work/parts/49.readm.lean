/-! CALLS: read, the reference -/
theorem lgL (x y : Int64) : lg_cmp x y < 0 ↔ x.toInt < y.toInt := by
  unfold lg_cmp
  rw [← Int64.lt_iff_toInt_lt]
  by_cases h1 : x > y
  · rw [if_pos h1]
    have : ¬ x < y := fun q => by
      rw [Int64.lt_iff_toInt_lt] at q
      rw [gt_iff_lt, Int64.lt_iff_toInt_lt] at h1
      omega
    simp [this]
  · rw [if_neg h1]
    by_cases h2 : x = y
    · rw [if_pos h2]
      have : ¬ x < y := by rw [h2]; exact Int64.lt_irrefl
      simp [this]
    · rw [if_neg h2]
      have : x < y := by
        have h3 : x.toInt ≠ y.toInt := fun q => h2 (Int64.toInt_inj.mp q)
        rw [gt_iff_lt, Int64.lt_iff_toInt_lt] at h1
        rw [Int64.lt_iff_toInt_lt]
        omega
      simp only [this, iff_true]
      decide
theorem addL {x y : Int64} (h1 : -(2 ^ 40 : Int) ≤ x.toInt) (h2 : x.toInt < 2 ^ 40) (h3 : -(2 ^ 40 : Int) ≤ y.toInt) (h4 : y.toInt < 2 ^ 40) : (x + y).toInt = x.toInt + y.toInt := by
  rw [Int64.toInt_add]
  rw [Int.bmod_def]
  omega
theorem idxL (f : Int32) {i j : Nat} (hi : i ≤ 20) (hj : j < 2) : (((f.toInt64) + ((((2 : Int32) * nI i) : Int32).toInt64)) + ((nI j).toInt64)).toInt = f.toInt + 2 * i + j := by
  have a1 := f.toInt_lt
  have a2 := f.le_toInt
  have e1 : f.toInt64.toInt = f.toInt := Int32.toInt_toInt64 f
  have e2 : (((2 : Int32) * nI i) : Int32).toInt64.toInt = 2 * i := by rw [Int32.toInt_toInt64, show (2 : Int32) = nI 2 from rfl, pk_mul, nI_toInt (by omega)]; omega
  have e3 : (nI j).toInt64.toInt = j := by rw [Int32.toInt_toInt64, nI_toInt (by omega)]
  have e4 : ((f.toInt64) + ((((2 : Int32) * nI i) : Int32).toInt64)).toInt = f.toInt + 2 * i := by rw [addL (by omega) (by omega) (by omega) (by omega), e1, e2]
  rw [addL (by omega) (by omega) (by omega) (by omega), e4, e3]
theorem m_ft2 {M : Mem} {S : Ab} (hS : Ok S) (hM : MA M S) {k lane : Nat} (hk : k < 4) (hl : lane < 3) {f a4 v6 : Int32} {i : Nat} (hi : i ≤ 20) (hf : fOk f i) (kx : Int32 → Option (Int32 × Mem)) : X_Model_read_L47 fuel (nI k) (nI lane) f a4 v6 (nI i) kx M fuel 0 0 = kx (nI (ftF (S.sh k) lane (fN f + 2 * i))) := by
  have hs := hM.sh k hk
  have hv : vp_in (nI k) 4 := vp_in_nI (by omega) (by decide)
  obtain ⟨g, hg⟩ : ∃ g, fuel = g + 1 + 1 + 1 := ⟨1048573, rfl⟩
  have stop : ∀ g (v : Nat), v < 4 → v ≠ 0 → X_Model_read_L47 fuel (nI k) (nI lane) f a4 v6 (nI i) kx M (g + 1) (nI v) 1 = kx (nI v) := fun g v h4 h0 => by
    show (if (2 : Int32) ≤ 1 then kx (nI v) else if nI v = 0 then _ else kx (nI v)) = _
    rw [if_neg (by decide), if_neg (fun q => h0 ((i_z (by omega)).mp q))]
  have un : ∀ g (v8 : Int32), X_Model_read_L47 fuel (nI k) (nI lane) f a4 v6 (nI i) kx M (g + 1) 0 v8 = if 2 ≤ v8 then kx 0 else (if M.1 23 k = -4 then X_Model_read_L47 fuel (nI k) (nI lane) f a4 v6 (nI i) kx M g 1 (v8 + 1) else if M.1 23 k = nI lane then (if lg_cmp (((f.toInt64) + ((((2 : Int32) * nI i) : Int32).toInt64)) + (v8.toInt64)) 0 < 0 then X_Model_read_L47 fuel (nI k) (nI lane) f a4 v6 (nI i) kx M g 2 (v8 + 1) else if lg_cmp (((f.toInt64) + ((((2 : Int32) * nI i) : Int32).toInt64)) + (v8.toInt64)) ((M.1 24 k : Int32).toInt64) < 0 then X_Model_read_L47 fuel (nI k) (nI lane) f a4 v6 (nI i) kx M g 0 (v8 + 1) else X_Model_read_L47 fuel (nI k) (nI lane) f a4 v6 (nI i) kx M g 2 (v8 + 1)) else X_Model_read_L47 fuel (nI k) (nI lane) f a4 v6 (nI i) kx M g 3 (v8 + 1)) := fun g v8 => by
    show (if (2 : Int32) ≤ v8 then kx 0 else if (0 : Int32) = 0 then _ else kx 0) = _
    rw [if_pos rfl]
    simp only [nm, gd_in hv]
    rw [nI_clamp (show k < 2 ^ 31 by omega)]
  have z0 : (0 : Int64).toInt = 0 := rfl
  rw [hg]
  rw [show X_Model_read_L47 (g + 1 + 1 + 1) = X_Model_read_L47 fuel by rw [hg]]
  rw [un (g + 1 + 1) 0, if_neg (by decide)]
  cases hq : S.sh k with
  | none =>
    rw [hq] at hs
    have hs : M.1 23 k = -4 := hs
    rw [if_pos hs]
    exact stop (g + 1) 1 (by decide) (by decide)
  | some q =>
    obtain ⟨l, z⟩ := q
    rw [hq] at hs
    obtain ⟨s1, s2, -⟩ := hs
    have hlz := hS.hs k l z hq
    rw [s1, if_neg (i_ne4 (by omega)), s2]
    show _ = kx (nI (if l = lane then (if fN f + 2 * i + 1 < z then 0 else 2) else 3))
    by_cases e : l = lane
    · rw [if_pos (by rw [e]), if_pos e]
      have c0 := idxL f hi (j := 0) (by decide)
      have c1 := idxL f hi (j := 1) (by decide)
      have cz : (nI z).toInt64.toInt = z := by rw [Int32.toInt_toInt64, nI_toInt (by omega)]
      rw [show (nI 0).toInt64 = (0 : Int32).toInt64 from rfl] at c0
      rw [show (nI 1).toInt64 = (1 : Int32).toInt64 from rfl] at c1
      have l0 : ∀ y, (lg_cmp (((f.toInt64) + ((((2 : Int32) * nI i) : Int32).toInt64)) + ((0 : Int32).toInt64)) y < 0) ↔ f.toInt + 2 * i + 0 < y.toInt := fun y => by rw [lgL, c0]; exact Iff.rfl
      have l1 : ∀ y, (lg_cmp (((f.toInt64) + ((((2 : Int32) * nI i) : Int32).toInt64)) + ((1 : Int32).toInt64)) y < 0) ↔ f.toInt + 2 * i + 1 < y.toInt := fun y => by rw [lgL, c1]; exact Iff.rfl
      rcases f_cases f with ⟨h3, h4⟩ | ⟨y, h3, h4, h5⟩
      · have hi0 : i = 0 := by rcases hf with h | ⟨-, h⟩ <;> omega
        have h3' := Int32.lt_iff_toInt_lt.mp h3
        have e0 : (0 : Int32).toInt = 0 := rfl
        rw [if_pos ((l0 0).mpr (by omega)), if_neg (show ¬ fN f + 2 * i + 1 < z by omega)]
        exact stop (g + 1) 2 (by decide) (by decide)
      · have ef : f.toInt = y := by rw [h4, nI_toInt h3]
        rw [if_neg (fun q => by have := (l0 0).mp q; omega)]
        by_cases e1 : y + 2 * i < z
        · rw [if_pos ((l0 _).mpr (by rw [cz]; omega)), un (g + 1) (0 + 1), if_neg (by decide), s1, if_neg (i_ne4 (by omega)), if_pos (by rw [e]), show (0 + 1 : Int32) = 1 from rfl, if_neg (fun q => by have := (l1 0).mp q; omega), s2]
          by_cases e2 : y + 2 * i + 1 < z
          · rw [if_pos ((l1 _).mpr (by rw [cz]; omega)), if_pos (by omega), un g (1 + 1), if_pos (by decide)]
            rfl
          · rw [if_neg (fun q => by have := (l1 _).mp q; rw [cz] at this; omega), if_neg (by omega)]
            show (if (2 : Int32) ≤ 2 then kx 2 else _) = _
            rw [if_pos (by decide)]
            rfl
        · rw [if_neg (fun q => by have := (l0 _).mp q; rw [cz] at this; omega), if_neg (by omega)]
          exact stop (g + 1) 2 (by decide) (by decide)
    · rw [if_neg (fun q => e ((nI_eq (by omega) (by omega)).mp q)), if_neg e]
      exact stop (g + 1) 3 (by decide) (by decide)
