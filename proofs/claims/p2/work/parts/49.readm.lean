/-! CALLS: read, the reference -/
theorem lgL (x y : Int64) : lg_cmp x y < 0 ↔ x.toInt < y.toInt := by
  unfold lg_cmp
  rw [← Int64.lt_iff_toInt_lt]
  by_cases h1 : x > y
  · rw [if_pos h1]
    have : ¬ x < y := fun q => by
      rw [Int64.lt_iff_toInt_lt] at q
      rw [gt_iff_lt, Int64.lt_iff_toInt_lt] at h1
      omega
    simp [this]
  · rw [if_neg h1]
    by_cases h2 : x = y
    · rw [if_pos h2]
      have : ¬ x < y := by rw [h2]; exact Int64.lt_irrefl
      simp [this]
    · rw [if_neg h2]
      have : x < y := by
        have h3 : x.toInt ≠ y.toInt := fun q => h2 (Int64.toInt_inj.mp q)
        rw [gt_iff_lt, Int64.lt_iff_toInt_lt] at h1
        rw [Int64.lt_iff_toInt_lt]
        omega
      simp only [this, iff_true]
      decide
theorem addL {x y : Int64} (h1 : -(2 ^ 40 : Int) ≤ x.toInt) (h2 : x.toInt < 2 ^ 40) (h3 : -(2 ^ 40 : Int) ≤ y.toInt) (h4 : y.toInt < 2 ^ 40) : (x + y).toInt = x.toInt + y.toInt := by
  rw [Int64.toInt_add]
  rw [Int.bmod_def]
  omega
theorem idxL (f : Int32) {i j : Nat} (hi : i ≤ 20) (hj : j < 2) : (((f.toInt64) + ((((2 : Int32) * nI i) : Int32).toInt64)) + ((nI j).toInt64)).toInt = f.toInt + 2 * i + j := by
  have a1 := f.toInt_lt
  have a2 := f.le_toInt
  have e1 : f.toInt64.toInt = f.toInt := Int32.toInt_toInt64 f
  have e2 : (((2 : Int32) * nI i) : Int32).toInt64.toInt = 2 * i := by rw [Int32.toInt_toInt64, show (2 : Int32) = nI 2 from rfl, pk_mul, nI_toInt (by omega)]; omega
  have e3 : (nI j).toInt64.toInt = j := by rw [Int32.toInt_toInt64, nI_toInt (by omega)]
  have e4 : ((f.toInt64) + ((((2 : Int32) * nI i) : Int32).toInt64)).toInt = f.toInt + 2 * i := by rw [addL (by omega) (by omega) (by omega) (by omega), e1, e2]
  rw [addL (by omega) (by omega) (by omega) (by omega), e4, e3]
theorem m_ft2 {M : Mem} {S : Ab} (hS : Ok S) (hM : MA M S) {k lane : Nat} (hk : k < 4) (hl : lane < 3) {f a4 v6 : Int32} {i : Nat} (hi : i ≤ 20) (hf : fOk f i) (kx : Int32 → Option (Int32 × Mem)) : X_Model_read_L47 fuel (nI k) (nI lane) f a4 v6 (nI i) kx M fuel 0 0 = kx (nI (ftF (S.sh k) lane (fN f + 2 * i))) := by
  have hs := hM.sh k hk
  have hv : vp_in (nI k) 4 := vp_in_nI (by omega) (by decide)
  obtain ⟨g, hg⟩ : ∃ g, fuel = g + 1 + 1 + 1 := ⟨1048573, rfl⟩
  have stop : ∀ g (v : Nat), v < 4 → v ≠ 0 → X_Model_read_L47 fuel (nI k) (nI lane) f a4 v6 (nI i) kx M (g + 1) (nI v) 1 = kx (nI v) := fun g v h4 h0 => by
    show (if (2 : Int32) ≤ 1 then kx (nI v) else if nI v = 0 then _ else kx (nI v)) = _
    rw [if_neg (by decide), if_neg (fun q => h0 ((i_z (by omega)).mp q))]
  have un : ∀ g (v8 : Int32), X_Model_read_L47 fuel (nI k) (nI lane) f a4 v6 (nI i) kx M (g + 1) 0 v8 = if 2 ≤ v8 then kx 0 else (if M.1 23 k = -4 then X_Model_read_L47 fuel (nI k) (nI lane) f a4 v6 (nI i) kx M g 1 (v8 + 1) else if M.1 23 k = nI lane then (if lg_cmp (((f.toInt64) + ((((2 : Int32) * nI i) : Int32).toInt64)) + (v8.toInt64)) 0 < 0 then X_Model_read_L47 fuel (nI k) (nI lane) f a4 v6 (nI i) kx M g 2 (v8 + 1) else if lg_cmp (((f.toInt64) + ((((2 : Int32) * nI i) : Int32).toInt64)) + (v8.toInt64)) ((M.1 24 k : Int32).toInt64) < 0 then X_Model_read_L47 fuel (nI k) (nI lane) f a4 v6 (nI i) kx M g 0 (v8 + 1) else X_Model_read_L47 fuel (nI k) (nI lane) f a4 v6 (nI i) kx M g 2 (v8 + 1)) else X_Model_read_L47 fuel (nI k) (nI lane) f a4 v6 (nI i) kx M g 3 (v8 + 1)) := fun g v8 => by
    show (if (2 : Int32) ≤ v8 then kx 0 else if (0 : Int32) = 0 then _ else kx 0) = _
    rw [if_pos rfl]
    simp only [nm, gd_in hv]
    rw [nI_clamp (show k < 2 ^ 31 by omega)]
  have z0 : (0 : Int64).toInt = 0 := rfl
  rw [hg]
  rw [show X_Model_read_L47 (g + 1 + 1 + 1) = X_Model_read_L47 fuel by rw [hg]]
  rw [un (g + 1 + 1) 0, if_neg (by decide)]
  cases hq : S.sh k with
  | none =>
    rw [hq] at hs
    have hs : M.1 23 k = -4 := hs
    rw [if_pos hs]
    exact stop (g + 1) 1 (by decide) (by decide)
  | some q =>
    obtain ⟨l, z⟩ := q
    rw [hq] at hs
    obtain ⟨s1, s2, -⟩ := hs
    have hlz := hS.hs k l z hq
    rw [s1, if_neg (i_ne4 (by omega)), s2]
    show _ = kx (nI (if l = lane then (if fN f + 2 * i + 1 < z then 0 else 2) else 3))
    by_cases e : l = lane
    · rw [if_pos (by rw [e]), if_pos e]
      have c0 := idxL f hi (j := 0) (by decide)
      have c1 := idxL f hi (j := 1) (by decide)
      have cz : (nI z).toInt64.toInt = z := by rw [Int32.toInt_toInt64, nI_toInt (by omega)]
      rw [show (nI 0).toInt64 = (0 : Int32).toInt64 from rfl] at c0
      rw [show (nI 1).toInt64 = (1 : Int32).toInt64 from rfl] at c1
      have l0 : ∀ y, (lg_cmp (((f.toInt64) + ((((2 : Int32) * nI i) : Int32).toInt64)) + ((0 : Int32).toInt64)) y < 0) ↔ f.toInt + 2 * i + 0 < y.toInt := fun y => by rw [lgL, c0]; exact Iff.rfl
      have l1 : ∀ y, (lg_cmp (((f.toInt64) + ((((2 : Int32) * nI i) : Int32).toInt64)) + ((1 : Int32).toInt64)) y < 0) ↔ f.toInt + 2 * i + 1 < y.toInt := fun y => by rw [lgL, c1]; exact Iff.rfl
      rcases f_cases f with ⟨h3, h4⟩ | ⟨y, h3, h4, h5⟩
      · have hi0 : i = 0 := by rcases hf with h | ⟨-, h⟩ <;> omega
        have h3' := Int32.lt_iff_toInt_lt.mp h3
        have e0 : (0 : Int32).toInt = 0 := rfl
        rw [if_pos ((l0 0).mpr (by omega)), if_neg (show ¬ fN f + 2 * i + 1 < z by omega)]
        exact stop (g + 1) 2 (by decide) (by decide)
      · have ef : f.toInt = y := by rw [h4, nI_toInt h3]
        rw [if_neg (fun q => by have := (l0 0).mp q; omega)]
        by_cases e1 : y + 2 * i < z
        · rw [if_pos ((l0 _).mpr (by rw [cz]; omega)), un (g + 1) (0 + 1), if_neg (by decide), s1, if_neg (i_ne4 (by omega)), if_pos (by rw [e]), show (0 + 1 : Int32) = 1 from rfl, if_neg (fun q => by have := (l1 0).mp q; omega), s2]
          by_cases e2 : y + 2 * i + 1 < z
          · rw [if_pos ((l1 _).mpr (by rw [cz]; omega)), if_pos (by omega), un g (1 + 1), if_pos (by decide)]
            rfl
          · rw [if_neg (fun q => by have := (l1 _).mp q; rw [cz] at this; omega), if_neg (by omega)]
            show (if (2 : Int32) ≤ 2 then kx 2 else _) = _
            rw [if_pos (by decide)]
            rfl
        · rw [if_neg (fun q => by have := (l0 _).mp q; rw [cz] at this; omega), if_neg (by omega)]
          exact stop (g + 1) 2 (by decide) (by decide)
    · rw [if_neg (fun q => e ((nI_eq (by omega) (by omega)).mp q)), if_neg e]
      exact stop (g + 1) 3 (by decide) (by decide)
theorem m_read_L {M : Mem} {S : Ab} (hS : Ok S) (hM : MA M S) {k lane n : Nat} (hk : k < 4) (hl : lane < 3) (hn : n ≤ 20) (f : Int32) (kx : Int32 → Int32 → Mem → Option (Int32 × Mem)) : ∀ (d i g : Nat), n - i = d → i ≤ n → d + 1 < g → fOk f i → X_Model_read_L32 fuel (nI k) (nI lane) f (nI n) kx g 0 (nI i) (nI i) M = (if (rdL S k lane (fN f) d i).1 then kx (nI (rdL S k lane (fN f) d i).2.2) (nI (rdL S k lane (fN f) d i).2.1) M else some ((-20 : Int32) - nI (rdL S k lane (fN f) d i).2.1, M)) := by
  intro d
  induction d with
  | zero =>
    intro i g h1 h2 h3 hf
    obtain ⟨g, rfl⟩ : ∃ e, g = e + 1 := ⟨g - 1, by omega⟩
    show (if nI n ≤ nI i then kx 0 (nI i) M else _) = _
    rw [if_pos (nI_le (by omega) (by omega))]
    rfl
  | succ d ih =>
    intro i g h1 h2 h3 hf
    obtain ⟨g, rfl⟩ : ∃ e, g = e + 2 := ⟨g - 2, by omega⟩
    have hi : i < n := by omega
    have un : X_Model_read_L32 fuel (nI k) (nI lane) f (nI n) kx (g + 2) 0 (nI i) (nI i) M = X_Model_read_L47 fuel (nI k) (nI lane) f (nI n) (nI i) (nI i) (fun y7 => (if y7 = 0 then (gd ((((40 : Int32) * nI k) + f) + ((2 : Int32) * nI i)) 160 (gd (((((40 : Int32) * nI k) + f) + ((2 : Int32) * nI i)) + 1) 160 (bd (X_Model_areTwo fuel (M.1 25 ((((40 : Int32) * nI k) + f) + ((2 : Int32) * nI i)).toNatClampNeg) (M.1 25 (((((40 : Int32) * nI k) + f) + ((2 : Int32) * nI i)) + 1).toNatClampNeg) M) fun r11 M12 => (if r11 = 0 then some ((((-20) : Int32) - nI i), M12) else X_Model_read_L32 fuel (nI k) (nI lane) f (nI n) kx (g + 1) y7 (nI i + 1) (nI i + 1) M12)))) else X_Model_read_L32 fuel (nI k) (nI lane) f (nI n) kx (g + 1) y7 (nI i) (nI i + 1) M)) M fuel 0 0 := by
      show (if nI n ≤ nI i then _ else if (0 : Int32) = 0 then _ else _) = _
      rw [if_neg (nI_ge hi (by omega)), if_pos rfl]
      rfl
    rw [un, m_ft2 hS hM hk hl (by omega) hf]
    unfold rdL
    have h4 := ft_lt (S.sh k) lane (fN f + 2 * i)
    by_cases e : ftF (S.sh k) lane (fN f + 2 * i) = 0
    · obtain ⟨y1, y2, z, y3, y4⟩ := f_y hS e
      have hs := hM.sh k hk
      rw [y3] at hs
      have hz := (hS.hs k lane z y3).2
      have ea : (((40 : Int32) * nI k) + f) + ((2 : Int32) * nI i) = nI (40 * k + (fN f + 2 * i)) := by
        generalize fN f = y at *
        rw [y1, show (2 : Int32) = nI 2 from rfl, show (40 : Int32) = nI 40 from rfl, pk_mul, pk_mul, nI_add, nI_add, Nat.add_assoc]
      rw [e, if_pos (show nI 0 = 0 from rfl), if_pos rfl, ea, nI_1, nI_1, gd_in (vp_in_nI (by omega) (by decide)), gd_in (vp_in_nI (by omega) (by decide)), nI_clamp (by omega), nI_clamp (by omega), hs.2.2 _ (by omega), Nat.add_assoc (40 * k), hs.2.2 _ (by omega), m_areTwo hS.p31 hM.c.1, bd_ret]
      by_cases e2 : two (S.ce k (fN f + 2 * i)) (S.ce k (fN f + 2 * i + 1)) S.R.1 = true
      · have e3 := e2
        unfold two at e3
        rw [if_pos e3, if_neg i10, if_pos e2]
        exact ih (i + 1) (g + 1) (by omega) (by omega) (by omega) (Or.inr ⟨y1, by omega⟩)
      · have e3 := e2
        unfold two at e3
        rw [if_neg e3, if_pos rfl, if_neg e2]
        rfl
    · rw [if_neg (fun q => e ((i_z (by omega)).mp q)), if_neg e, nI_1]
      show (if nI n ≤ nI (i + 1) then kx (nI (ftF (S.sh k) lane (fN f + 2 * i))) (nI i) M else if nI (ftF (S.sh k) lane (fN f + 2 * i)) = 0 then _ else kx (nI (ftF (S.sh k) lane (fN f + 2 * i))) (nI i) M) = _
      rw [if_neg (fun q => e ((i_z (by omega)).mp q))]
      split <;> rfl
theorem m_read_W {S0 : Ab} {k lane y c : Nat} (hk : k < 4) (hc : c ≤ 20) {f : Int32} (hy : fN f = y) : ∀ (d i g : Nat) (M : Mem) (S : Ab), S.R = S0.R → S.sh = S0.sh → S.ce = S0.ce → S.A.gl = S0.A.gl → Ok S → MA M S → (∀ j, j < c → ftF (S0.sh k) lane (y + 2 * j) = 0 ∧ two (S0.ce k (y + 2 * j)) (S0.ce k (y + 2 * j + 1)) S0.R.1 = true) → c - i = d → i ≤ c → d < g → ∃ M', X_Model_read_L199 fuel (nI k) f (nI c) g (nI i) M = some (nI c, M') ∧ MA M' (S.setA (S.A.setW (rdW S0 k y d i S.A.W))) := by
  intro d
  induction d with
  | zero =>
    intro i g M S r1 r2 r3 r4 hS hM hall h1 h2 h3
    obtain ⟨g, rfl⟩ : ∃ e, g = e + 1 := ⟨g - 1, by omega⟩
    refine ⟨M, ?_, hM⟩
    show (if nI c ≤ nI i then some (nI c, M) else _) = _
    rw [if_pos (nI_le (by omega) (by omega))]
  | succ d ih =>
    intro i g M S r1 r2 r3 r4 hS hM hall h1 h2 h3
    obtain ⟨g, rfl⟩ : ∃ e, g = e + 1 := ⟨g - 1, by omega⟩
    have hi : i < c := by omega
    obtain ⟨e, e2⟩ := hall i hi
    rw [← r2, ← hy] at e
    rw [← r3, ← r1] at e2
    obtain ⟨y1, y2, z, y3, y4⟩ := f_y hS e
    rw [hy] at y1 y2 y4
    have hs := hM.sh k hk
    rw [y3] at hs
    have hz := (hS.hs k lane z y3).2
    obtain ⟨t1, t2, t3, t4, t5⟩ := two_y hS.p31 e2
    obtain ⟨q1, q2⟩ := pr_P t1 t2 hS.p6 t3
    have h6 := hS.p6
    obtain ⟨M1, k1, k2, -⟩ := m_shakesNow hS hM q1
    have hS1 : Ok (S.setA (S.A.setW (handF S.R S.A.gl (prN (pN (S.ce k (y + 2 * i))) (pN (S.ce k (y + 2 * i + 1)))) S.A.W))) := hS.newA (hS.hA.setW (hS.hA.1.hand hS.hR _ _) (handF_end q1 q2 hS.hA.2.1))
    obtain ⟨M2, u1, u2⟩ := ih (i + 1) g M1 (S.setA (S.A.setW (handF S.R S.A.gl (prN (pN (S.ce k (y + 2 * i))) (pN (S.ce k (y + 2 * i + 1)))) S.A.W))) r1 r2 r3 r4 hS1 k2 hall (by omega) (by omega) (by omega)
    refine ⟨M2, ?_, ?_⟩
    · have ea : (((40 : Int32) * nI k) + f) + ((2 : Int32) * nI i) = nI (40 * k + (y + 2 * i)) := by
        rw [y1, show (2 : Int32) = nI 2 from rfl, show (40 : Int32) = nI 40 from rfl, pk_mul, pk_mul, nI_add, nI_add, Nat.add_assoc]
      show (if nI c ≤ nI i then some (nI c, M) else nm ((((40 : Int32) * nI k) + f) + ((2 : Int32) * nI i)) fun x16 => gd x16 160 (gd (x16 + 1) 160 (bd (X_Model_pairOf fuel (M.1 25 x16.toNatClampNeg) (M.1 25 (x16 + 1).toNatClampNeg) M) fun r17 M18 => bd (X_Model_shakesNow fuel r17 M18) fun _ M20 => X_Model_read_L199 fuel (nI k) f (nI c) g (nI i + 1) M20))) = _
      unfold nm
      dsimp only
      rw [if_neg (nI_ge hi (by omega)), ea, nI_1, nI_1, gd_in (vp_in_nI (by omega) (by decide)), gd_in (vp_in_nI (by omega) (by decide)), nI_clamp (by omega), nI_clamp (by omega), hs.2.2 _ (by omega), Nat.add_assoc (40 * k), hs.2.2 _ (by omega)]
      rw [show X_Model_pairOf fuel (S.ce k (y + 2 * i)) (S.ce k (y + 2 * i + 1)) M = some (nI (prN (pN (S.ce k (y + 2 * i))) (pN (S.ce k (y + 2 * i + 1)))), M) by
        generalize S.ce k (y + 2 * i) = c1 at *
        generalize S.ce k (y + 2 * i + 1) = c2 at *
        generalize pN c1 = a at *
        generalize pN c2 = b at *
        subst t4 t5
        exact m_pairOf fuel (by omega) (by omega) t3 M, bd_ret, k1, bd_ret]
      exact u1
    · have ew : rdW S0 k y (d + 1) i S.A.W = rdW S0 k y d (i + 1) (handF S.R S.A.gl (prN (pN (S.ce k (y + 2 * i))) (pN (S.ce k (y + 2 * i + 1)))) S.A.W) := by
        show rdW S0 k y d (i + 1) (handF S0.R S0.A.gl (prN (pN (S0.ce k (y + 2 * i))) (pN (S0.ce k (y + 2 * i + 1)))) S.A.W) = _
        rw [r1, r3, r4]
      rw [ew]
      exact u2
def rdU (k lane n : Nat) (f : Int32) (S : Ab) : Int32 × Ab :=
  if (rdL S k lane (fN f) n 0).1 then (nI (rdL S k lane (fN f) n 0).2.1, (S.R, S.A.setW (rdW S k (fN f) (rdL S k lane (fN f) n 0).2.1 0 S.A.W), S.I, S.kp, S.tp, S.ft, (rdL S k lane (fN f) n 0).2.2, S.sh, S.ce))
  else ((-20 : Int32) - nI (rdL S k lane (fN f) n 0).2.1, S)
theorem le20 (p : Int32) {α : Type} (A B : α) : (if p < 0 then B else if p ≤ 20 then A else B) = if vN p 21 then A else B := by
  rw [← x_in]
  by_cases h : p < 0
  · rw [if_pos h, if_pos h]
  · rw [if_neg h, if_neg h]
    have e : p ≤ 20 ↔ ¬ nI 21 ≤ p := by
      rw [Int32.le_iff_toInt_le, Int32.le_iff_toInt_le]
      have e1 : (20 : Int32).toInt = 20 := rfl
      have e2 : (nI 21).toInt = 21 := rfl
      omega
    by_cases h2 : p ≤ 20
    · rw [if_pos h2, if_neg (e.mp h2)]
    · rw [if_neg h2, if_pos (Decidable.of_not_not (fun q => h2 (e.mpr q)))]
theorem XA.newT {M : Mem} {S : Ab} {v : Nat} (h : XA M S) : XA (si M 0 10 (nI v)) (S.R, S.A, S.I, S.kp, S.tp, S.ft, v, S.sh, S.ce) := by
  have hf : Off [0] M (si M 0 10 (nI v)) := Off.si (by simp)
  refine ⟨h.c.off hf (by decide), h.a.off hf (by decide) (by decide) (by decide), fun j hj hb => (h.i j hj hb).off hf (fun q => by have := List.mem_singleton.mp q; omega) (fun q => by have := List.mem_singleton.mp q; omega) (fun q => by have := List.mem_singleton.mp q; omega), ?_, si_at _ _ _ _, h.tl, h.tb, h.ft, fun j hj => (h.sh j hj).off hf (fun q => by have := List.mem_singleton.mp q; omega) (fun q => by have := List.mem_singleton.mp q; omega)⟩
  rw [si_ne (Or.inr (by decide))]
  exact h.kp
theorem MA.newT {M : Mem} {S : Ab} {v : Nat} (hS : Ok S) (h : MA M S) : MA (si M 0 54 (nI v)) (S.R, S.A, S.I, S.kp, S.tp, S.ft, v, S.sh, S.ce) := by
  have hf : Fr (fun a j => a = 0 ∧ j = 54) M (si M 0 54 (nI v)) := Fr.si ⟨rfl, rfl⟩
  exact ⟨h.c.fr hf (fun k hk => by simp only [List.mem_cons, List.not_mem_nil, or_false] at hk; omega) (fun a k ha => by simp only [List.mem_cons, List.not_mem_nil, or_false] at ha; omega), h.a.fr hS.hA.1 hf (fun k _ _ => by omega), fun j hj hb => (h.i j hj hb).fr (hS.hI j hj hb).1 hf (fun k _ _ => by omega), h.kp, si_at _ _ _ _, h.tl, h.tb, h.ft, fun j hj => (h.sh j hj).fr hf (fun a i _ _ => by omega)⟩
theorem sim_read (a0 : Int32) (a1 : Int32) (a2 : Int32) (a3 : Int32) : Sm (fun M => X_ShakeHands_read fuel a0 a1 a2 a3 M) (fun M => X_Model_read fuel a0 a1 a2 a3 M) := by
  refine Sm_u (u := fun S => if vN a0 4 && vN a1 3 then (if vN a3 21 then rdU (pN a0) (pN a1) (pN a3) a2 S else (-1, S)) else (-1, S)) (fun M S hS hM => ?_) (fun M S hS hM => ?_) (fun S hS => ?_)
  · dsimp only
    unfold X_ShakeHands_read
    rw [x_isSheet, bd_ret, x_isLane, bd_ret, le20]
    by_cases h : vN a0 4 = true
    · obtain ⟨h1, h2⟩ := vN_y (by decide) h
      rw [if_pos h, if_neg i10]
      by_cases h' : vN a1 3 = true
      · obtain ⟨h3, h4⟩ := vN_y (by decide) h'
        rw [if_pos h', if_neg i10, if_pos (show (vN a0 4 && vN a1 3) = true by simp [h, h'])]
        by_cases h'' : vN a3 21 = true
        · obtain ⟨h5, h6⟩ := vN_y (by decide) h''
          rw [if_pos h'', if_pos h'']
          generalize pN a0 = k at *
          generalize pN a1 = lane at *
          generalize pN a3 = n at *
          subst h2 h4 h6
          rw [gd_in (vp_in_nI (by omega) (by decide)), nI_clamp (by omega), sh_id h1]
          have q1 := x_read_L hS hM h1 h3 (show n ≤ 20 by omega) a2 (fun y14 y15 M16 => X_ShakeHands_read_L123 fuel a2 (41 + 2 * k) y14 y15 (fun M25 => some (y14, si M25 0 10 y15)) fuel 0 M16) n 0 fuel rfl (Nat.zero_le _) (by have := fu; omega) (Or.inl rfl)
          refine Exists.imp (fun M' (h : _ ∧ _) => ⟨Eq.trans q1 h.1, h.2⟩) ?_
          unfold rdU
          have hle := rdL_le S k lane (fN a2) n 0
          have hok := fun j => rdL_ok S k lane (fN a2) n 0 j (Nat.zero_le _)
          by_cases e : (rdL S k lane (fN a2) n 0).1 = true
          · rw [if_pos e, if_pos e]
            generalize (rdL S k lane (fN a2) n 0).2.2 = v at *
            generalize (rdL S k lane (fN a2) n 0).2.1 = c at *
            obtain ⟨M1, g1, g2, g3⟩ := x_read_W hS hM (z := 0) h1 (by omega) (v7 := nI v) hok (fun M25 => some (nI c, si M25 0 10 (nI v))) c 0 fuel M S.A.W rfl (Nat.zero_le _) (by have := fu; omega) Off.rf hM.a.2.2.1 hS.hA.1
            exact ⟨_, g1, (hM.newW g2 g3).newT⟩
          · rw [if_neg e, if_neg e]
            exact ⟨M, rfl, hM⟩
        · rw [if_neg h'', if_neg h'']
          exact ⟨M, rfl, hM⟩
      · rw [if_neg h', if_pos rfl, if_neg (show ¬ (vN a0 4 && vN a1 3) = true by simp [h'])]
        exact ⟨M, rfl, hM⟩
    · rw [if_neg h, if_pos rfl, if_neg (show ¬ (vN a0 4 && vN a1 3) = true by simp [h])]
      exact ⟨M, rfl, hM⟩
  · dsimp only
    unfold X_Model_read
    have e3 := m_inV fuel (P := 21) (by decide) a3 M
    rw [show (nI 21 - 1 : Int32).toInt64 = 20 by decide] at e3
    rw [m_isSheet, bd_ret]
    by_cases h : (vN a0 4 && vN a1 3) = true
    · rw [if_pos h, if_pos h, if_neg i10, e3, bd_ret]
      simp only [Bool.and_eq_true] at h
      obtain ⟨h1, h2⟩ := vN_y (by decide) h.1
      obtain ⟨h3, h4⟩ := vN_y (by decide) h.2
      by_cases h'' : vN a3 21 = true
      · obtain ⟨h5, h6⟩ := vN_y (by decide) h''
        rw [if_pos h'', if_pos h'', if_neg i10]
        generalize pN a0 = k at *
        generalize pN a1 = lane at *
        generalize pN a3 = n at *
        subst h2 h4 h6
        have q1 := m_read_L hS hM h1 h3 (show n ≤ 20 by omega) a2 (fun y13 y14 M15 => X_Model_read_L199 fuel (nI k) a2 y14 fuel 0 (si M15 0 54 y13)) n 0 fuel rfl (Nat.zero_le _) (by have := fu; omega) (Or.inl rfl)
        refine Exists.imp (fun M' (h : _ ∧ _) => ⟨Eq.trans q1 h.1, h.2⟩) ?_
        unfold rdU
        have hle := rdL_le S k lane (fN a2) n 0
        have hok := fun j => rdL_ok S k lane (fN a2) n 0 j (Nat.zero_le _)
        by_cases e : (rdL S k lane (fN a2) n 0).1 = true
        · rw [if_pos e, if_pos e]
          generalize (rdL S k lane (fN a2) n 0).2.2 = v at *
          generalize (rdL S k lane (fN a2) n 0).2.1 = c at *
          have hT := hM.newT hS (v := v)
          have hST : Ok (S.R, S.A, S.I, S.kp, S.tp, S.ft, v, S.sh, S.ce) := ⟨hS.hR, hS.hA, hS.hI, hS.hk, hS.ht, hS.hb, hS.hf, by have := hle.2.2; exact this, hS.hs⟩
          obtain ⟨M1, g1, g2⟩ := m_read_W (S0 := S) (lane := lane) h1 (c := c) (by omega) (f := a2) rfl c 0 fuel (si M 0 54 (nI v)) (S.R, S.A, S.I, S.kp, S.tp, S.ft, v, S.sh, S.ce) rfl rfl rfl rfl hST hT hok rfl (Nat.zero_le _) (by have := fu; omega)
          exact ⟨_, g1, g2⟩
        · rw [if_neg e, if_neg e]
          exact ⟨M, rfl, hM⟩
      · rw [if_neg h'', if_neg h'', if_pos rfl]
        exact ⟨M, rfl, hM⟩
    · rw [if_neg h, if_neg h, if_pos rfl]
      exact ⟨M, rfl, hM⟩
  · split
    · split
      · unfold rdU
        split
        · have hle := rdL_le S (pN a0) (pN a1) (fN a2) (pN a3) 0
          have hok := fun j => rdL_ok S (pN a0) (pN a1) (fN a2) (pN a3) 0 j (Nat.zero_le _)
          obtain ⟨w1, w2⟩ := rdW_ok hS (k := pN a0) (y := fN a2) (rdL S (pN a0) (pN a1) (fN a2) (pN a3) 0).2.1 0 S.A.W (fun j _ hj => (hok j (by omega)).2) hS.hA.1 hS.hA.2.1
          exact ⟨hS.hR, hS.hA.setW w1 w2, hS.hI, hS.hk, hS.ht, hS.hb, hS.hf, hle.2.2, hS.hs⟩
        · exact hS
      · exact hS
    · exact hS
