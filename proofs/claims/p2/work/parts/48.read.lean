/-! CALLS: read -/
theorem i_z {k : Nat} (h : k < 2 ^ 31) : nI k = 0 ↔ k = 0 := nI_eq (b := 0) h (by decide)
def fN (f : Int32) : Nat := if f < 0 then 100 else pN f
def ftF (q : Option (Nat × Nat)) (lane y : Nat) : Nat := match q with
  | none => 1
  | some (l, z) => if l = lane then (if y + 1 < z then 0 else 2) else 3
def rdL (S : Ab) (k lane y : Nat) : Nat → Nat → Bool × Nat × Nat
  | 0, i => (true, i, 0)
  | d + 1, i => if ftF (S.sh k) lane (y + 2 * i) = 0 then (if two (S.ce k (y + 2 * i)) (S.ce k (y + 2 * i + 1)) S.R.1 then rdL S k lane y d (i + 1) else (false, i, 0)) else (true, i, ftF (S.sh k) lane (y + 2 * i))
def rdW (S : Ab) (k y : Nat) : Nat → Nat → (Nat → List Nat) → Nat → List Nat
  | 0, _, W => W
  | d + 1, i, W => rdW S k y d (i + 1) (handF S.R S.A.gl (prN (pN (S.ce k (y + 2 * i))) (pN (S.ce k (y + 2 * i + 1)))) W)
theorem f_cases (f : Int32) : (f < 0 ∧ fN f = 100) ∨ ∃ y, y < 2 ^ 31 ∧ f = nI y ∧ fN f = y := by
  unfold fN
  rcases i_cases f with h | ⟨y, h1, rfl⟩
  · left; exact ⟨h, if_pos h⟩
  · right
    refine ⟨y, h1, rfl, ?_⟩
    rw [if_neg (nI_pos h1)]
    exact nI_clamp h1
theorem vN_neg {p : Int32} (h : p < 0) (z : Nat) : ¬ vN p z = true := by
  unfold vN
  simp only [Bool.and_eq_true, decide_eq_true_eq, not_and]
  intro q
  exact absurd (Int32.lt_of_le_of_lt q h) (by decide)
def fOk (f : Int32) (i : Nat) : Prop := i = 0 ∨ (f = nI (fN f) ∧ fN f + 2 * i ≤ 41)
theorem x_ft2 {M : Mem} {S : Ab} (hS : Ok S) (hM : XA M S) {k lane : Nat} (hk : k < 4) (hl : lane < 3) {f : Int32} {i : Nat} (hi : i ≤ 20) (hf : fOk f i) : X_Sheet_faultOfTwo fuel (41 + 2 * k) (nI lane) (f + (2 : Int32) * nI i) M = some (nI (ftF (S.sh k) lane (fN f + 2 * i)), M) := by
  have hs := hM.sh k hk
  unfold X_Sheet_faultOfTwo nm
  dsimp only
  cases hq : S.sh k with
  | none =>
    rw [hq] at hs
    have hs : M.1 (41 + 2 * k) 0 = 0 := hs
    rw [if_pos hs, x_fault_none hS hM hk hq, bd_ret, if_neg i10]
    rfl
  | some q =>
    obtain ⟨l, z⟩ := q
    rw [hq] at hs
    obtain ⟨s1, s2, s3, s4⟩ := hs
    have s1 : M.1 (41 + 2 * k) 0 = 1 := s1
    have s3 : M.1 (41 + 2 * k) 2 = nI l := s3
    have hlz := hS.hs k l z hq
    rw [s1, if_neg i10, s3]
    show _ = some (nI (if l = lane then (if fN f + 2 * i + 1 < z then 0 else 2) else 3), M)
    by_cases e : l = lane
    · rw [if_pos (by rw [e]), if_pos e]
      by_cases hv : vN (f + (2 : Int32) * nI i) z = true
      · rw [x_fault_in hS hM hk hq hv, bd_ret, if_pos rfl]
        obtain ⟨h1, h2⟩ := vN_y (by omega) hv
        have ey : pN (f + (2 : Int32) * nI i) = fN f + 2 * i := by
          rcases f_cases f with ⟨h3, h4⟩ | ⟨y, h3, h4, h5⟩
          · rcases hf with h6 | ⟨h6, h7⟩
            · rw [h6] at hv
              rw [show f + (2 : Int32) * nI 0 = f by rw [show (2 : Int32) * nI 0 = 0 from rfl, Int32.add_zero]] at hv
              exact absurd hv (vN_neg h3 z)
            · omega
          · rw [h5, h4, show (2 : Int32) = nI 2 from rfl, pk_mul, nI_add]
            rcases hf with h6 | ⟨h6, h7⟩
            · rw [h6]; exact nI_clamp (by omega)
            · exact nI_clamp (by omega)
        rw [ey] at h1 h2
        rw [h2, nI_1]
        by_cases hv2 : fN f + 2 * i + 1 < z
        · rw [x_fault_in hS hM hk hq (by rw [vN_k (by omega) (by omega)]; simpa using hv2), bd_ret, if_pos hv2]
          rfl
        · rw [x_fault_out hS hM hk hq (by rw [vN_k (by omega) (by omega)]; simpa using hv2), bd_ret, if_neg hv2]
          rfl
      · rw [x_fault_out hS hM hk hq hv, bd_ret, if_neg (by decide), if_neg]
        · rfl
        · intro hlt
          apply hv
          rcases f_cases f with ⟨h3, h4⟩ | ⟨y, h3, h4, h5⟩
          · omega
          · rw [h4, show (2 : Int32) = nI 2 from rfl, pk_mul, nI_add, vN_k (by omega) (by omega)]
            simp
            omega
    · rw [if_neg (fun q => e ((nI_eq (by omega) (by omega)).mp q)), if_neg e]
      rfl
theorem ft0 {q : Option (Nat × Nat)} {lane y : Nat} (h : ftF q lane y = 0) : ∃ z, q = some (lane, z) ∧ y + 1 < z := by
  unfold ftF at h
  cases q with
  | none =>
    have h : (1 : Nat) = 0 := h
    exact absurd h (by decide)
  | some q =>
    obtain ⟨l, z⟩ := q
    dsimp only at h
    by_cases e : l = lane
    · rw [if_pos e] at h
      by_cases e2 : y + 1 < z
      · exact ⟨z, by rw [e], e2⟩
      · rw [if_neg e2] at h; exact absurd h (by decide)
    · rw [if_neg e] at h; exact absurd h (by decide)
theorem ft_lt (q : Option (Nat × Nat)) (lane y : Nat) : ftF q lane y < 4 := by
  unfold ftF
  split
  · decide
  · split
    · split <;> decide
    · decide
theorem f_y {S : Ab} (hS : Ok S) {k lane i : Nat} {f : Int32} (h : ftF (S.sh k) lane (fN f + 2 * i) = 0) : f = nI (fN f) ∧ fN f + 2 * i + 1 < 40 ∧ ∃ z, S.sh k = some (lane, z) ∧ fN f + 2 * i + 1 < z := by
  obtain ⟨z, h1, h2⟩ := ft0 h
  have := (hS.hs k lane z h1).2
  rcases f_cases f with ⟨h3, h4⟩ | ⟨y, h3, h4, h5⟩
  · omega
  · exact ⟨by rw [h5]; exact h4, by omega, z, h1, h2⟩
theorem x_cell {M : Mem} {S : Ab} (hS : Ok S) (hM : XA M S) {k lane z y : Nat} (hk : k < 4) (hq : S.sh k = some (lane, z)) (hy : y < z) : X_Sheet_cellAt fuel (41 + 2 * k) (nI y) M = some (S.ce k y, M) := by
  have hz := (hS.hs k lane z hq).2
  have hs := hM.sh k hk
  rw [hq] at hs
  unfold X_Sheet_cellAt
  rw [x_fault_in hS hM hk hq (by rw [vN_k (by omega) (by omega)]; simpa using hy), bd_ret, if_pos rfl, gd_in (vp_in_nI (by omega) (by decide)), nI_clamp (by omega), show 41 + 2 * k + 1 = 42 + 2 * k by omega, hs.2.2.2 y (by omega)]
theorem rdL_le (S : Ab) (k lane y : Nat) : ∀ d i, (rdL S k lane y d i).2.1 ≤ i + d ∧ i ≤ (rdL S k lane y d i).2.1 ∧ (rdL S k lane y d i).2.2 < 4
  | 0, i => ⟨Nat.le_refl _, Nat.le_refl _, (by decide : 0 < 4)⟩
  | d + 1, i => by
    have := rdL_le S k lane y d (i + 1)
    have h4 := ft_lt (S.sh k) lane (y + 2 * i)
    unfold rdL
    split
    · split
      · exact ⟨by omega, by omega, this.2.2⟩
      · exact ⟨by show i ≤ _; omega, Nat.le_refl _, (by decide : 0 < 4)⟩
    · exact ⟨by show i ≤ _; omega, Nat.le_refl _, h4⟩
theorem x_read_L {M : Mem} {S : Ab} (hS : Ok S) (hM : XA M S) {k lane n : Nat} (hk : k < 4) (hl : lane < 3) (hn : n ≤ 20) (f : Int32) (kx : Int32 → Int32 → Mem → Option (Int32 × Mem)) : ∀ (d i g : Nat), n - i = d → i ≤ n → d < g → fOk f i → X_ShakeHands_read_L45 fuel (nI lane) f (nI n) (41 + 2 * k) kx g (nI i) 0 (nI i) M = (if (rdL S k lane (fN f) d i).1 then kx (nI (rdL S k lane (fN f) d i).2.1) (nI (rdL S k lane (fN f) d i).2.2) M else some ((-20 : Int32) - nI (rdL S k lane (fN f) d i).2.1, M)) := by
  intro d
  induction d with
  | zero =>
    intro i g h1 h2 h3 hf
    obtain ⟨g, rfl⟩ : ∃ e, g = e + 1 := ⟨g - 1, by omega⟩
    show (if nI n ≤ nI i then kx (nI i) 0 M else _) = _
    rw [if_pos (nI_le (by omega) (by omega))]
    rfl
  | succ d ih =>
    intro i g h1 h2 h3 hf
    obtain ⟨g, rfl⟩ : ∃ e, g = e + 1 := ⟨g - 1, by omega⟩
    have hi : i < n := by omega
    have un : X_ShakeHands_read_L45 fuel (nI lane) f (nI n) (41 + 2 * k) kx (g + 1) (nI i) 0 (nI i) M = bd (X_Sheet_faultOfTwo fuel (41 + 2 * k) (nI lane) (f + ((2 : Int32) * nI i)) M) fun r6 M7 => (if r6 = 0 then bd (X_Sheet_cellAt fuel (41 + 2 * k) (f + ((2 : Int32) * nI i)) M7) fun r8 M9 => bd (X_Sheet_cellAt fuel (41 + 2 * k) ((f + ((2 : Int32) * nI i)) + 1) M9) fun r10 M11 => bd (X_ShakeHands_areTwo fuel r8 r10 M11) fun r12 M13 => (if r12 = 0 then some ((((-20) : Int32) - nI i), M13) else X_ShakeHands_read_L45 fuel (nI lane) f (nI n) (41 + 2 * k) kx g (nI i + 1) r6 (nI i + 1) M13) else kx (nI i) r6 M7) := by
      show (if nI n ≤ nI i then _ else _) = _
      rw [if_neg (nI_ge hi (by omega))]
    rw [un, x_ft2 hS hM hk hl (by omega) hf, bd_ret]
    unfold rdL
    have h4 := ft_lt (S.sh k) lane (fN f + 2 * i)
    by_cases e : ftF (S.sh k) lane (fN f + 2 * i) = 0
    · obtain ⟨y1, y2, z, y3, y4⟩ := f_y hS e
      have ea : f + (2 : Int32) * nI i = nI (fN f + 2 * i) := by
        generalize fN f = y at *
        rw [y1, show (2 : Int32) = nI 2 from rfl, pk_mul, nI_add]
      rw [e, if_pos (show nI 0 = 0 from rfl), if_pos rfl, ea, nI_1, nI_1, x_cell hS hM hk y3 (by omega), bd_ret, x_cell hS hM hk y3 y4, bd_ret, x_areTwo hM.c.1, bd_ret]
      by_cases e2 : two (S.ce k (fN f + 2 * i)) (S.ce k (fN f + 2 * i + 1)) S.R.1 = true
      · have e3 := e2
        unfold two at e3
        rw [if_pos e3, if_neg i10, if_pos e2]
        exact ih (i + 1) g (by omega) (by omega) (by omega) (Or.inr ⟨y1, by omega⟩)
      · have e3 := e2
        unfold two at e3
        rw [if_neg e3, if_pos rfl, if_neg e2]
        rfl
    · rw [if_neg (fun q => e ((i_z (by omega)).mp q)), if_neg e]
      rfl
theorem rdL_ok (S : Ab) (k lane y : Nat) : ∀ d i j, i ≤ j → j < (rdL S k lane y d i).2.1 → ftF (S.sh k) lane (y + 2 * j) = 0 ∧ two (S.ce k (y + 2 * j)) (S.ce k (y + 2 * j + 1)) S.R.1 = true
  | 0, i, j, h1, h2 => by
    have : j < i := h2
    omega
  | d + 1, i, j, h1, h2 => by
    unfold rdL at h2
    split at h2
    · next e1 =>
      split at h2
      · next e2 =>
        by_cases e : j = i
        · rw [e]; exact ⟨e1, e2⟩
        · exact rdL_ok S k lane y d (i + 1) j (by omega) h2
      · have : j < i := h2
        omega
    · have : j < i := h2
      omega
theorem rdW_ok {S : Ab} (hS : Ok S) {k y : Nat} : ∀ (d i : Nat) (W : Nat → List Nat), (∀ j, i ≤ j → j < i + d → two (S.ce k (y + 2 * j)) (S.ce k (y + 2 * j + 1)) S.R.1 = true) → OkW W → (∀ p, S.R.1 ≤ p → W p = []) → OkW (rdW S k y d i W) ∧ ∀ p, S.R.1 ≤ p → rdW S k y d i W p = []
  | 0, _, _, _, h1, h2 => ⟨h1, h2⟩
  | d + 1, i, W, h, h1, h2 => by
    obtain ⟨t1, t2, t3, -, -⟩ := two_y hS.p31 (h i (Nat.le_refl _) (by omega))
    obtain ⟨q1, q2⟩ := pr_P t1 t2 hS.p6 t3
    exact rdW_ok hS d (i + 1) _ (fun j hj hj2 => h j (by omega) (by omega)) (h1.hand hS.hR _ _) (handF_end q1 q2 h2)
theorem XA.shU0 {M : Mem} {S : Ab} {W : Nat → List Nat} (h : XA M (S.setA (S.A.setW W))) : XA M (S.setA (S.A.setW W)) := h
theorem x_read_W {M : Mem} {S : Ab} (hS : Ok S) (hM : XA M S) {k lane z c : Nat} (hk : k < 4) (hc : c ≤ 20) {f : Int32} {v7 : Int32} (hall : ∀ j, j < c → ftF (S.sh k) lane (fN f + 2 * j) = 0 ∧ two (S.ce k (fN f + 2 * j)) (S.ce k (fN f + 2 * j + 1)) S.R.1 = true) (kx : Mem → Option (Int32 × Mem)) : ∀ (d i g : Nat) (N : Mem) (W : Nat → List Nat), c - i = d → i ≤ c → d < g → Off [15, 17] M N → rowsAt N 17 W → OkW W → ∃ M', X_ShakeHands_read_L123 fuel f (41 + 2 * k) (nI c) v7 kx g (nI i) N = kx M' ∧ Off [15, 17] M M' ∧ rowsAt M' 17 (rdW S k (fN f) d i W) := by
  have hg := hS.gl
  have h6 := hS.p6
  intro d
  induction d with
  | zero =>
    intro i g N W h1 h2 h3 h4 h5 h6
    obtain ⟨g, rfl⟩ : ∃ e, g = e + 1 := ⟨g - 1, by omega⟩
    refine ⟨N, ?_, h4, h5⟩
    show (if nI c ≤ nI i then kx N else _) = _
    rw [if_pos (nI_le (by omega) (by omega))]
  | succ d ih =>
    intro i g N W h1 h2 h3 h4 h5 hW
    obtain ⟨g, rfl⟩ : ∃ e, g = e + 1 := ⟨g - 1, by omega⟩
    have hi : i < c := by omega
    obtain ⟨e, e2⟩ := hall i hi
    obtain ⟨y1, y2, z, y3, y4⟩ := f_y hS e
    obtain ⟨t1, t2, t3, t4, t5⟩ := two_y hS.p31 e2
    obtain ⟨q1, q2⟩ := pr_P t1 t2 hS.p6 t3
    have hN := hM.newW h4 h5
    have hS2 : S.sh k = some (lane, z) := y3
    have cell : ∀ y, y < z → X_Sheet_cellAt fuel (41 + 2 * k) (nI y) N = some (S.ce k y, N) := fun y hy => by
      have hz := (hS.hs k lane z y3).2
      have hs := hM.sh k hk
      rw [y3] at hs
      have o1 := (h4 (41 + 2 * k) (by simp; omega)).1
      have o2 := (h4 (42 + 2 * k) (by simp; omega)).1
      have s1 : N.1 (41 + 2 * k) 0 = 1 := by rw [o1]; exact hs.1
      have s2 : N.1 (41 + 2 * k) 1 = nI z := by rw [o1]; exact hs.2.1
      have s4 : N.1 (42 + 2 * k) y = S.ce k y := by rw [o2]; exact hs.2.2.2 y (by omega)
      unfold X_Sheet_cellAt X_Sheet_faultAt
      rw [s1, if_neg i10, s2, if_neg (nI_pos (by omega)), if_pos (nI_lt hy (by omega)), bd_ret, if_pos rfl, gd_in (vp_in_nI (by omega) (by decide)), nI_clamp (by omega), show 41 + 2 * k + 1 = 42 + 2 * k by omega, s4]
    obtain ⟨r, M1, k1, k2, k3, -⟩ := circ_meet fuel (by decide) hS.hR hN.c (rows := 17) (by decide) hW h5 (show S.A.gl < 2 ^ 31 by omega) q1
    obtain ⟨M2, u1, u2, u3⟩ := ih (i + 1) g M1 _ (by omega) (by omega) (by omega) (h4.trans k2) k3 (hW.hand hS.hR _ _)
    refine ⟨M2, ?_, u2, u3⟩
    have ea : f + (2 : Int32) * nI i = nI (fN f + 2 * i) := by
      generalize fN f = y at *
      rw [y1, show (2 : Int32) = nI 2 from rfl, pk_mul, nI_add]
    have egl : N.1 16 1 = nI S.A.gl := hN.a.1
    show (if nI c ≤ nI i then kx N else bd (X_Sheet_cellAt fuel (41 + 2 * k) (f + ((2 : Int32) * nI i)) N) fun r17 M18 => bd (X_Sheet_cellAt fuel (41 + 2 * k) ((f + ((2 : Int32) * nI i)) + 1) M18) fun r19 M20 => bd (X_ShakeHands_pairOf fuel r17 r19 M20) fun r21 M22 => bd (X_Circle_meet fuel 17 (M22.1 16 1) r21 M22) fun r23 M24 => X_ShakeHands_read_L123 fuel f (41 + 2 * k) (nI c) v7 kx g (nI i + 1) M24) = _
    rw [if_neg (nI_ge hi (by omega)), ea, nI_1, nI_1, cell _ (by omega), bd_ret, cell _ y4, bd_ret]
    generalize S.ce k (fN f + 2 * i) = c1 at *
    generalize S.ce k (fN f + 2 * i + 1) = c2 at *
    generalize pN c1 = a at *
    generalize pN c2 = b at *
    subst t4 t5
    rw [x_pairOf fuel (by omega) (by omega) t3, bd_ret, egl, k1, bd_ret]
    exact u1
