/-! CALLS: comes, the reference -/
theorem l_mul (a b : Nat) : lN a * lN b = lN (a * b) := i64_ext (by
  show (lN a).toBitVec * (lN b).toBitVec = BitVec.ofNat 64 (a * b)
  rw [lN_tb, lN_tb]
  apply BitVec.eq_of_toNat_eq
  rw [BitVec.toNat_mul, BitVec.toNat_ofNat, BitVec.toNat_ofNat, BitVec.toNat_ofNat, ← Nat.mul_mod])
theorem l_add (a b : Nat) : lN a + lN b = lN (a + b) := i64_ext (by
  show (lN a).toBitVec + (lN b).toBitVec = BitVec.ofNat 64 (a + b)
  rw [lN_tb, lN_tb]
  apply BitVec.eq_of_toNat_eq
  rw [BitVec.toNat_add, BitVec.toNat_ofNat, BitVec.toNat_ofNat, BitVec.toNat_ofNat, ← Nat.add_mod])
def cdN (l : List Nat) : Nat := l.foldr (fun t a => 17 * a + t + 1) 0
theorem cdN_lt {l : List Nat} (h : ∀ t ∈ l, t < 16) : cdN l < 17 ^ l.length := by
  induction l with
  | nil => decide
  | cons t l ih =>
    have h1 := ih (fun x hx => h x (List.mem_cons_of_mem _ hx))
    have h2 := h t List.mem_cons_self
    show 17 * cdN l + t + 1 < 17 ^ (l.length + 1)
    rw [Nat.pow_succ]
    omega
theorem cdN_inj : ∀ {l m : List Nat}, (∀ t ∈ l, t < 16) → (∀ t ∈ m, t < 16) → cdN l = cdN m → l = m
  | [], [], _, _, _ => rfl
  | [], t :: m, _, _, h => by
    have : 0 = 17 * cdN m + t + 1 := h
    omega
  | t :: l, [], _, _, h => by
    have : 17 * cdN l + t + 1 = 0 := h
    omega
  | t :: l, u :: m, h1, h2, h => by
    have e : 17 * cdN l + t + 1 = 17 * cdN m + u + 1 := h
    have a1 := h1 t List.mem_cons_self
    have a2 := h2 u List.mem_cons_self
    have e1 : t = u := by omega
    have e2 : cdN l = cdN m := by omega
    rw [e1, cdN_inj (fun x hx => h1 x (List.mem_cons_of_mem _ hx)) (fun x hx => h2 x (List.mem_cons_of_mem _ hx)) e2]
theorem cdN_9 {l : List Nat} (h : Ro l) (hl : l.length ≤ 9) : cdN l < 2 ^ 40 := Nat.lt_of_lt_of_le (cdN_lt h.2) (Nat.le_trans (Nat.pow_le_pow_right (by decide) hl) (by decide))
theorem m_notes_in {M : Mem} {l : List Nat} {p : Nat} (hp : p < 6) (hr : Ro l) (hl : l.length ≤ 9) (hM : RwM M 15 (10 * p) l) (a1 : Int32) (kx : Int64 → Option (Unit × Mem)) : X_Model_notes_L21 fuel a1 (nI p) kx M fuel 0 (nI l.length) = kx (lN (cdN l)) := by
  have key : ∀ (d g : Nat), d ≤ l.length → d < g → X_Model_notes_L21 fuel a1 (nI p) kx M g (lN (cdN (l.drop d))) (nI d) = kx (lN (cdN l)) := by
    intro d
    induction d with
    | zero =>
      intro g g1 g2
      obtain ⟨g, rfl⟩ : ∃ e, g = e + 1 := ⟨g - 1, by omega⟩
      show (if nI 0 ≤ 0 then kx (lN (cdN (l.drop 0))) else _) = _
      rw [if_pos (by decide), List.drop_zero]
    | succ d ih =>
      intro g g1 g2
      obtain ⟨g, rfl⟩ : ∃ e, g = e + 1 := ⟨g - 1, by omega⟩
      have hd : d < l.length := by omega
      have ht := hr.2 _ (List.getElem_mem hd)
      have e := hM.2 d _ (List.getElem?_eq_getElem hd)
      show (if nI (d + 1) ≤ 0 then _ else gd (((10 : Int32) * nI p) + nI (d + 1)) 600 (X_Model_notes_L21 fuel a1 (nI p) kx M g ((((17 : Int64) * lN (cdN (l.drop (d + 1)))) + (((M.1 15 (((10 : Int32) * nI p) + nI (d + 1)).toNatClampNeg) : Int32).toInt64)) + 1) (nI (d + 1) + (-1)))) = _
      rw [if_neg (nI_nle (by omega) (by omega)), show (10 : Int32) = nI 10 from rfl, pk_mul, nI_add, gd_in (vp_in_nI (by omega) (by decide)), nI_clamp (by omega), show 10 * p + (d + 1) = 10 * p + 1 + d by omega, e, l_i (by omega), show (17 : Int64) = lN 17 from rfl, l_mul, l_add, show (1 : Int64) = lN 1 from rfl, l_add, pk_m1]
      have ed : 17 * cdN (l.drop (d + 1)) + l[d] + 1 = cdN (l.drop d) := by rw [List.drop_eq_getElem_cons hd]; rfl
      rw [ed]
      exact ih g (by omega) (by omega)
  have := key l.length fuel (Nat.le_refl _) (by have := fu; omega)
  rw [List.drop_length] at this
  exact this
theorem m_notes {M : Mem} {W : Nat → List Nat} (hW : OkW W) (hM : LyM M 15 (60 * 0) W) {d : Nat} (hd : d < 201) : ∃ M', X_Model_notes fuel (nI d) M = some ((), M') ∧ Fr (rg 20 (6 * d) 6) M M' ∧ ∀ p, p < 6 → M'.2 20 (6 * d + p) = lN (cdN (W p)) := by
  have key : ∀ (k i g : Nat) (N : Mem), 6 - i = k → i ≤ 6 → k < g → LyM N 15 (60 * 0) W → (∀ p, p < i → N.2 20 (6 * d + p) = lN (cdN (W p))) → ∃ M', X_Model_notes_L2 fuel (nI d) g (nI i) N = some ((), M') ∧ Fr (rg 20 (6 * d) 6) N M' ∧ ∀ p, p < 6 → M'.2 20 (6 * d + p) = lN (cdN (W p)) := by
    intro k
    induction k with
    | zero =>
      intro i g N g1 g2 g3 hN h
      obtain ⟨g, rfl⟩ : ∃ e, g = e + 1 := ⟨g - 1, by omega⟩
      have e : i = 6 := by omega
      subst e
      refine ⟨N, ?_, Fr.rf, h⟩
      show (if (6 : Int32) ≤ nI 6 then _ else _) = _
      rw [if_pos (by decide)]
    | succ k ih =>
      intro i g N g1 g2 g3 hN h
      obtain ⟨g, rfl⟩ : ∃ e, g = e + 1 := ⟨g - 1, by omega⟩
      have hi : i < 6 := by omega
      have fr : Fr (rg 20 (6 * d) 6) N (sl N 20 (6 * d + i) (lN (cdN (W i)))) := Fr.sl ⟨rfl, by omega, by omega⟩
      obtain ⟨M', q1, q2, q3⟩ := ih (i + 1) g (sl N 20 (6 * d + i) (lN (cdN (W i)))) (by omega) (by omega) (by omega) (hN.fr hW fr (fun k _ _ => by unfold rg; omega)) (fun p hp => by
        show (if 20 = 20 ∧ 6 * d + p = 6 * d + i then lN (cdN (W i)) else N.2 20 (6 * d + p)) = _
        by_cases e : p = i
        · rw [if_pos ⟨rfl, by omega⟩, e]
        · rw [if_neg (by omega)]; exact h p (by omega))
      refine ⟨M', ?_, fr.trans q2, q3⟩
      have hr := hN i hi
      have hrow : RwM N 15 (10 * i) (W i) := by rw [show 60 * 0 + 10 * i = 10 * i by omega] at hr; exact hr
      show (if (6 : Int32) ≤ nI i then _ else gd ((10 : Int32) * nI i) 600 (X_Model_notes_L21 fuel (nI d) (nI i) (fun y3 => gd (((6 : Int32) * nI d) + nI i) 1206 (X_Model_notes_L2 fuel (nI d) g (nI i + 1) (sl N 20 ((((6 : Int32) * nI d) + nI i).toNatClampNeg) y3))) N fuel 0 (N.1 15 ((10 : Int32) * nI i).toNatClampNeg))) = _
      rw [if_neg (show ¬ (6 : Int32) ≤ nI i from nI_ge (b := 6) hi (by decide)), show (10 : Int32) = nI 10 from rfl, show (6 : Int32) = nI 6 from rfl, pk_mul, pk_mul, nI_add, gd_in (vp_in_nI (by omega) (by decide)), nI_clamp (by omega), hrow.1, m_notes_in hi (hW i).1 (hW i).2 hrow, gd_in (vp_in_nI (by omega) (by decide)), nI_clamp (by omega), nI_1]
      exact q1
  exact key 6 0 fuel M rfl (by decide) (by decide) hM (fun p hp => by omega)
theorem m_isAs {M : Mem} {A B : Nat → List Nat} (hA : OkW A) (hB : OkW B) {d e : Nat} (hd : d < 201) (he : e < 201) (h1 : ∀ p, p < 6 → M.2 20 (6 * e + p) = lN (cdN (A p))) (h2 : ∀ p, p < 6 → M.2 20 (6 * d + p) = lN (cdN (B p))) : X_Model_isAs fuel (nI e) (nI d) M = some (if eqW A B then 1 else 0, M) := by
  have z : ∀ (k i g : Nat), 6 - i = k → i ≤ 6 → k < g → X_Model_isAs_L5 fuel (nI e) (nI d) M g 0 (nI i) = some (0, M) := by
    intro k
    induction k with
    | zero =>
      intro i g g1 g2 g3
      obtain ⟨g, rfl⟩ : ∃ e, g = e + 1 := ⟨g - 1, by omega⟩
      have e : i = 6 := by omega
      subst e
      show (if (6 : Int32) ≤ nI 6 then zr 0 M else _) = _
      rw [if_pos (by decide)]
      rfl
    | succ k ih =>
      intro i g g1 g2 g3
      obtain ⟨g, rfl⟩ : ∃ e, g = e + 1 := ⟨g - 1, by omega⟩
      show (if (6 : Int32) ≤ nI i then _ else (if (0 : Int32) = 0 then X_Model_isAs_L5 fuel (nI e) (nI d) M g 0 (nI i + 1) else _)) = _
      rw [if_neg (show ¬ (6 : Int32) ≤ nI i from nI_ge (b := 6) (by omega) (by decide)), if_pos rfl, nI_1]
      exact ih (i + 1) g (by omega) (by omega) (by omega)
  have key : ∀ (k i g : Nat), 6 - i = k → i ≤ 6 → k < g → (∀ p, p < i → A p = B p) → X_Model_isAs_L5 fuel (nI e) (nI d) M g 1 (nI i) = some (if eqW A B then 1 else 0, M) := by
    intro k
    induction k with
    | zero =>
      intro i g g1 g2 g3 h
      obtain ⟨g, rfl⟩ : ∃ e, g = e + 1 := ⟨g - 1, by omega⟩
      have e : i = 6 := by omega
      subst e
      show (if (6 : Int32) ≤ nI 6 then zr 1 M else _) = _
      rw [if_pos (by decide), if_pos (eqW_iff.mpr h)]
      rfl
    | succ k ih =>
      intro i g g1 g2 g3 h
      obtain ⟨g, rfl⟩ : ∃ e, g = e + 1 := ⟨g - 1, by omega⟩
      have hi : i < 6 := by omega
      show (if (6 : Int32) ≤ nI i then _ else (if (1 : Int32) = 0 then _ else gd (((6 : Int32) * nI e) + nI i) 1206 (gd (((6 : Int32) * nI d) + nI i) 1206 (if (lg_cmp (M.2 20 (((6 : Int32) * nI e) + nI i).toNatClampNeg) (M.2 20 (((6 : Int32) * nI d) + nI i).toNatClampNeg)) = 0 then X_Model_isAs_L5 fuel (nI e) (nI d) M g 1 (nI i + 1) else X_Model_isAs_L5 fuel (nI e) (nI d) M g 0 (nI i + 1))))) = _
      have ca := cdN_9 (hA i).1 (hA i).2
      have cb := cdN_9 (hB i).1 (hB i).2
      rw [if_neg (show ¬ (6 : Int32) ≤ nI i from nI_ge (b := 6) hi (by decide)), if_neg i10, show (6 : Int32) = nI 6 from rfl, pk_mul, pk_mul, nI_add, nI_add, gd_in (vp_in_nI (by omega) (by decide)), gd_in (vp_in_nI (by omega) (by decide)), nI_clamp (by omega), nI_clamp (by omega), h1 i hi, h2 i hi, nI_1]
      by_cases e2 : A i = B i
      · rw [if_pos (by rw [l_cmp0, e2])]
        exact ih (i + 1) g (by omega) (by omega) (by omega) (fun p hp => by
          by_cases e3 : p = i
          · rw [e3]; exact e2
          · exact h p (by omega))
      · rw [if_neg (by rw [l_cmp0]; exact fun q => e2 (cdN_inj (hA i).1.2 (hB i).1.2 ((l_eq (by omega) (by omega)).mp q))), z k (i + 1) g (by omega) (by omega) (by omega), if_neg (fun q => e2 (eqW_iff.mp q i hi))]
  exact key 6 0 fuel rfl (by decide) (by decide) (fun p hp => by omega)
