/-! CALLS: comes, the reference -/
theorem l_mul (a b : Nat) : lN a * lN b = lN (a * b) := i64_ext (by
  show (lN a).toBitVec * (lN b).toBitVec = BitVec.ofNat 64 (a * b)
  rw [lN_tb, lN_tb]
  apply BitVec.eq_of_toNat_eq
  rw [BitVec.toNat_mul, BitVec.toNat_ofNat, BitVec.toNat_ofNat, BitVec.toNat_ofNat, ← Nat.mul_mod])
theorem l_add (a b : Nat) : lN a + lN b = lN (a + b) := i64_ext (by
  show (lN a).toBitVec + (lN b).toBitVec = BitVec.ofNat 64 (a + b)
  rw [lN_tb, lN_tb]
  apply BitVec.eq_of_toNat_eq
  rw [BitVec.toNat_add, BitVec.toNat_ofNat, BitVec.toNat_ofNat, BitVec.toNat_ofNat, ← Nat.add_mod])
def cdN (l : List Nat) : Nat := l.foldr (fun t a => 17 * a + t + 1) 0
theorem cdN_lt {l : List Nat} (h : ∀ t ∈ l, t < 16) : cdN l < 17 ^ l.length := by
  induction l with
  | nil => decide
  | cons t l ih =>
    have h1 := ih (fun x hx => h x (List.mem_cons_of_mem _ hx))
    have h2 := h t List.mem_cons_self
    show 17 * cdN l + t + 1 < 17 ^ (l.length + 1)
    rw [Nat.pow_succ]
    omega
theorem cdN_inj : ∀ {l m : List Nat}, (∀ t ∈ l, t < 16) → (∀ t ∈ m, t < 16) → cdN l = cdN m → l = m
  | [], [], _, _, _ => rfl
  | [], t :: m, _, _, h => by
    have : 0 = 17 * cdN m + t + 1 := h
    omega
  | t :: l, [], _, _, h => by
    have : 17 * cdN l + t + 1 = 0 := h
    omega
  | t :: l, u :: m, h1, h2, h => by
    have e : 17 * cdN l + t + 1 = 17 * cdN m + u + 1 := h
    have a1 := h1 t List.mem_cons_self
    have a2 := h2 u List.mem_cons_self
    have e1 : t = u := by omega
    have e2 : cdN l = cdN m := by omega
    rw [e1, cdN_inj (fun x hx => h1 x (List.mem_cons_of_mem _ hx)) (fun x hx => h2 x (List.mem_cons_of_mem _ hx)) e2]
theorem cdN_9 {l : List Nat} (h : Ro l) (hl : l.length ≤ 9) : cdN l < 2 ^ 40 := Nat.lt_of_lt_of_le (cdN_lt h.2) (Nat.le_trans (Nat.pow_le_pow_right (by decide) hl) (by decide))
theorem m_notes_in {n : Nat} (hn : 20 ≤ n) {M : Mem} {l : List Nat} {p : Nat} (hp : p < 6) (hr : Ro l) (hl : l.length ≤ 9) (hM : RwM M 15 (10 * p) l) (a1 : Int32) (kx : Int64 → Option (Unit × Mem)) : X_Model_notes_L21 n a1 (nI p) kx M n 0 (nI l.length) = kx (lN (cdN l)) := by
  have key : ∀ (d g : Nat), d ≤ l.length → d < g → X_Model_notes_L21 n a1 (nI p) kx M g (lN (cdN (l.drop d))) (nI d) = kx (lN (cdN l)) := by
    intro d
    induction d with
    | zero =>
      intro g g1 g2
      obtain ⟨g, rfl⟩ : ∃ e, g = e + 1 := ⟨g - 1, by omega⟩
      show (if nI 0 ≤ 0 then kx (lN (cdN (l.drop 0))) else _) = _
      rw [if_pos (by decide), List.drop_zero]
    | succ d ih =>
      intro g g1 g2
      obtain ⟨g, rfl⟩ : ∃ e, g = e + 1 := ⟨g - 1, by omega⟩
      have hd : d < l.length := by omega
      have ht := hr.2 _ (List.getElem_mem hd)
      have e := hM.2 d _ (List.getElem?_eq_getElem hd)
      show (if nI (d + 1) ≤ 0 then _ else gd (((10 : Int32) * nI p) + nI (d + 1)) 600 (X_Model_notes_L21 n a1 (nI p) kx M g ((((17 : Int64) * lN (cdN (l.drop (d + 1)))) + (((M.1 15 (((10 : Int32) * nI p) + nI (d + 1)).toNatClampNeg) : Int32).toInt64)) + 1) (nI (d + 1) + (-1)))) = _
      rw [if_neg (nI_nle (by omega) (by omega)), show (10 : Int32) = nI 10 from rfl, pk_mul, nI_add, gd_in (vp_in_nI (by omega) (by decide)), nI_clamp (by omega), show 10 * p + (d + 1) = 10 * p + 1 + d by omega, e, l_i (by omega), show (17 : Int64) = lN 17 from rfl, l_mul, l_add, show (1 : Int64) = lN 1 from rfl, l_add, pk_m1]
      have ed : 17 * cdN (l.drop (d + 1)) + l[d] + 1 = cdN (l.drop d) := by rw [List.drop_eq_getElem_cons hd]; rfl
      rw [ed]
      exact ih g (by omega) (by omega)
  have := key l.length n (Nat.le_refl _) (by omega)
  rw [List.drop_length] at this
  exact this
theorem m_notes {n : Nat} (hn : 20 ≤ n) {M : Mem} {W : Nat → List Nat} (hW : OkW W) (hM : LyM M 15 (60 * 0) W) {d : Nat} (hd : d < 201) : ∃ M', X_Model_notes n (nI d) M = some ((), M') ∧ Fr (rg 20 (6 * d) 6) M M' ∧ ∀ p, p < 6 → M'.2 20 (6 * d + p) = lN (cdN (W p)) := by
  have key : ∀ (k i g : Nat) (N : Mem), 6 - i = k → i ≤ 6 → k < g → LyM N 15 (60 * 0) W → (∀ p, p < i → N.2 20 (6 * d + p) = lN (cdN (W p))) → ∃ M', X_Model_notes_L2 n (nI d) g (nI i) N = some ((), M') ∧ Fr (rg 20 (6 * d) 6) N M' ∧ ∀ p, p < 6 → M'.2 20 (6 * d + p) = lN (cdN (W p)) := by
    intro k
    induction k with
    | zero =>
      intro i g N g1 g2 g3 hN h
      obtain ⟨g, rfl⟩ : ∃ e, g = e + 1 := ⟨g - 1, by omega⟩
      have e : i = 6 := by omega
      subst e
      refine ⟨N, ?_, Fr.rf, h⟩
      show (if (6 : Int32) ≤ nI 6 then _ else _) = _
      rw [if_pos (by decide)]
    | succ k ih =>
      intro i g N g1 g2 g3 hN h
      obtain ⟨g, rfl⟩ : ∃ e, g = e + 1 := ⟨g - 1, by omega⟩
      have hi : i < 6 := by omega
      have fr : Fr (rg 20 (6 * d) 6) N (sl N 20 (6 * d + i) (lN (cdN (W i)))) := Fr.sl ⟨rfl, by omega, by omega⟩
      obtain ⟨M', q1, q2, q3⟩ := ih (i + 1) g (sl N 20 (6 * d + i) (lN (cdN (W i)))) (by omega) (by omega) (by omega) (hN.fr hW fr (fun k _ _ => by unfold rg; omega)) (fun p hp => by
        show (if 20 = 20 ∧ 6 * d + p = 6 * d + i then lN (cdN (W i)) else N.2 20 (6 * d + p)) = _
        by_cases e : p = i
        · rw [if_pos ⟨rfl, by omega⟩, e]
        · rw [if_neg (by omega)]; exact h p (by omega))
      refine ⟨M', ?_, fr.trans q2, q3⟩
      have hr := hN i hi
      have hrow : RwM N 15 (10 * i) (W i) := by rw [show 60 * 0 + 10 * i = 10 * i by omega] at hr; exact hr
      show (if (6 : Int32) ≤ nI i then _ else gd ((10 : Int32) * nI i) 600 (X_Model_notes_L21 n (nI d) (nI i) (fun y3 => gd (((6 : Int32) * nI d) + nI i) 1206 (X_Model_notes_L2 n (nI d) g (nI i + 1) (sl N 20 ((((6 : Int32) * nI d) + nI i).toNatClampNeg) y3))) N n 0 (N.1 15 ((10 : Int32) * nI i).toNatClampNeg))) = _
      rw [if_neg (show ¬ (6 : Int32) ≤ nI i from nI_ge (b := 6) hi (by decide)), show (10 : Int32) = nI 10 from rfl, show (6 : Int32) = nI 6 from rfl, pk_mul, pk_mul, nI_add, gd_in (vp_in_nI (by omega) (by decide)), nI_clamp (by omega), nI_clamp (by omega), hrow.1, m_notes_in hn hi (hW i).1 (hW i).2 hrow, gd_in (vp_in_nI (by omega) (by decide)), nI_1]
      exact q1
  exact key 6 0 n M rfl (by decide) (by omega) hM (fun p hp => by omega)
theorem m_isAs {M : Mem} {A B : Nat → List Nat} (hA : OkW A) (hB : OkW B) {d e : Nat} (hd : d < 201) (he : e < 201) (h1 : ∀ p, p < 6 → M.2 20 (6 * e + p) = lN (cdN (A p))) (h2 : ∀ p, p < 6 → M.2 20 (6 * d + p) = lN (cdN (B p))) : X_Model_isAs fuel (nI e) (nI d) M = some (if eqW A B then 1 else 0, M) := by
  have z : ∀ (k i g : Nat), 6 - i = k → i ≤ 6 → k < g → X_Model_isAs_L5 fuel (nI e) (nI d) M g 0 (nI i) = some (0, M) := by
    intro k
    induction k with
    | zero =>
      intro i g g1 g2 g3
      obtain ⟨g, rfl⟩ : ∃ e, g = e + 1 := ⟨g - 1, by omega⟩
      have e : i = 6 := by omega
      subst e
      show (if (6 : Int32) ≤ nI 6 then zr 0 M else _) = _
      rw [if_pos (by decide)]
      rfl
    | succ k ih =>
      intro i g g1 g2 g3
      obtain ⟨g, rfl⟩ : ∃ e, g = e + 1 := ⟨g - 1, by omega⟩
      show (if (6 : Int32) ≤ nI i then _ else (if (0 : Int32) = 0 then X_Model_isAs_L5 fuel (nI e) (nI d) M g 0 (nI i + 1) else gd (((6 : Int32) * nI e) + nI i) 1206 (gd (((6 : Int32) * nI d) + nI i) 1206 (if (lg_cmp (M.2 20 (((6 : Int32) * nI e) + nI i).toNatClampNeg) (M.2 20 (((6 : Int32) * nI d) + nI i).toNatClampNeg)) = 0 then X_Model_isAs_L5 fuel (nI e) (nI d) M g 1 (nI i + 1) else X_Model_isAs_L5 fuel (nI e) (nI d) M g 0 (nI i + 1))))) = _
      rw [if_neg (show ¬ (6 : Int32) ≤ nI i from nI_ge (b := 6) (by omega) (by decide)), if_pos rfl, nI_1]
      exact ih (i + 1) g (by omega) (by omega) (by omega)
  have key : ∀ (k i g : Nat), 6 - i = k → i ≤ 6 → k < g → (∀ p, p < i → A p = B p) → X_Model_isAs_L5 fuel (nI e) (nI d) M g 1 (nI i) = some (if eqW A B then 1 else 0, M) := by
    intro k
    induction k with
    | zero =>
      intro i g g1 g2 g3 h
      obtain ⟨g, rfl⟩ : ∃ e, g = e + 1 := ⟨g - 1, by omega⟩
      have e : i = 6 := by omega
      subst e
      show (if (6 : Int32) ≤ nI 6 then zr 1 M else _) = _
      rw [if_pos (by decide), if_pos (eqW_iff.mpr h)]
      rfl
    | succ k ih =>
      intro i g g1 g2 g3 h
      obtain ⟨g, rfl⟩ : ∃ e, g = e + 1 := ⟨g - 1, by omega⟩
      have hi : i < 6 := by omega
      show (if (6 : Int32) ≤ nI i then _ else (if (1 : Int32) = 0 then X_Model_isAs_L5 fuel (nI e) (nI d) M g 0 (nI i + 1) else gd (((6 : Int32) * nI e) + nI i) 1206 (gd (((6 : Int32) * nI d) + nI i) 1206 (if (lg_cmp (M.2 20 (((6 : Int32) * nI e) + nI i).toNatClampNeg) (M.2 20 (((6 : Int32) * nI d) + nI i).toNatClampNeg)) = 0 then X_Model_isAs_L5 fuel (nI e) (nI d) M g 1 (nI i + 1) else X_Model_isAs_L5 fuel (nI e) (nI d) M g 0 (nI i + 1))))) = _
      have ca := cdN_9 (hA i).1 (hA i).2
      have cb := cdN_9 (hB i).1 (hB i).2
      rw [if_neg (show ¬ (6 : Int32) ≤ nI i from nI_ge (b := 6) hi (by decide)), if_neg i10, show (6 : Int32) = nI 6 from rfl, pk_mul, pk_mul, nI_add, nI_add, gd_in (vp_in_nI (by omega) (by decide)), gd_in (vp_in_nI (by omega) (by decide)), nI_clamp (by omega), nI_clamp (by omega), h1 i hi, h2 i hi, nI_1]
      by_cases e2 : A i = B i
      · rw [if_pos (by rw [l_cmp0, e2])]
        exact ih (i + 1) g (by omega) (by omega) (by omega) (fun p hp => by
          by_cases e3 : p = i
          · rw [e3]; exact e2
          · exact h p (by omega))
      · rw [if_neg (by rw [l_cmp0]; exact fun q => e2 (cdN_inj (hA i).1.2 (hB i).1.2 ((l_eq (by omega) (by omega)).mp q))), z k (i + 1) g (by omega) (by omega) (by omega), if_neg (fun q => e2 (eqW_iff.mp q i hi))]
  exact key 6 0 fuel rfl (by decide) (by decide) (fun p hp => by omega)
def mN (a k : Nat) : Prop := mh 0 a k ∨ a = 20
theorem mN_S {M M' : Mem} (h : Fr mN M M') : Fr mS M M' := h.mono (fun a k q => q.elim mh_mS (fun r => by unfold mS; omega))
theorem mN_MC {M M' : Mem} {R : Rl} (h : MC M R) (ho : Fr mN M M') : MC M' R := h.fr ho (fun k hk q => q.elim (mh_MC k hk) (fun r => by omega)) (fun a k ha q => q.elim (mh_MC2 a k ha) (fun r => by simp only [List.mem_cons, List.not_mem_nil, or_false] at ha; omega))
theorem m_comes_in {M : Mem} {q : Nat → Nat → List Nat} (hq : ∀ e, OkW (q e)) {d : Nat} (hd : d < 201) (a : Int32) (kz : Mem → Option (Int32 × Mem)) (ky : Int32 → Mem → Option (Int32 × Mem)) (h : ∀ e, e ≤ d → ∀ p, p < 6 → M.2 20 (6 * e + p) = lN (cdN (q e p))) : X_Model_comes_L43 fuel a (nI d) kz ky fuel (nI 0) M = (match sFd q d d 0 with | some e => ky (nI e) M | none => kz M) := by
  have key : ∀ (k i g : Nat), d - i = k → i ≤ d → k < g → X_Model_comes_L43 fuel a (nI d) kz ky g (nI i) M = (match sFd q d k i with | some e => ky (nI e) M | none => kz M) := by
    intro k
    induction k with
    | zero =>
      intro i g g1 g2 g3
      obtain ⟨g, rfl⟩ : ∃ e, g = e + 1 := ⟨g - 1, by omega⟩
      show (if nI d ≤ nI i then kz M else _) = _
      rw [if_pos (nI_le (by omega) (by omega))]
      rfl
    | succ k ih =>
      intro i g g1 g2 g3
      obtain ⟨g, rfl⟩ : ∃ e, g = e + 1 := ⟨g - 1, by omega⟩
      show (if nI d ≤ nI i then kz M else bd (X_Model_isAs fuel (nI i) (nI d) M) fun r11 M12 => (if r11 = 0 then X_Model_comes_L43 fuel a (nI d) kz ky g (nI i + 1) M12 else ky (nI i) M12)) = _
      rw [if_neg (nI_ge (by omega) (by omega)), m_isAs (hq i) (hq d) hd (by omega) (h i (by omega)) (h d (Nat.le_refl _)), bd_ret]
      unfold sFd
      by_cases e : eqW (q i) (q d) = true
      · rw [if_pos e, if_pos e, if_neg i10]
      · rw [if_neg e, if_neg e, if_pos rfl, nI_1]
        exact ih (i + 1) g (by omega) (by omega) (by omega)
  exact key d 0 fuel rfl (Nat.zero_le _) (by have := fu; omega)
theorem m_comes_L {M : Mem} {S : Ab} (hS : Ok S) (hM : MA M S) (a : Int32) : ∀ (k d g : Nat) (N : Mem), 201 - d = k → 1 ≤ d → d ≤ 201 → k < g → Fr mN M N → LyM N 15 (60 * 0) (daysF S.R S.A.gl (d - 1) S.A.W) → (∀ e, e < d → ∀ p, p < 6 → N.2 20 (6 * e + p) = lN (cdN (daysF S.R S.A.gl e S.A.W p))) → ∃ M', X_Model_comes_L24 fuel a (fun y16 y17 M18 => (if a = 0 then some (y17, M18) else some ((y16 - y17), M18))) g (nI d) N = some (comF (fun e => daysF S.R S.A.gl e S.A.W) a k d, M') ∧ Fr mN M M' := by
  have ok : ∀ e, OkW (daysF S.R S.A.gl e S.A.W) := fun e => (daysF_ok hS.hR e hS.hA.1 hS.hA.2.1).1
  intro k
  induction k with
  | zero =>
    intro d g N g1 g0 g2 g3 hN hr h
    obtain ⟨g, rfl⟩ : ∃ e, g = e + 1 := ⟨g - 1, by omega⟩
    have e : d = 201 := by omega
    subst e
    refine ⟨N, ?_, hN⟩
    show (if (200 : Int32) < nI 201 then _ else _) = _
    rw [if_pos (by decide)]
    rfl
  | succ k ih =>
    intro d g N g1 g0 g2 g3 hN hr h
    obtain ⟨g, rfl⟩ : ∃ e, g = e + 1 := ⟨g - 1, by omega⟩
    have lt200 : ¬ (200 : Int32) < nI d := Int32.not_lt.mpr (nI_le (b := 200) (by omega) (by decide))
    have hG : GlM N 60 S.A.gl := by
      have := hM.a.2.1
      rw [Nat.zero_add] at this
      exact this.fr hN (fun k _ _ q => q.elim (mh_1 k) (fun r => by omega))
    obtain ⟨M1, k1, k2, k3⟩ := m_aDay fuel (by decide) hS.hR hS.hA.2.2.1 (mN_MC hM.c hN) hG (ok (d - 1)) hr
    have ed : feastF S.R S.A.gl S.R.2.2.2.2 (daysF S.R S.A.gl (d - 1) S.A.W) = daysF S.R S.A.gl d S.A.W := by
      have := daysF_succ S.R S.A.gl (d - 1) S.A.W
      rw [show d - 1 + 1 = d by omega] at this
      exact this.symm
    rw [ed] at k3
    obtain ⟨M2, u1, u2, u3⟩ := m_notes (n := fuel) (by decide) (ok d) k3 (d := d) (by omega)
    have fr : Fr mN M M2 := (hN.trans (k2.mono (fun _ _ q => Or.inl q))).trans (u2.mono (fun _ _ q => Or.inr q.1))
    have all : ∀ e, e ≤ d → ∀ p, p < 6 → M2.2 20 (6 * e + p) = lN (cdN (daysF S.R S.A.gl e S.A.W p)) := fun e he p hp => by
      by_cases e2 : e = d
      · rw [e2]; exact u3 p hp
      · rw [(u2 20 _ (by unfold rg; omega)).2, (k2 20 _ (by unfold mh mk rg; omega)).2]
        exact h e (by omega) p hp
    have lin := m_comes_in (q := fun e => daysF S.R S.A.gl e S.A.W) ok (d := d) (by omega) a (fun M13 => X_Model_comes_L24 fuel a (fun y16 y17 M18 => (if a = 0 then some (y17, M18) else some ((y16 - y17), M18))) g (nI d + 1) M13) (fun y14 M15 => (if a = 0 then some (y14, M15) else some ((nI d - y14), M15))) all
    have un : X_Model_comes_L24 fuel a (fun y16 y17 M18 => (if a = 0 then some (y17, M18) else some ((y16 - y17), M18))) (g + 1) (nI d) N = X_Model_comes_L43 fuel a (nI d) (fun M13 => X_Model_comes_L24 fuel a (fun y16 y17 M18 => (if a = 0 then some (y17, M18) else some ((y16 - y17), M18))) g (nI d + 1) M13) (fun y14 M15 => (if a = 0 then some (y14, M15) else some ((nI d - y14), M15))) fuel (nI 0) M2 := by
      show (if (200 : Int32) < nI d then _ else bd (X_Model_aDay fuel (nI 0) N) fun _ M8 => bd (X_Model_notes fuel (nI d) M8) fun _ M10 => X_Model_comes_L43 fuel a (nI d) _ _ fuel (nI 0) M10) = _
      rw [if_neg lt200, k1, bd_ret, u1, bd_ret]
    rw [un, lin]
    unfold comF
    cases hs : sFd (fun e => daysF S.R S.A.gl e S.A.W) d d 0 with
    | some e =>
      refine ⟨M2, ?_, fr⟩
      show (if a = 0 then some (nI e, M2) else some ((nI d - nI e), M2)) = some ((if a = 0 then nI e else nI d - nI e), M2)
      split <;> rfl
    | none =>
      have ly : LyM M2 15 (60 * 0) (daysF S.R S.A.gl (d + 1 - 1) S.A.W) := k3.fr (ok d) u2 (fun k _ _ => by unfold rg; omega)
      show ∃ M', X_Model_comes_L24 fuel a _ g (nI d + 1) M2 = some (comF (fun e => daysF S.R S.A.gl e S.A.W) a k (d + 1), M') ∧ _
      rw [nI_1]
      exact ih (d + 1) g M2 (by omega) (by omega) (by omega) (by omega) fr ly (fun e he => all e (by omega))
theorem sim_comes (a0 : Int32) : Sm (fun M => X_ShakeHands_comes fuel a0 M) (fun M => X_Model_comes fuel a0 M) := by
  refine Sm_q (q := fun S => if vN a0 2 then comF (fun e => daysF S.R S.A.gl e S.A.W) a0 201 0 else -1) (fun M S hS hM => ?_) (fun M S hS hM => ?_)
  · dsimp only
    unfold X_ShakeHands_comes
    rw [in01]
    by_cases h : vN a0 2 = true
    · obtain ⟨h1, h2⟩ := vN_y (by decide) h
      rw [if_pos h, if_pos h]
      have c1 : Off [39] M (cpL M 17 0 39 0 6) := Off.cpL (by decide)
      have c2 : rowsAt (cpL M 17 0 39 0 6) 39 S.A.W := fun p hp => by
        show (if 39 = 39 ∧ 0 ≤ p ∧ p < 0 + 6 then M.2 17 (0 + (p - 0)) else _) = _
        rw [if_pos ⟨rfl, by omega, by omega⟩, Nat.zero_add, Nat.sub_zero]
        exact hM.a.2.2.1 p hp
      obtain ⟨M', q1, q2⟩ := x_comes_L hS a0 201 0 fuel (cpL M 17 0 39 0 6) rfl (by decide) (by decide) (hM.off (xS_of c1 (by decide))) (fun e he => by omega) c2
      have un : X_Habit_comesBack fuel a0 M = some (comF (fun e => daysF S.R S.A.gl e S.A.W) a0 201 0, M') := by
        unfold X_Habit_comesBack gc
        rw [if_neg (by decide)]
        exact q1
      refine ⟨M', ?_, (xS_of c1 (by decide)).trans q2⟩
      unfold nm
      dsimp only
      by_cases e : a0 = 1
      · rw [if_pos e]
        rw [e] at un
        rw [un, bd_ret, e]
      · rw [if_neg e]
        have e0 : a0 = 0 := by
          generalize pN a0 = k at *
          match k, h1 with
          | 0, _ => exact h2
          | 1, _ => exact absurd h2 e
        rw [e0] at un
        rw [un, bd_ret, e0]
    · rw [if_neg h, if_neg h]
      exact ⟨M, rfl, Off.rf⟩
  · dsimp only
    unfold X_Model_comes
    have e3 := m_inV fuel (P := 2) (by decide) a0 M
    rw [show (nI 2 - 1 : Int32).toInt64 = 1 by decide] at e3
    rw [e3, bd_ret]
    by_cases h : vN a0 2 = true
    · rw [if_pos h, if_pos h, if_neg i10, show (0 : Int32) = nI 0 from rfl, m0_b, bd_ret]
      obtain ⟨M1, u1, u2, u3⟩ := m_notes (n := fuel) (by decide) hS.hA.1 (m0_ly hS hM) (d := 0) (by decide)
      have fr : Fr mN M M1 := ((m0_fr M).mono (fun _ _ q => Or.inl q)).trans (u2.mono (fun _ _ q => Or.inr q.1))
      have ly : LyM M1 15 (60 * 0) S.A.W := (m0_ly hS hM).fr hS.hA.1 u2 (fun k _ _ => by unfold rg; omega)
      obtain ⟨M', q1, q2⟩ := m_comes_L hS hM a0 200 1 fuel M1 rfl (by decide) (by decide) (by decide) fr ly (fun e he p hp => by
        have : e = 0 := by omega
        subst this
        exact u3 p hp)
      rw [u1, bd_ret]
      exact ⟨M', q1, mN_S q2⟩
    · rw [if_neg h, if_neg h, if_pos rfl]
      exact ⟨M, rfl, Fr.rf⟩
