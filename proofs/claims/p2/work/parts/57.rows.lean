/-! SEARCH: the reference's rows of hands -/
theorem v15 {x : Nat} (hx : x < 15) : vp_in (nI x) 15 := vp_in_nI hx (by decide)
theorem v4 {x : Nat} (hx : x < 4) : vp_in (nI x) 4 := vp_in_nI hx (by decide)
theorem z_b (b : Bool) : (nI (if b then 1 else 0) = 0) ↔ b = false := by cases b <;> decide
theorem m_isFreePair (n : Nat) {M : Mem} {R : Rl} (hR : OkR R) (hC : MC M R) {g x : Nat} (h38 : M.1 0 38 = nI g) (hg : g < 64) (hx : x < 15) : X_Model_isFreePair n (nI x) M = some (if free R.1 g x then 1 else 0, M) := by
  obtain ⟨c1, c2⟩ := hC.2.2.2.2.2.2.2.2 x hx
  obtain ⟨p1, p2, -, -, -⟩ := les_gre x hx
  have hP := hR.2.1
  unfold X_Model_isFreePair
  rw [gd_in (v15 hx), gd_in (v15 hx), gd_in (v15 hx), nI_clamp (by omega), c1, c2, h38, hC.1, b_is (by omega) (by omega), b_is (by omega) (by omega)]
  by_cases e : gre x < R.1
  · rw [if_neg (nI_ge e (by omega))]
    unfold free
    rw [decide_eq_true e]
    cases e1 : g.testBit (les x) <;> cases e2 : g.testBit (gre x) <;> rfl
  · rw [if_pos (nI_le (by omega) (by omega)), if_neg (by simp [free, e])]
theorem m_freeFrom_L (n : Nat) {M : Mem} {R : Rl} (hR : OkR R) (hC : MC M R) {g : Nat} (h38 : M.1 0 38 = nI g) (hg : g < 64) : ∀ (j f : Nat), j ≤ 15 → j < f → ∃ i, X_Model_freeFrom_L2 n f (nI (15 - j)) M = some (nI (15 - i), M) ∧ i ≤ j ∧ (i = 0 ∨ free R.1 g (15 - i) = true) ∧ ∀ h : Nat → List (List Nat), (∀ x, x < 15 → free R.1 g x = false → h x = []) → fl h j = fl h i := by
  intro j
  induction j with
  | zero =>
    intro f h1 h2
    obtain ⟨f, rfl⟩ : ∃ q, f = q + 1 := ⟨f - 1, by omega⟩
    exact ⟨0, by show (if (15 : Int32) ≤ nI 15 then _ else _) = _; rw [if_pos (by decide)], Nat.le_refl _, Or.inl rfl, fun h _ => rfl⟩
  | succ j ih =>
    intro f h1 h2
    obtain ⟨f, rfl⟩ : ∃ q, f = q + 1 := ⟨f - 1, by omega⟩
    by_cases e : free R.1 g (15 - (j + 1)) = true
    · refine ⟨j + 1, ?_, Nat.le_refl _, Or.inr e, fun h _ => rfl⟩
      show (if (15 : Int32) ≤ nI (15 - (j + 1)) then _ else bd (X_Model_isFreePair n (nI (15 - (j + 1))) M) fun r1 M2 => _) = _
      rw [if_neg (show ¬ (15 : Int32) ≤ nI (15 - (j + 1)) from nI_ge (b := 15) (by omega) (by decide)), m_isFreePair n hR hC h38 hg (by omega), bd_ret, if_pos e]
      exact if_neg (by decide)
    · obtain ⟨i, a1, a2, a3, a4⟩ := ih f (by omega) (by omega)
      refine ⟨i, ?_, by omega, a3, fun h hh => ?_⟩
      · show (if (15 : Int32) ≤ nI (15 - (j + 1)) then _ else bd (X_Model_isFreePair n (nI (15 - (j + 1))) M) fun r1 M2 => (if r1 = 0 then X_Model_freeFrom_L2 n f (nI (15 - (j + 1)) + 1) M2 else _)) = _
        rw [if_neg (show ¬ (15 : Int32) ≤ nI (15 - (j + 1)) from nI_ge (b := 15) (by omega) (by decide)), m_isFreePair n hR hC h38 hg (by omega), bd_ret, if_neg e, if_pos rfl, nI_1, show 15 - (j + 1) + 1 = 15 - j by omega]
        exact a1
      · show h (14 - j) ++ fl h j = _
        rw [hh (14 - j) (by omega) (by rw [show 14 - j = 15 - (j + 1) by omega]; exact Bool.eq_false_iff.mpr e), a4 h hh]
        rfl
theorem m_freeFrom (n : Nat) (hn : 20 ≤ n) {M : Mem} {R : Rl} (hR : OkR R) (hC : MC M R) {g : Nat} (h38 : M.1 0 38 = nI g) (hg : g < 64) {j : Nat} (hj : j ≤ 15) : ∃ i, X_Model_freeFrom n (nI (15 - j)) M = some (nI (15 - i), M) ∧ i ≤ j ∧ (i = 0 ∨ free R.1 g (15 - i) = true) ∧ ∀ h : Nat → List (List Nat), (∀ x, x < 15 → free R.1 g x = false → h x = []) → fl h j = fl h i := m_freeFrom_L n hR hC h38 hg j n hj (by omega)
def RA (M : Mem) (a : Ac) : Prop := M.1 0 43 = nI a.1 ∧ M.1 0 44 = nI a.2.1 ∧ M.1 0 45 = nI a.2.2.1 ∧ ∀ i x, a.2.2.2[i]? = some x → M.1 18 i = nI x
theorem RA.fr {P : Nat → Nat → Prop} {M M' : Mem} {a : Ac} (h : RA M a) (ho : Fr P M M') (h1 : ∀ k, 43 ≤ k → k ≤ 45 → ¬ P 0 k) (h2 : ∀ k, ¬ P 18 k) : RA M' a := ⟨by rw [(ho 0 43 (h1 _ (by omega) (by omega))).1]; exact h.1, by rw [(ho 0 44 (h1 _ (by omega) (by omega))).1]; exact h.2.1, by rw [(ho 0 45 (h1 _ (by omega) (by omega))).1]; exact h.2.2.1, fun i x hi => by rw [(ho 18 i (h2 i)).1]; exact h.2.2.2 i x hi⟩
def ar (c k : Nat) : Prop := c = 18 ∨ (c = 0 ∧ 43 ≤ k ∧ k ≤ 45)
def Dg (M : Mem) (w : List Nat) : Prop := ∀ i x, w[i]? = some x → M.1 17 i = nI x
theorem take_snoc {w : List Nat} {i x : Nat} (h : w[i]? = some x) : w.take (i + 1) = w.take i ++ [x] := by
  rw [List.take_add_one, h]; rfl
theorem m_aRow_L (n : Nat) {M0 : Mem} {w : List Nat} (hw : w.length ≤ 4) (h15 : ∀ x ∈ w, x < 15) (hD : Dg M0 w) {c : Nat} (hc : M0.1 0 43 = nI c) (hc2 : c < 2 ^ 31) (kx : Int32 → Mem → Option (Unit × Mem)) : ∀ (d i f : Nat) (M : Mem), i + d = w.length → d < f → Fr (fun c _ => c = 18) M0 M → (c = 0 → ∀ k x, k < i → w[k]? = some x → M.1 18 k = nI x) → (c ≠ 0 → ∀ k, M.1 18 k = M0.1 18 k) → ∃ M', X_Model_aRow_L4 n (nI w.length) kx f (nI (msk (w.take i))) (nI i) M = kx (nI (msk w)) M' ∧ Fr (fun c _ => c = 18) M0 M' ∧ (c = 0 → ∀ k x, w[k]? = some x → M'.1 18 k = nI x) ∧ (c ≠ 0 → ∀ k, M'.1 18 k = M0.1 18 k) := by
  intro d
  induction d with
  | zero =>
    intro i f M h1 h2 h3 h4 h5
    obtain ⟨f, rfl⟩ : ∃ q, f = q + 1 := ⟨f - 1, by omega⟩
    refine ⟨M, ?_, h3, fun e k x hk => h4 e k x ?_ hk, h5⟩
    · show (if nI w.length ≤ nI i then _ else _) = _
      rw [if_pos (nI_le (by omega) (by omega)), List.take_of_length_le (by omega)]
    · have := (List.getElem?_eq_some_iff.mp hk).1
      omega
  | succ d ih =>
    intro i f M h1 h2 h3 h4 h5
    obtain ⟨f, rfl⟩ : ∃ q, f = q + 1 := ⟨f - 1, by omega⟩
    have hi : i < w.length := by omega
    have hx : w[i]? = some w[i] := List.getElem?_eq_getElem hi
    have hx15 : w[i] < 15 := h15 _ (List.getElem_mem hi)
    have e17 : M.1 17 i = nI w[i] := by rw [(h3 17 i (fun q : 17 = 18 => absurd q (by decide))).1]; exact hD i _ hx
    have e43 : M.1 0 43 = nI c := by rw [(h3 0 43 (by decide)).1]; exact hc
    have em : nI (msk (w.take i)) ||| ((1 : Int32) <<< ((M.1 17 i) &&& 31)) = nI (msk (w.take (i + 1))) := by
      rw [e17, i_shl1 (by omega), i_or, take_snoc hx, msk_snoc]
    generalize hV : (if c = 0 then nI w[i] else M.1 18 i) = V
    obtain ⟨M', a1, a2, a3, a4⟩ := ih (i + 1) f (si M 18 i V) (by omega) (by omega) (h3.trans (Fr.si rfl)) (fun e k x hk hkx => by
        by_cases q : k = i
        · subst q
          rw [si_at, ← hV, if_pos e]
          rw [hx] at hkx
          rw [Option.some.inj hkx]
        · rw [si_ne (Or.inr q)]
          exact h4 e k x (by omega) hkx) (fun e k => by
        by_cases q : k = i
        · subst q
          rw [si_at, ← hV, if_neg e]
          exact h5 e k
        · rw [si_ne (Or.inr q)]
          exact h5 e k)
    refine ⟨M', ?_, a2, a3, a4⟩
    rw [← a1]
    show (if nI w.length ≤ nI i then _ else gd (nI i) 4 (nm (nI (msk (w.take i)) ||| ((1 : Int32) <<< ((M.1 17 (nI i).toNatClampNeg) &&& 31))) fun x1 =>
      nm (fun (u2 : Int32) => (gd (nI i) 4 (X_Model_aRow_L4 n (nI w.length) kx f x1 (nI i + 1) (si M 18 ((nI i).toNatClampNeg) u2)) : Option (Unit × Mem))) fun k47 =>
      (if (M.1 0 43) = 0 then gd (nI i) 4 (k47 (M.1 17 (nI i).toNatClampNeg)) else gd (nI i) 4 (k47 (M.1 18 (nI i).toNatClampNeg))))) = _
    simp only [nm]
    rw [if_neg (nI_ge hi (by omega)), gd_in (v4 (by omega)), gd_in (v4 (by omega)), gd_in (v4 (by omega)), gd_in (v4 (by omega)), gd_in (v4 (by omega)), nI_clamp (by omega), em, nI_1, e43, e17]
    by_cases e : c = 0
    · rw [if_pos (by rw [e]; rfl), ← hV, if_pos e]
    · rw [if_neg (fun q => e ((i_z hc2).mp q)), ← hV, if_neg e]
theorem m_aRow (n : Nat) (hn : 20 ≤ n) {M : Mem} {w : List Nat} {a : Ac} (hw : w.length ≤ 4) (h15 : ∀ x ∈ w, x < 15) (hD : Dg M w) (hA : RA M a) (hc : a.1 < 2 ^ 31) : ∃ M', X_Model_aRow n (nI w.length) M = some ((), M') ∧ RA M' (push false a w) ∧ Fr ar M M' := by
  obtain ⟨M2, a1, a2, a3, a4⟩ := m_aRow_L n hw h15 hD hA.1 hc (fun y3 M4 => nm (fun (u5 : Int32) => (nm (si M4 0 44 u5) fun N6 =>
        nm (si N6 0 45 ((N6.1 0 45) ||| y3)) fun N7 =>
        some ((), si N7 0 43 ((N7.1 0 43) + 1)) : Option (Unit × Mem))) fun k72 =>
    (if (M4.1 0 43) = 0 then
      k72 y3
      else
      k72 ((M4.1 0 44) &&& y3))) w.length 0 n M (by omega) (by omega) Fr.rf (fun _ k x hk _ => absurd hk (Nat.not_lt_zero k)) (fun _ k => rfl)
  have e43 : M2.1 0 43 = nI a.1 := by rw [(a2 0 43 (by decide)).1]; exact hA.1
  have e44 : M2.1 0 44 = nI a.2.1 := by rw [(a2 0 44 (by decide)).1]; exact hA.2.1
  have e45 : M2.1 0 45 = nI a.2.2.1 := by rw [(a2 0 45 (by decide)).1]; exact hA.2.2.1
  refine ⟨si (si (si M2 0 44 (nI (if a.1 = 0 then msk w else a.2.1 &&& msk w))) 0 45 (nI (a.2.2.1 ||| msk w))) 0 43 (nI (a.1 + 1)), ?_, ⟨si_at _ _ _ _, ?_, ?_, ?_⟩, ?_⟩
  · unfold X_Model_aRow
    refine Eq.trans a1 ?_
    simp only [nm]
    rw [e43, e44]
    by_cases e : a.1 = 0
    · rw [if_pos (by rw [e]; rfl), if_pos e]
      rw [si_ne (by decide), si_ne (by decide), si_ne (by decide), e43, e45, i_or, nI_1]
    · rw [if_neg (fun q => e ((i_z hc).mp q)), if_neg e]
      rw [si_ne (by decide), si_ne (by decide), si_ne (by decide), e43, e45, i_or, i_and, nI_1]
  · rw [si_ne (by decide), si_ne (by decide), si_at]; rfl
  · rw [si_ne (by decide), si_at]; rfl
  · intro i x hi
    rw [si_ne (Or.inl (by decide)), si_ne (Or.inl (by decide)), si_ne (Or.inl (by decide))]
    have hi : (if a.1 = 0 then w else a.2.2.2)[i]? = some x := hi
    by_cases e : a.1 = 0
    · rw [if_pos e] at hi
      exact a3 e i x hi
    · rw [if_neg e] at hi
      rw [a4 e i]
      exact hA.2.2.2 i x hi
  · exact (((a2.mono (fun c k h => Or.inl h)).trans (Fr.si (Or.inr (by decide)))).trans (Fr.si (Or.inr (by decide)))).trans (Fr.si (Or.inr (by decide)))
