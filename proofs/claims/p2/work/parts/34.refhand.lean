/-! THE REFERENCE: hands -/
theorem m_takes (n : Nat) (hn : 20 ≤ n) {c ln b : Nat} (hc : c ≠ 16 ∧ c ≠ 0) {m : List Nat} (hm : Ro m) (hml : m.length ≤ 9) (hb : b + 10 ≤ ln) (hln : ln < 2 ^ 30) {M : Mem} {l : List Nat} (hR : RwM M c b m) (hM : MkAt M l) (hr : Ro l) : ∃ M', X_Model_takes n c ln (nI b) M = some ((), M') ∧ MkAt M' (mergeT l m) ∧ Fr mk M M' := by
  have key : ∀ (d i f : Nat) (M : Mem) (l : List Nat), m.length - i = d → i ≤ m.length → d < f → RwM M c b m → MkAt M l → Ro l → ∃ M', X_Model_takes_L2 n c ln (nI b) f (nI i) M = some ((), M') ∧ MkAt M' (mergeT l (m.drop i)) ∧ Fr mk M M' := by
    intro d
    induction d with
    | zero =>
      intro i f M l h1 h2 h3 hR hM hr
      obtain ⟨f, rfl⟩ : ∃ g, f = g + 1 := ⟨f - 1, by omega⟩
      refine ⟨M, ?_, by rw [List.drop_eq_nil_of_le (by omega)]; exact hM, Fr.rf⟩
      show gd (nI b) ln (if M.1 c (nI b).toNatClampNeg ≤ nI i then some ((), M) else _) = _
      rw [gd_in (vp_in_nI (by omega) (by omega)), nI_clamp (by omega), hR.1, if_pos (nI_le (by omega) (by omega))]
    | succ d ih =>
      intro i f M l h1 h2 h3 hR hM hr
      obtain ⟨f, rfl⟩ : ∃ g, f = g + 1 := ⟨f - 1, by omega⟩
      have hi : i < m.length := by omega
      have ht := hm.2 _ (List.getElem_mem hi)
      have e := hR.2 i _ (List.getElem?_eq_getElem hi)
      obtain ⟨M1, g1, g2, g3⟩ := m_adds n (by omega) hM hr ht
      obtain ⟨M2, k1, k2, k3⟩ := ih (i + 1) f M1 _ (by omega) (by omega) (by omega) (hR.fr g3 (fun k _ _ => by unfold mk; omega)) g2 (hr.addT ht)
      refine ⟨M2, ?_, by rw [List.drop_eq_getElem_cons hi]; exact k2, g3.trans k3⟩
      show gd (nI b) ln (if M.1 c (nI b).toNatClampNeg ≤ nI i then some ((), M) else gd ((nI b + 1) + nI i) ln (bd (X_Model_adds n (M.1 c ((nI b + 1) + nI i).toNatClampNeg) M) fun _ M2 => X_Model_takes_L2 n c ln (nI b) f (nI i + 1) M2)) = _
      rw [gd_in (vp_in_nI (by omega) (by omega)), nI_clamp (by omega), hR.1, if_neg (nI_ge (by omega) (by omega)), nI_1, nI_add, gd_in (vp_in_nI (by omega) (by omega)), nI_clamp (by omega), e, g1, bd_ret, nI_1, k1]
  obtain ⟨M', g1, g2, g3⟩ := key _ 0 n M l rfl (Nat.zero_le _) (by omega) hR hM hr
  exact ⟨M', g1, g2, g3⟩
def rg (c b w : Nat) (a k : Nat) : Prop := a = c ∧ b ≤ k ∧ k < b + w
theorem m_puts (n : Nat) (hn : 20 ≤ n) {c ln b : Nat} (hc : c ≠ 16 ∧ c ≠ 0) (hb : b + 10 ≤ ln) (hln : ln < 2 ^ 30) {M : Mem} {l : List Nat} (hM : MkAt M l) (hl : l.length ≤ 9) : ∃ M', X_Model_puts n c ln (nI b) M = some ((), M') ∧ RwM M' c b l ∧ Fr (rg c b 10) M M' := by
  have key : ∀ (d i f : Nat) (N : Mem), l.length - i = d → i ≤ l.length → d < f → MkAt N l → N.1 c b = nI l.length → (∀ j t, j < i → l[j]? = some t → N.1 c (b + 1 + j) = nI t) → ∃ M', X_Model_puts_L9 n c ln (nI b) f (nI i) N = some ((), M') ∧ RwM M' c b l ∧ Fr (rg c b 10) N M' := by
    intro d
    induction d with
    | zero =>
      intro i f N h1 h2 h3 hN h4 h5
      obtain ⟨f, rfl⟩ : ∃ g, f = g + 1 := ⟨f - 1, by omega⟩
      refine ⟨N, ?_, ⟨h4, fun j t hj => h5 j t (by have := (List.getElem?_eq_some_iff.mp hj).1; omega) hj⟩, Fr.rf⟩
      show (if N.1 0 35 ≤ nI i then _ else _) = _
      rw [hN.1, if_pos (nI_le (by omega) (by omega))]
    | succ d ih =>
      intro i f N h1 h2 h3 hN h4 h5
      obtain ⟨f, rfl⟩ : ∃ g, f = g + 1 := ⟨f - 1, by omega⟩
      have hi : i < l.length := by omega
      have e := hN.2 i _ (List.getElem?_eq_getElem hi)
      have hf : Fr (rg c b 10) N (si N c (b + 1 + i) (nI l[i])) := Fr.si ⟨rfl, by omega, by omega⟩
      obtain ⟨M', g1, g2, g3⟩ := ih (i + 1) f (si N c (b + 1 + i) (nI l[i])) (by omega) (by omega) (by omega) (hN.fr hf (by unfold rg; omega) (by unfold rg; omega)) (by rw [si_ne (Or.inr (by omega))]; exact h4) (fun j t hj ht => by
        by_cases e2 : j = i
        · subst e2
          rw [si_at]
          rw [List.getElem?_eq_getElem hi] at ht
          rw [Option.some.inj ht]
        · rw [si_ne (Or.inr (by omega))]
          exact h5 j t (by omega) ht)
      refine ⟨M', ?_, g2, hf.trans g3⟩
      show (if N.1 0 35 ≤ nI i then _ else gd (nI i) 18 (gd ((nI b + 1) + nI i) ln (X_Model_puts_L9 n c ln (nI b) f (nI i + 1) (si N c ((nI b + 1) + nI i).toNatClampNeg (N.1 16 (nI i).toNatClampNeg))))) = _
      rw [hN.1, if_neg (nI_ge (by omega) (by omega)), gd_in (vp_in_nI (by omega) (by decide)), nI_1, nI_add, gd_in (vp_in_nI (by omega) (by omega)), nI_clamp (by omega), nI_clamp (by omega), e, nI_1]
      exact g1
  have hf : Fr (rg c b 10) M (si M c b (nI l.length)) := Fr.si ⟨rfl, by omega, by omega⟩
  obtain ⟨M', g1, g2, g3⟩ := key _ 0 n (si M c b (nI l.length)) rfl (Nat.zero_le _) (by omega) (hM.fr hf (by unfold rg; omega) (by unfold rg; omega)) (si_at _ _ _ _) (fun j t hj => by omega)
  refine ⟨M', ?_, g2, hf.trans g3⟩
  unfold X_Model_puts
  rw [gd_in (vp_in_nI (by omega) (by omega)), nI_clamp (by omega), hM.1]
  exact g1
-- a layer of rows
def LyM (M : Mem) (c b : Nat) (W : Nat → List Nat) : Prop := ∀ p, p < 6 → RwM M c (b + 10 * p) (W p)
theorem LyM.fr {P : Nat → Nat → Prop} {M M' : Mem} {c b : Nat} {W : Nat → List Nat} (h : LyM M c b W) (hW : OkW W) (ho : Fr P M M') (hp : ∀ k, b ≤ k → k < b + 60 → ¬ P c k) : LyM M' c b W := fun p hp6 => (h p hp6).fr ho (fun k h1 h2 => hp k (by omega) (by have := (hW p).2; omega))
theorem LyM.eq {M : Mem} {c b : Nat} {W V : Nat → List Nat} (h : LyM M c b W) (e : ∀ p, p < 6 → V p = W p) : LyM M c b V := fun p hp => by rw [e p hp]; exact h p hp
theorem cp_step {M : Mem} {a sp b dp i : Nat} (h : a ≠ b ∨ sp + i < dp ∨ dp + i ≤ sp + i) : si (cpI M a sp b dp i) b (dp + i) ((cpI M a sp b dp i).1 a (sp + i)) = cpI M a sp b dp (i + 1) := by
  have e : (cpI M a sp b dp i).1 a (sp + i) = M.1 a (sp + i) := if_neg (by omega)
  rw [e]
  apply Prod.ext
  · funext x y
    show (if x = b ∧ y = dp + i then M.1 a (sp + i) else if x = b ∧ dp ≤ y ∧ y < dp + i then M.1 a (sp + (y - dp)) else M.1 x y) = if x = b ∧ dp ≤ y ∧ y < dp + (i + 1) then M.1 a (sp + (y - dp)) else M.1 x y
    by_cases e1 : x = b ∧ y = dp + i
    · rw [if_pos e1, if_pos ⟨e1.1, by omega, by omega⟩, e1.2, Nat.add_sub_cancel_left]
    · rw [if_neg e1]
      by_cases e2 : x = b ∧ dp ≤ y ∧ y < dp + i
      · rw [if_pos e2, if_pos ⟨e2.1, by omega, by omega⟩]
      · rw [if_neg e2, if_neg (by omega)]
  · rfl
theorem cp_0 (M : Mem) (a sp b dp : Nat) : cpI M a sp b dp 0 = M := by
  apply Prod.ext
  · funext x y
    exact if_neg (by omega)
  · rfl
theorem cp_at {M : Mem} {a sp b dp n k : Nat} (h : k < n) : (cpI M a sp b dp n).1 b (dp + k) = M.1 a (sp + k) := by
  show (if b = b ∧ dp ≤ dp + k ∧ dp + k < dp + n then M.1 a (sp + (dp + k - dp)) else _) = _
  rw [if_pos ⟨rfl, by omega, by omega⟩, Nat.add_sub_cancel_left]
theorem m_begins (n : Nat) (hn : 61 ≤ n) {L : Nat} (hL : L < 10) (M : Mem) : X_Model_begins n (nI L) M = some ((), cpI M 1 0 15 (60 * L) 60) := by
  have key : ∀ (d i f : Nat), 60 - i = d → i ≤ 60 → d < f → X_Model_begins_L2 n (nI L) f (nI i) (cpI M 1 0 15 (60 * L) i) = some ((), cpI M 1 0 15 (60 * L) 60) := by
    intro d
    induction d with
    | zero =>
      intro i f h1 h2 h3
      obtain ⟨f, rfl⟩ : ∃ g, f = g + 1 := ⟨f - 1, by omega⟩
      have e : i = 60 := by omega
      subst e
      show (if (60 : Int32) ≤ nI 60 then _ else _) = _
      rw [if_pos (by decide)]
    | succ d ih =>
      intro i f h1 h2 h3
      obtain ⟨f, rfl⟩ : ∃ g, f = g + 1 := ⟨f - 1, by omega⟩
      generalize hN : cpI M 1 0 15 (60 * L) i = N
      show (if (60 : Int32) ≤ nI i then _ else gd (nI i) 234 (gd (((60 : Int32) * nI L) + nI i) 600 (X_Model_begins_L2 n (nI L) f (nI i + 1) (si N 15 ((((60 : Int32) * nI L) + nI i).toNatClampNeg) (N.1 1 (nI i).toNatClampNeg))))) = _
      rw [if_neg (show ¬ (60 : Int32) ≤ nI i from nI_ge (b := 60) (by omega) (by decide)), gd_in (vp_in_nI (by omega) (by decide)), show (60 : Int32) = nI 60 from rfl, pk_mul, nI_add, gd_in (vp_in_nI (by omega) (by decide)), nI_clamp (by omega), nI_clamp (by omega), nI_1, ← hN]
      have := cp_step (M := M) (a := 1) (sp := 0) (b := 15) (dp := 60 * L) (i := i) (Or.inl (by decide))
      rw [Nat.zero_add] at this
      rw [this]
      exact ih (i + 1) f (by omega) (by omega) (by omega)
  have := key 60 0 n rfl (by decide) (by omega)
  rw [cp_0] at this
  exact this
theorem m_becomes (n : Nat) (hn : 61 ≤ n) {L : Nat} (hL : L < 10) (M : Mem) : X_Model_becomes n (nI L) M = some ((), cpI M 15 (60 * L) 1 0 60) := by
  have key : ∀ (d i f : Nat), 60 - i = d → i ≤ 60 → d < f → X_Model_becomes_L2 n (nI L) f (nI i) (cpI M 15 (60 * L) 1 0 i) = some ((), cpI M 15 (60 * L) 1 0 60) := by
    intro d
    induction d with
    | zero =>
      intro i f h1 h2 h3
      obtain ⟨f, rfl⟩ : ∃ g, f = g + 1 := ⟨f - 1, by omega⟩
      have e : i = 60 := by omega
      subst e
      show (if (60 : Int32) ≤ nI 60 then _ else _) = _
      rw [if_pos (by decide)]
    | succ d ih =>
      intro i f h1 h2 h3
      obtain ⟨f, rfl⟩ : ∃ g, f = g + 1 := ⟨f - 1, by omega⟩
      generalize hN : cpI M 15 (60 * L) 1 0 i = N
      show (if (60 : Int32) ≤ nI i then _ else gd (((60 : Int32) * nI L) + nI i) 600 (gd (nI i) 234 (X_Model_becomes_L2 n (nI L) f (nI i + 1) (si N 1 ((nI i).toNatClampNeg) (N.1 15 (((60 : Int32) * nI L) + nI i).toNatClampNeg))))) = _
      rw [if_neg (show ¬ (60 : Int32) ≤ nI i from nI_ge (b := 60) (by omega) (by decide)), show (60 : Int32) = nI 60 from rfl, pk_mul, nI_add, gd_in (vp_in_nI (by omega) (by decide)), gd_in (vp_in_nI (by omega) (by decide)), nI_clamp (by omega), nI_clamp (by omega), nI_1, ← hN]
      have := cp_step (M := M) (a := 15) (sp := 60 * L) (b := 1) (dp := 0) (i := i) (Or.inl (by decide))
      rw [Nat.zero_add] at this
      rw [this]
      exact ih (i + 1) f (by omega) (by omega) (by omega)
  have := key 60 0 n rfl (by decide) (by omega)
  rw [cp_0] at this
  exact this
theorem m_copies (n : Nat) (hn : 61 ≤ n) {L K : Nat} (hL : L < 10) (hK : K < L) (M : Mem) : X_Model_copies n (nI L) (nI K) M = some ((), cpI M 15 (60 * K) 15 (60 * L) 60) := by
  have key : ∀ (d i f : Nat), 60 - i = d → i ≤ 60 → d < f → X_Model_copies_L2 n (nI L) (nI K) f (nI i) (cpI M 15 (60 * K) 15 (60 * L) i) = some ((), cpI M 15 (60 * K) 15 (60 * L) 60) := by
    intro d
    induction d with
    | zero =>
      intro i f h1 h2 h3
      obtain ⟨f, rfl⟩ : ∃ g, f = g + 1 := ⟨f - 1, by omega⟩
      have e : i = 60 := by omega
      subst e
      show (if (60 : Int32) ≤ nI 60 then _ else _) = _
      rw [if_pos (by decide)]
    | succ d ih =>
      intro i f h1 h2 h3
      obtain ⟨f, rfl⟩ : ∃ g, f = g + 1 := ⟨f - 1, by omega⟩
      generalize hN : cpI M 15 (60 * K) 15 (60 * L) i = N
      show (if (60 : Int32) ≤ nI i then _ else gd (((60 : Int32) * nI K) + nI i) 600 (gd (((60 : Int32) * nI L) + nI i) 600 (X_Model_copies_L2 n (nI L) (nI K) f (nI i + 1) (si N 15 ((((60 : Int32) * nI L) + nI i).toNatClampNeg) (N.1 15 (((60 : Int32) * nI K) + nI i).toNatClampNeg))))) = _
      rw [if_neg (show ¬ (60 : Int32) ≤ nI i from nI_ge (b := 60) (by omega) (by decide)), show (60 : Int32) = nI 60 from rfl, pk_mul, pk_mul, nI_add, nI_add, gd_in (vp_in_nI (by omega) (by decide)), gd_in (vp_in_nI (by omega) (by decide)), nI_clamp (by omega), nI_clamp (by omega), nI_1, ← hN]
      rw [cp_step (Or.inr (Or.inl (by omega)))]
      exact ih (i + 1) f (by omega) (by omega) (by omega)
  have := key 60 0 n rfl (by decide) (by omega)
  rw [cp_0] at this
  exact this
theorem LyM.cp {M : Mem} {a sp b dp : Nat} {W : Nat → List Nat} (h : LyM M a sp W) (hW : OkW W) : LyM (cpI M a sp b dp 60) b dp W := fun p hp => by
  have hl := (hW p).2
  refine ⟨by rw [cp_at (by omega)]; exact (h p hp).1, fun i t hi => ?_⟩
  have h2 := (List.getElem?_eq_some_iff.mp hi).1
  rw [show dp + 10 * p + 1 + i = dp + (10 * p + 1 + i) by omega, cp_at (by omega), ← (h p hp).2 i t hi, show sp + 10 * p + 1 + i = sp + (10 * p + 1 + i) by omega]
theorem m_knowsIn (n : Nat) (hn : 20 ≤ n) {M : Mem} {L p : Nat} (hL : L < 10) (hp : p < 6) {l : List Nat} (hM : RwM M 15 (60 * L + 10 * p) l) (hr : Ro l) (hl : l.length ≤ 9) : X_Model_knowsIn n (nI L) (nI p) M = some (nI (knN l), M) := by
  have key : ∀ (d i f : Nat), l.length - i = d → i ≤ l.length → d < f → X_Model_knowsIn_L16 n (nI (60 * L + 10 * p)) M f (nI (knN (l.take i))) (nI i) = some (nI (knN l), M) := by
    intro d
    induction d with
    | zero =>
      intro i f h1 h2 h3
      obtain ⟨f, rfl⟩ : ∃ g, f = g + 1 := ⟨f - 1, by omega⟩
      show gd (nI (60 * L + 10 * p)) 600 (if M.1 15 (nI (60 * L + 10 * p)).toNatClampNeg ≤ nI i then _ else _) = _
      rw [gd_in (vp_in_nI (by omega) (by decide)), nI_clamp (by omega), hM.1, if_pos (nI_le (by omega) (by omega)), List.take_of_length_le (by omega)]
    | succ d ih =>
      intro i f h1 h2 h3
      obtain ⟨f, rfl⟩ : ∃ g, f = g + 1 := ⟨f - 1, by omega⟩
      have hi : i < l.length := by omega
      have ht := hr.2 _ (List.getElem_mem hi)
      have e := hM.2 i _ (List.getElem?_eq_getElem hi)
      show gd (nI (60 * L + 10 * p)) 600 (if M.1 15 (nI (60 * L + 10 * p)).toNatClampNeg ≤ nI i then _ else gd ((nI (60 * L + 10 * p) + 1) + nI i) 600 (X_Model_knowsIn_L16 n (nI (60 * L + 10 * p)) M f (nI (knN (l.take i)) ||| ((1 : Int32) <<< ((M.1 15 ((nI (60 * L + 10 * p) + 1) + nI i).toNatClampNeg) &&& 31))) (nI i + 1))) = _
      rw [gd_in (vp_in_nI (by omega) (by decide)), nI_clamp (by omega), hM.1, if_neg (nI_ge (by omega) (by omega)), nI_1, nI_add, gd_in (vp_in_nI (by omega) (by decide)), nI_clamp (by omega), e, i_shl1 (by omega), i_or, nI_1, ← knN_app, List.take_append_getElem hi]
      exact ih (i + 1) f (by omega) (by omega) (by omega)
  unfold X_Model_knowsIn nm
  rw [show (60 : Int32) = nI 60 from rfl, show (10 : Int32) = nI 10 from rfl, pk_mul, pk_mul, nI_add]
  exact key _ 0 n rfl (Nat.zero_le _) (by omega)
theorem b_is {k t : Nat} (hk : k < 2 ^ 31) (ht : t < 32) : ((nI k >>> (nI t &&& 31) &&& 1) : Int32) = nI (if k.testBit t then 1 else 0) := by
  rw [bit_is hk ht]
  cases k.testBit t <;> rfl
theorem m_whoIn (n : Nat) (hn : 20 ≤ n) {M : Mem} {P L t : Nat} (hP : M.1 0 2 = nI P) (hP6 : P ≤ 6) (hL : L < 10) (ht : t < 16) {W : Nat → List Nat} (hW : OkW W) (hM : LyM M 15 (60 * L) W) : X_Model_whoIn n (nI L) (nI t) M = some (nI (whoN W t P), M) := by
  have key : ∀ (d i f : Nat), P - i = d → i ≤ P → d < f → X_Model_whoIn_L5 n (nI L) (nI t) f (nI (whoN W t i)) (nI i) M = some (nI (whoN W t P), M) := by
    intro d
    induction d with
    | zero =>
      intro i f h1 h2 h3
      obtain ⟨f, rfl⟩ : ∃ g, f = g + 1 := ⟨f - 1, by omega⟩
      have e : i = P := by omega
      subst e
      show (if M.1 0 2 ≤ nI i then _ else _) = _
      rw [hP, if_pos (nI_le (by omega) (by omega))]
    | succ d ih =>
      intro i f h1 h2 h3
      obtain ⟨f, rfl⟩ : ∃ g, f = g + 1 := ⟨f - 1, by omega⟩
      have hi : i < 6 := by omega
      have hk := knN_lt (hW i).1.2
      show (if M.1 0 2 ≤ nI i then _ else bd (X_Model_knowsIn n (nI L) (nI i) M) fun r1 M2 => X_Model_whoIn_L5 n (nI L) (nI t) f (nI (whoN W t i) ||| (((r1 >>> (nI t &&& 31)) &&& 1) <<< (nI i &&& 31))) (nI i + 1) M2) = _
      rw [hP, if_neg (nI_ge (by omega) (by omega)), m_knowsIn n hn hL hi (hM i hi) (hW i).1 (hW i).2, bd_ret, b_is (by omega) (by omega), knN_bit]
      have e : nI (if decide (t ∈ W i) then 1 else 0) <<< (nI i &&& 31) = nI (if t ∈ W i then 2 ^ i else 0) := by
        by_cases h : t ∈ W i
        · rw [if_pos (by simp [h]), if_pos h]
          exact i_shl1 (by omega)
        · rw [if_neg (by simp [h]), if_neg h, i_shl (by omega) (by omega), Nat.zero_mul]
      rw [e, i_or, nI_1]
      exact ih (i + 1) f (by omega) (by omega) (by omega)
  exact key _ 0 n rfl (Nat.zero_le _) (by omega)
theorem m_anyIn (n : Nat) (hn : 20 ≤ n) {M : Mem} {P L : Nat} (hP : M.1 0 2 = nI P) (hP6 : P ≤ 6) (hL : L < 10) {W : Nat → List Nat} (hW : OkW W) (hM : LyM M 15 (60 * L) W) : X_Model_anyIn n (nI L) M = some (nI (anyN W P), M) := by
  have key : ∀ (d i f : Nat), P - i = d → i ≤ P → d < f → X_Model_anyIn_L4 n (nI L) f (nI (anyN W i)) (nI i) M = some (nI (anyN W P), M) := by
    intro d
    induction d with
    | zero =>
      intro i f h1 h2 h3
      obtain ⟨f, rfl⟩ : ∃ g, f = g + 1 := ⟨f - 1, by omega⟩
      have e : i = P := by omega
      subst e
      show (if M.1 0 2 ≤ nI i then _ else _) = _
      rw [hP, if_pos (nI_le (by omega) (by omega))]
    | succ d ih =>
      intro i f h1 h2 h3
      obtain ⟨f, rfl⟩ : ∃ g, f = g + 1 := ⟨f - 1, by omega⟩
      have hi : i < 6 := by omega
      show (if M.1 0 2 ≤ nI i then _ else bd (X_Model_knowsIn n (nI L) (nI i) M) fun r1 M2 => X_Model_anyIn_L4 n (nI L) f (nI (anyN W i) ||| r1) (nI i + 1) M2) = _
      rw [hP, if_neg (nI_ge (by omega) (by omega)), m_knowsIn n hn hL hi (hM i hi) (hW i).1 (hW i).2, bd_ret, i_or, nI_1]
      exact ih (i + 1) f (by omega) (by omega) (by omega)
  exact key _ 0 n rfl (Nat.zero_le _) (by omega)
def mh (L : Nat) (a k : Nat) : Prop := mk a k ∨ rg 15 (60 * L) 60 a k
def GlM (M : Mem) (b g : Nat) : Prop := ∀ p, p < 6 → M.1 1 (b + p) = nI (if g.testBit p then 1 else 0)
theorem mod_bit (g i : Nat) : g % 2 ^ (i + 1) = g % 2 ^ i ||| (if g.testBit i then 2 ^ i else 0) := by
  apply Nat.eq_of_testBit_eq
  intro j
  rw [Nat.testBit_or, Nat.testBit_mod_two_pow, Nat.testBit_mod_two_pow]
  by_cases e : j = i
  · subst e
    by_cases h : g.testBit j
    · simp [h]
    · simp [h]
  · have e2 : ¬ i = j := fun q => e q.symm
    have e3 : (if g.testBit i then 2 ^ i else 0).testBit j = false := by
      by_cases h : g.testBit i
      · rw [if_pos h, Nat.testBit_two_pow]; simp [e2]
      · rw [if_neg h, Nat.zero_testBit]
    rw [e3, Bool.or_false]
    congr 1
    exact decide_eq_decide.mpr (by omega)
theorem m_worn (n : Nat) (hn : 20 ≤ n) {M : Mem} {P g : Nat} (hP : M.1 0 2 = nI P) (hP6 : P ≤ 6) (hg : g < 2 ^ P) (hM : GlM M 60 g) : X_Model_worn n M = some (nI g, M) := by
  have key : ∀ (d i f : Nat), P - i = d → i ≤ P → d < f → X_Model_worn_L4 n M f (nI (g % 2 ^ i)) (nI i) = some (nI g, M) := by
    intro d
    induction d with
    | zero =>
      intro i f h1 h2 h3
      obtain ⟨f, rfl⟩ : ∃ g, f = g + 1 := ⟨f - 1, by omega⟩
      have e : i = P := by omega
      subst e
      show (if M.1 0 2 ≤ nI i then _ else _) = _
      rw [hP, if_pos (nI_le (by omega) (by omega)), Nat.mod_eq_of_lt hg]
    | succ d ih =>
      intro i f h1 h2 h3
      obtain ⟨f, rfl⟩ : ∃ g, f = g + 1 := ⟨f - 1, by omega⟩
      have hi : i < 6 := by omega
      show (if M.1 0 2 ≤ nI i then _ else gd ((60 : Int32) + nI i) 234 (X_Model_worn_L4 n M f (nI (g % 2 ^ i) ||| ((M.1 1 ((60 : Int32) + nI i).toNatClampNeg) <<< (nI i &&& 31))) (nI i + 1))) = _
      rw [hP, if_neg (nI_ge (by omega) (by omega)), show (60 : Int32) = nI 60 from rfl, nI_add, gd_in (vp_in_nI (by omega) (by decide)), nI_clamp (by omega), hM i hi]
      have e : nI (if g.testBit i then 1 else 0) <<< (nI i &&& 31) = nI (if g.testBit i then 2 ^ i else 0) := by
        by_cases h : g.testBit i
        · rw [if_pos h, if_pos h]
          exact i_shl1 (by omega)
        · rw [if_neg h, if_neg h, i_shl (by omega) (by omega), Nat.zero_mul]
      rw [e, i_or, ← mod_bit, nI_1]
      exact ih (i + 1) f (by omega) (by omega) (by omega)
  have := key _ 0 n rfl (Nat.zero_le _) (by omega)
  rw [Nat.pow_zero, Nat.mod_one] at this
  exact this
theorem m_bitsOf (n : Nat) (hn : 20 ≤ n) {k : Nat} (hk : k < 65536) (M : Mem) : X_Model_bitsOf n (nI k) M = some (nI (popN 16 k), M) := by
  have key : ∀ (d i f : Nat), 16 - i = d → i ≤ 16 → d < f → X_Model_bitsOf_L4 n (nI k) M f (nI (popN i k)) (nI i) = some (nI (popN 16 k), M) := by
    intro d
    induction d with
    | zero =>
      intro i f h1 h2 h3
      obtain ⟨f, rfl⟩ : ∃ g, f = g + 1 := ⟨f - 1, by omega⟩
      have e : i = 16 := by omega
      subst e
      show (if (16 : Int32) ≤ nI 16 then _ else _) = _
      rw [if_pos (by decide)]
    | succ d ih =>
      intro i f h1 h2 h3
      obtain ⟨f, rfl⟩ : ∃ g, f = g + 1 := ⟨f - 1, by omega⟩
      show (if (16 : Int32) ≤ nI i then _ else X_Model_bitsOf_L4 n (nI k) M f (nI (popN i k) + ((nI k >>> (nI i &&& 31)) &&& 1)) (nI i + 1)) = _
      rw [if_neg (show ¬ (16 : Int32) ≤ nI i from nI_ge (b := 16) (by omega) (by decide)), b_is (by omega) (by omega), nI_add, nI_1, Nat.add_comm (popN i k)]
      exact ih (i + 1) f (by omega) (by omega) (by omega)
  exact key 16 0 n rfl (by decide) (by omega)
theorem m_shakes (n : Nat) (hn : 20 ≤ n) {M : Mem} {R : Rl} (hR : OkR R) (hC : MC M R) {L : Nat} (hL : L < 10) {W : Nat → List Nat} (hW : OkW W) (hM : LyM M 15 (60 * L) W) {g x : Nat} (hg : g < 2 ^ 31) (hx : x < 15) :
    ∃ M', X_Model_shakes n (nI L) (nI x) (nI g) M = some ((), M') ∧ Fr (mh L) M M' ∧ LyM M' 15 (60 * L) (handF R g x W) := by
  obtain ⟨p1, p2, -, -, -⟩ := les_gre x hx
  obtain ⟨c1, c2⟩ := hC.2.2.2.2.2.2.2.2 x hx
  have v15 : vp_in (nI x) 15 := vp_in_nI hx (by decide)
  have ex : (nI x).toNatClampNeg = x := nI_clamp (by omega)
  have hun : handF R g x W = if g.testBit (les x) || g.testBit (gre x) then W else fun p => if p = les x ∨ p = gre x then settle R (mergeT (W (les x)) (W (gre x))) else W p := rfl
  simp only [X_Model_shakes, nm, gd_in v15, ex, c1, c2]
  generalize les x = a at *
  generalize gre x = b at *
  rw [b_is hg (by omega), b_is hg (by omega)]
  by_cases ha : g.testBit a
  · rw [if_pos (by rw [if_pos ha]; rfl)]
    refine ⟨M, rfl, Fr.rf, ?_⟩
    rw [hun, if_pos (by simp [ha])]
    exact hM
  · rw [if_neg (by rw [if_neg ha]; decide)]
    by_cases hb : g.testBit b
    · rw [if_pos (by rw [if_pos hb]; rfl)]
      refine ⟨M, rfl, Fr.rf, ?_⟩
      rw [hun, if_pos (by simp [hb])]
      exact hM
    · rw [if_neg (by rw [if_neg hb]; decide), hun, if_neg (by simp [ha, hb])]
      rw [show (60 : Int32) = nI 60 from rfl, show (10 : Int32) = nI 10 from rfl, pk_mul, pk_mul, pk_mul, nI_add, nI_add]
      have hA := hW a
      have hB := hW b
      have f0 : Fr mk M (si M 0 35 0) := Fr.si (Or.inr ⟨rfl, rfl⟩)
      have k0 : MkAt (si M 0 35 0) [] := ⟨si_at _ _ _ _, fun i t h => by simp at h⟩
      have hmk15 : ∀ k, ¬ mk 15 k := fun k => by unfold mk; omega
      obtain ⟨M1, g1, g2, g3⟩ := m_takes n hn (c := 15) (ln := 600) (b := 60 * L + 10 * a) (by decide) hA.1 hA.2 (by omega) (by decide) ((hM a (by omega)).fr f0 (fun k _ _ => hmk15 k)) k0 ⟨List.nodup_nil, by simp⟩
      have m0 : mergeT [] (W a) = W a := by
        have : ∀ (m l : List Nat), (l ++ m).Nodup → mergeT l m = l ++ m := by
          intro m
          induction m with
          | nil => intro l _; simp [mergeT]
          | cons t m ih =>
            intro l h
            have h1 : t ∉ l := by
              have := (List.nodup_append.mp h).2.2
              intro q
              exact this t q t List.mem_cons_self rfl
            show mergeT (addT l t) m = _
            unfold addT
            rw [if_neg h1, ih (l ++ [t]) (by simpa using h)]
            simp
        have h := this (W a) [] (by simpa using hA.1.1)
        simpa using h
      rw [m0] at g2
      obtain ⟨M2, k1, k2, k3⟩ := m_takes n hn (c := 15) (ln := 600) (b := 60 * L + 10 * b) (by decide) hB.1 hB.2 (by omega) (by decide) ((hM b (by omega)).fr (f0.trans g3) (fun k _ _ => hmk15 k)) g2 hA.1
      obtain ⟨M3, q1, q2, q3⟩ := m_settles n hn hR ((hC.mk f0).mk (g3.trans k3)) k2 (hA.1.merge hB.1.2)
      have hl9 := settle_le9 hR (mergeT (W a) (W b))
      obtain ⟨M4, t1, t2, t3⟩ := m_puts n hn (c := 15) (ln := 600) (b := 60 * L + 10 * a) (by decide) (by omega) (by decide) q2 hl9
      have q2' : MkAt M4 (settle R (mergeT (W a) (W b))) := q2.fr t3 (by unfold rg; omega) (by unfold rg; omega)
      obtain ⟨M5, u1, u2, u3⟩ := m_puts n hn (c := 15) (ln := 600) (b := 60 * L + 10 * b) (by decide) (by omega) (by decide) q2' hl9
      have fr1 : Fr mk M M3 := ((f0.trans g3).trans k3).trans q3
      refine ⟨M5, ?_, ?_, ?_⟩
      · rw [g1, bd_ret, k1, bd_ret, q1, bd_ret, t1, bd_ret, u1]
        rfl
      · refine ((fr1.mono (fun _ _ h => Or.inl h)).trans (t3.mono (fun x y h => Or.inr ?_))).trans (u3.mono (fun x y h => Or.inr ?_))
        · unfold rg at *; omega
        · unfold rg at *; omega
      · intro p hp
        dsimp only
        by_cases e : p = b
        · rw [if_pos (Or.inr e), e]
          exact u2
        · by_cases e2 : p = a
          · rw [if_pos (Or.inl e2), e2]
            exact t2.fr u3 (fun k _ _ => by unfold rg; omega)
          · rw [if_neg (by omega)]
            have := (hW p).2
            exact (((hM p hp).fr fr1 (fun k _ _ => hmk15 k)).fr t3 (fun k _ _ => by unfold rg; omega)).fr u3 (fun k _ _ => by unfold rg; omega)
theorem mh_MC {L : Nat} (k : Nat) (h : k ∈ [2, 3, 4, 5, 6]) : ¬ mh L 0 k := by
  simp only [List.mem_cons, List.not_mem_nil, or_false] at h
  unfold mh mk rg
  omega
theorem mh_MC2 {L : Nat} (a k : Nat) (h : a ∈ [3, 4, 5, 6, 7]) : ¬ mh L a k := by
  simp only [List.mem_cons, List.not_mem_nil, or_false] at h
  unfold mh mk rg
  omega
theorem MC.mh {M M' : Mem} {R : Rl} {L : Nat} (h : MC M R) (ho : Fr (mh L) M M') : MC M' R := h.fr ho mh_MC mh_MC2
theorem GlM.fr {P : Nat → Nat → Prop} {M M' : Mem} {b g : Nat} (h : GlM M b g) (ho : Fr P M M') (hp : ∀ k, b ≤ k → k < b + 6 → ¬ P 1 k) : GlM M' b g := fun p hp6 => by rw [(ho 1 (b + p) (hp _ (by omega) (by omega))).1]; exact h p hp6
theorem mh_1 {L : Nat} (k : Nat) : ¬ mh L 1 k := by unfold mh mk rg; omega
theorem m_feasts_L (n : Nat) (hn : 20 ≤ n) {R : Rl} (hR : OkR R) {g : Nat} (hg : g < 2 ^ 31) {k : Nat} (hk : k ≤ R.2.2.2.1.length) : ∀ (d i f : Nat) (M : Mem) (W : Nat → List Nat), k - i = d → i ≤ k → d < f → MC M R → OkW W → LyM M 15 0 W → ∃ M', X_Model_feasts_L7 n (nI k) (nI g) f (nI i) M = some ((), M') ∧ Fr (mh 0) M M' ∧ LyM M' 15 0 (feastF R g ((R.2.2.2.1.take k).drop i) W) := by
  have hl16 := hR.2.2.2.2.2.2.1
  intro d
  induction d with
  | zero =>
    intro i f M W h1 h2 h3 hC hW hM
    obtain ⟨f, rfl⟩ : ∃ g, f = g + 1 := ⟨f - 1, by omega⟩
    refine ⟨M, ?_, Fr.rf, ?_⟩
    · show (if nI k ≤ nI i then some ((), M) else _) = _
      rw [if_pos (nI_le (by omega) (by omega))]
    · rw [List.drop_eq_nil_of_le (by rw [List.length_take]; omega)]
      exact hM
  | succ d ih =>
    intro i f M W h1 h2 h3 hC hW hM
    obtain ⟨f, rfl⟩ : ∃ g, f = g + 1 := ⟨f - 1, by omega⟩
    have hi : i < R.2.2.2.1.length := by omega
    have e2 := hC.2.2.2.2.2.2.1 i _ (List.getElem?_eq_getElem hi)
    have hx := hR.2.2.2.2.2.2.2.1 _ (List.getElem_mem hi)
    obtain ⟨M1, g1, g2, g3⟩ := m_shakes n hn hR hC (L := 0) (by decide) hW hM hg hx.1
    obtain ⟨M2, q1, q2, q3⟩ := ih (i + 1) f M1 _ (by omega) (by omega) (by omega) (hC.mh g2) (hW.hand hR g _) g3
    refine ⟨M2, ?_, g2.trans q2, ?_⟩
    · show (if nI k ≤ nI i then some ((), M) else gd (nI i) 16 (bd (X_Model_shakes n (nI 0) (M.1 4 (nI i).toNatClampNeg) (nI g) M) fun _ M4 => X_Model_feasts_L7 n (nI k) (nI g) f (nI i + 1) M4)) = _
      rw [if_neg (nI_ge (by omega) (by omega)), gd_in (vp_in_nI (by omega) (by decide)), nI_clamp (by omega), e2, g1, bd_ret, nI_1]
      exact q1
    · have hd : (R.2.2.2.1.take k).drop i = R.2.2.2.1[i] :: (R.2.2.2.1.take k).drop (i + 1) := by
        rw [List.drop_eq_getElem_cons (by rw [List.length_take]; omega)]
        simp
      rw [hd]
      exact q3
theorem m_aDay (n : Nat) (hn : 20 ≤ n) {R : Rl} (hR : OkR R) {g : Nat} (hg : g < 2 ^ R.1) {M : Mem} {W : Nat → List Nat} (hC : MC M R) (hG : GlM M 60 g) (hW : OkW W) (hM : LyM M 15 0 W) : ∃ M', X_Model_aDay n (nI 0) M = some ((), M') ∧ Fr (mh 0) M M' ∧ LyM M' 15 0 (feastF R g R.2.2.2.2 W) := by
  have hl8 := hR.2.2.2.2.2.2.2.2.1
  have hg31 : g < 2 ^ 31 := Nat.lt_of_lt_of_le hg (Nat.pow_le_pow_right (by decide) (by have := hR.2.1; omega))
  have key : ∀ (d i f : Nat) (M : Mem) (W : Nat → List Nat), R.2.2.2.2.length - i = d → i ≤ R.2.2.2.2.length → d < f → MC M R → GlM M 60 g → OkW W → LyM M 15 0 W → ∃ M', X_Model_aDay_L2 n (nI 0) f (nI i) M = some ((), M') ∧ Fr (mh 0) M M' ∧ LyM M' 15 0 (feastF R g (R.2.2.2.2.drop i) W) := by
    intro d
    induction d with
    | zero =>
      intro i f M W h1 h2 h3 hC hG hW hM
      obtain ⟨f, rfl⟩ : ∃ g, f = g + 1 := ⟨f - 1, by omega⟩
      refine ⟨M, ?_, Fr.rf, ?_⟩
      · show (if M.1 0 6 ≤ nI i then some ((), M) else _) = _
        rw [hC.2.2.2.2.1, if_pos (nI_le (by omega) (by omega))]
      · rw [List.drop_eq_nil_of_le (by omega)]
        exact hM
    | succ d ih =>
      intro i f M W h1 h2 h3 hC hG hW hM
      obtain ⟨f, rfl⟩ : ∃ g, f = g + 1 := ⟨f - 1, by omega⟩
      have hi : i < R.2.2.2.2.length := by omega
      have e2 := hC.2.2.2.2.2.2.2.1 i _ (List.getElem?_eq_getElem hi)
      have hx := hR.2.2.2.2.2.2.2.2.2 _ (List.getElem_mem hi)
      obtain ⟨M1, g1, g2, g3⟩ := m_shakes n hn hR hC (L := 0) (by decide) hW hM hg31 hx.1
      obtain ⟨M2, q1, q2, q3⟩ := ih (i + 1) f M1 _ (by omega) (by omega) (by omega) (hC.mh g2) (hG.fr g2 (fun k _ _ => mh_1 k)) (hW.hand hR g _) g3
      refine ⟨M2, ?_, g2.trans q2, ?_⟩
      · show (if M.1 0 6 ≤ nI i then some ((), M) else gd (nI i) 8 (bd (X_Model_worn n M) fun r1 M2 => bd (X_Model_shakes n (nI 0) (M.1 5 (nI i).toNatClampNeg) r1 M2) fun _ M4 => X_Model_aDay_L2 n (nI 0) f (nI i + 1) M4)) = _
        rw [hC.2.2.2.2.1, if_neg (nI_ge (by omega) (by omega)), gd_in (vp_in_nI (by omega) (by decide)), nI_clamp (by omega), m_worn n hn hC.1 hR.2.1 hg hG, bd_ret, e2, g1, bd_ret, nI_1]
        exact q1
      · rw [List.drop_eq_getElem_cons hi]
        exact q3
  exact key _ 0 n M W rfl (Nat.zero_le _) (by omega) hC hG hW hM
-- the pair of two
def prN (a b : Nat) : Nat := if a ≤ b then b * (b - 1) / 2 + a else a * (a - 1) / 2 + b
theorem pr_ok : ∀ a, a < 6 → ∀ b, b < 6 → a ≠ b → prN a b < 15 ∧ les (prN a b) = min a b ∧ gre (prN a b) = max a b := by decide +kernel
theorem x_pairOf (n : Nat) {a b : Nat} (ha : a < 6) (hb : b < 6) (h : a ≠ b) (M : Mem) : X_ShakeHands_pairOf n (nI a) (nI b) M = some (nI (prN a b), M) := by
  have : ∀ a, a < 6 → ∀ b, b < 6 → a ≠ b → ((((if nI a < nI b then nI b else nI a) * ((if nI a < nI b then nI b else nI a) - 1)) / 2 : Int32) + (if nI b < nI a then nI b else nI a)) = nI (prN a b) := by decide +kernel
  unfold X_ShakeHands_pairOf nm
  dsimp only
  rw [if_neg (by decide), this a ha b hb h]
theorem m_pairOf (n : Nat) {a b : Nat} (ha : a < 6) (hb : b < 6) (h : a ≠ b) (M : Mem) : X_Model_pairOf n (nI a) (nI b) M = some (nI (prN a b), M) := by
  have : ∀ a, a < 6 → ∀ b, b < 6 → a ≠ b → (if nI b ≤ nI a then (nI a * (nI a - 1)) / 2 + nI b else (nI b * (nI b - 1)) / 2 + nI a : Int32) = nI (prN a b) := by decide +kernel
  have h2 := this a ha b hb h
  unfold X_Model_pairOf
  by_cases e : nI b ≤ nI a
  · rw [if_pos e] at h2
    rw [if_pos e, if_neg (by decide), h2]
  · rw [if_neg e] at h2
    rw [if_neg e, if_neg (by decide), h2]
