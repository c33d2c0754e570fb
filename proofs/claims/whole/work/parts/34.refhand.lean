/-! THE REFERENCE: hands -/
theorem m_takes (n : Nat) (hn : 20 ≤ n) {c ln b : Nat} (hc : c ≠ 16 ∧ c ≠ 0) {m : List Nat} (hm : Ro m) (hml : m.length ≤ 9) (hb : b + 10 ≤ ln) (hln : ln < 2 ^ 30) {M : Mem} {l : List Nat} (hR : RwM M c b m) (hM : MkAt M l) (hr : Ro l) : ∃ M', X_Model_takes n c ln (nI b) M = some ((), M') ∧ MkAt M' (mergeT l m) ∧ Fr mk M M' := by
  have key : ∀ (d i f : Nat) (M : Mem) (l : List Nat), m.length - i = d → i ≤ m.length → d < f → RwM M c b m → MkAt M l → Ro l → ∃ M', X_Model_takes_L2 n c ln (nI b) f (nI i) M = some ((), M') ∧ MkAt M' (mergeT l (m.drop i)) ∧ Fr mk M M' := by
    intro d
    induction d with
    | zero =>
      intro i f M l h1 h2 h3 hR hM hr
      obtain ⟨f, rfl⟩ : ∃ g, f = g + 1 := ⟨f - 1, by omega⟩
      refine ⟨M, ?_, by rw [List.drop_eq_nil_of_le (by omega)]; exact hM, Fr.rf⟩
      show gd (nI b) ln (if M.1 c (nI b).toNatClampNeg ≤ nI i then some ((), M) else _) = _
      rw [gd_in (vp_in_nI (by omega) (by omega)), nI_clamp (by omega), hR.1, if_pos (nI_le (by omega) (by omega))]
    | succ d ih =>
      intro i f M l h1 h2 h3 hR hM hr
      obtain ⟨f, rfl⟩ : ∃ g, f = g + 1 := ⟨f - 1, by omega⟩
      have hi : i < m.length := by omega
      have ht := hm.2 _ (List.getElem_mem hi)
      have e := hR.2 i _ (List.getElem?_eq_getElem hi)
      obtain ⟨M1, g1, g2, g3⟩ := m_adds n (by omega) hM hr ht
      obtain ⟨M2, k1, k2, k3⟩ := ih (i + 1) f M1 _ (by omega) (by omega) (by omega) (hR.fr g3 (fun k _ _ => by unfold mk; omega)) g2 (hr.addT ht)
      refine ⟨M2, ?_, by rw [List.drop_eq_getElem_cons hi]; exact k2, g3.trans k3⟩
      show gd (nI b) ln (if M.1 c (nI b).toNatClampNeg ≤ nI i then some ((), M) else gd ((nI b + 1) + nI i) ln (bd (X_Model_adds n (M.1 c ((nI b + 1) + nI i).toNatClampNeg) M) fun _ M2 => X_Model_takes_L2 n c ln (nI b) f (nI i + 1) M2)) = _
      rw [gd_in (vp_in_nI (by omega) (by omega)), nI_clamp (by omega), hR.1, if_neg (nI_ge (by omega) (by omega)), nI_1, nI_add, gd_in (vp_in_nI (by omega) (by omega)), nI_clamp (by omega), e, g1, bd_ret, nI_1, k1]
  obtain ⟨M', g1, g2, g3⟩ := key _ 0 n M l rfl (Nat.zero_le _) (by omega) hR hM hr
  exact ⟨M', g1, g2, g3⟩
def rg (c b w : Nat) (a k : Nat) : Prop := a = c ∧ b ≤ k ∧ k < b + w
theorem m_puts (n : Nat) (hn : 20 ≤ n) {c ln b : Nat} (hc : c ≠ 16 ∧ c ≠ 0) (hb : b + 10 ≤ ln) (hln : ln < 2 ^ 30) {M : Mem} {l : List Nat} (hM : MkAt M l) (hl : l.length ≤ 9) : ∃ M', X_Model_puts n c ln (nI b) M = some ((), M') ∧ RwM M' c b l ∧ Fr (rg c b 10) M M' := by
  have key : ∀ (d i f : Nat) (N : Mem), l.length - i = d → i ≤ l.length → d < f → MkAt N l → N.1 c b = nI l.length → (∀ j t, j < i → l[j]? = some t → N.1 c (b + 1 + j) = nI t) → ∃ M', X_Model_puts_L9 n c ln (nI b) f (nI i) N = some ((), M') ∧ RwM M' c b l ∧ Fr (rg c b 10) N M' := by
    intro d
    induction d with
    | zero =>
      intro i f N h1 h2 h3 hN h4 h5
      obtain ⟨f, rfl⟩ : ∃ g, f = g + 1 := ⟨f - 1, by omega⟩
      refine ⟨N, ?_, ⟨h4, fun j t hj => h5 j t (by have := (List.getElem?_eq_some_iff.mp hj).1; omega) hj⟩, Fr.rf⟩
      show (if N.1 0 35 ≤ nI i then _ else _) = _
      rw [hN.1, if_pos (nI_le (by omega) (by omega))]
    | succ d ih =>
      intro i f N h1 h2 h3 hN h4 h5
      obtain ⟨f, rfl⟩ : ∃ g, f = g + 1 := ⟨f - 1, by omega⟩
      have hi : i < l.length := by omega
      have e := hN.2 i _ (List.getElem?_eq_getElem hi)
      have hf : Fr (rg c b 10) N (si N c (b + 1 + i) (nI l[i])) := Fr.si ⟨rfl, by omega, by omega⟩
      obtain ⟨M', g1, g2, g3⟩ := ih (i + 1) f (si N c (b + 1 + i) (nI l[i])) (by omega) (by omega) (by omega) (hN.fr hf (by unfold rg; omega) (by unfold rg; omega)) (by rw [si_ne (Or.inr (by omega))]; exact h4) (fun j t hj ht => by
        by_cases e2 : j = i
        · subst e2
          rw [si_at]
          rw [List.getElem?_eq_getElem hi] at ht
          rw [Option.some.inj ht]
        · rw [si_ne (Or.inr (by omega))]
          exact h5 j t (by omega) ht)
      refine ⟨M', ?_, g2, hf.trans g3⟩
      show (if N.1 0 35 ≤ nI i then _ else gd (nI i) 18 (gd ((nI b + 1) + nI i) ln (X_Model_puts_L9 n c ln (nI b) f (nI i + 1) (si N c ((nI b + 1) + nI i).toNatClampNeg (N.1 16 (nI i).toNatClampNeg))))) = _
      rw [hN.1, if_neg (nI_ge (by omega) (by omega)), gd_in (vp_in_nI (by omega) (by decide)), nI_1, nI_add, gd_in (vp_in_nI (by omega) (by omega)), nI_clamp (by omega), nI_clamp (by omega), e, nI_1]
      exact g1
  have hf : Fr (rg c b 10) M (si M c b (nI l.length)) := Fr.si ⟨rfl, by omega, by omega⟩
  obtain ⟨M', g1, g2, g3⟩ := key _ 0 n (si M c b (nI l.length)) rfl (Nat.zero_le _) (by omega) (hM.fr hf (by unfold rg; omega) (by unfold rg; omega)) (si_at _ _ _ _) (fun j t hj => by omega)
  refine ⟨M', ?_, g2, hf.trans g3⟩
  unfold X_Model_puts
  rw [gd_in (vp_in_nI (by omega) (by omega)), nI_clamp (by omega), hM.1]
  exact g1
-- a layer of rows
def LyM (M : Mem) (c b : Nat) (W : Nat → List Nat) : Prop := ∀ p, p < 6 → RwM M c (b + 10 * p) (W p)
theorem LyM.fr {P : Nat → Nat → Prop} {M M' : Mem} {c b : Nat} {W : Nat → List Nat} (h : LyM M c b W) (hW : OkW W) (ho : Fr P M M') (hp : ∀ k, b ≤ k → k < b + 60 → ¬ P c k) : LyM M' c b W := fun p hp6 => (h p hp6).fr ho (fun k h1 h2 => hp k (by omega) (by have := (hW p).2; omega))
theorem LyM.eq {M : Mem} {c b : Nat} {W V : Nat → List Nat} (h : LyM M c b W) (e : ∀ p, p < 6 → V p = W p) : LyM M c b V := fun p hp => by rw [e p hp]; exact h p hp
theorem cp_step {M : Mem} {a sp b dp i : Nat} (h : a ≠ b ∨ sp + i < dp ∨ dp + i ≤ sp + i) : si (cpI M a sp b dp i) b (dp + i) ((cpI M a sp b dp i).1 a (sp + i)) = cpI M a sp b dp (i + 1) := by
  have e : (cpI M a sp b dp i).1 a (sp + i) = M.1 a (sp + i) := if_neg (by omega)
  rw [e]
  apply Prod.ext
  · funext x y
    show (if x = b ∧ y = dp + i then M.1 a (sp + i) else if x = b ∧ dp ≤ y ∧ y < dp + i then M.1 a (sp + (y - dp)) else M.1 x y) = if x = b ∧ dp ≤ y ∧ y < dp + (i + 1) then M.1 a (sp + (y - dp)) else M.1 x y
    by_cases e1 : x = b ∧ y = dp + i
    · rw [if_pos e1, if_pos ⟨e1.1, by omega, by omega⟩, e1.2, Nat.add_sub_cancel_left]
    · rw [if_neg e1]
      by_cases e2 : x = b ∧ dp ≤ y ∧ y < dp + i
      · rw [if_pos e2, if_pos ⟨e2.1, by omega, by omega⟩]
      · rw [if_neg e2, if_neg (by omega)]
  · rfl
theorem cp_0 (M : Mem) (a sp b dp : Nat) : cpI M a sp b dp 0 = M := by
  apply Prod.ext
  · funext x y
    exact if_neg (by omega)
  · rfl
theorem cp_at {M : Mem} {a sp b dp n k : Nat} (h : k < n) : (cpI M a sp b dp n).1 b (dp + k) = M.1 a (sp + k) := by
  show (if b = b ∧ dp ≤ dp + k ∧ dp + k < dp + n then M.1 a (sp + (dp + k - dp)) else _) = _
  rw [if_pos ⟨rfl, by omega, by omega⟩, Nat.add_sub_cancel_left]
theorem m_begins (n : Nat) (hn : 61 ≤ n) {L : Nat} (hL : L < 10) (M : Mem) : X_Model_begins n (nI L) M = some ((), cpI M 1 0 15 (60 * L) 60) := by
  have key : ∀ (d i f : Nat), 60 - i = d → i ≤ 60 → d < f → X_Model_begins_L2 n (nI L) f (nI i) (cpI M 1 0 15 (60 * L) i) = some ((), cpI M 1 0 15 (60 * L) 60) := by
    intro d
    induction d with
    | zero =>
      intro i f h1 h2 h3
      obtain ⟨f, rfl⟩ : ∃ g, f = g + 1 := ⟨f - 1, by omega⟩
      have e : i = 60 := by omega
      subst e
      show (if (60 : Int32) ≤ nI 60 then _ else _) = _
      rw [if_pos (by decide)]
    | succ d ih =>
      intro i f h1 h2 h3
      obtain ⟨f, rfl⟩ : ∃ g, f = g + 1 := ⟨f - 1, by omega⟩
      generalize hN : cpI M 1 0 15 (60 * L) i = N
      show (if (60 : Int32) ≤ nI i then _ else gd (nI i) 234 (gd (((60 : Int32) * nI L) + nI i) 600 (X_Model_begins_L2 n (nI L) f (nI i + 1) (si N 15 ((((60 : Int32) * nI L) + nI i).toNatClampNeg) (N.1 1 (nI i).toNatClampNeg))))) = _
      rw [if_neg (show ¬ (60 : Int32) ≤ nI i from nI_ge (b := 60) (by omega) (by decide)), gd_in (vp_in_nI (by omega) (by decide)), show (60 : Int32) = nI 60 from rfl, pk_mul, nI_add, gd_in (vp_in_nI (by omega) (by decide)), nI_clamp (by omega), nI_clamp (by omega), nI_1, ← hN]
      have := cp_step (M := M) (a := 1) (sp := 0) (b := 15) (dp := 60 * L) (i := i) (Or.inl (by decide))
      rw [Nat.zero_add] at this
      rw [this]
      exact ih (i + 1) f (by omega) (by omega) (by omega)
  have := key 60 0 n rfl (by decide) (by omega)
  rw [cp_0] at this
  exact this
theorem m_becomes (n : Nat) (hn : 61 ≤ n) {L : Nat} (hL : L < 10) (M : Mem) : X_Model_becomes n (nI L) M = some ((), cpI M 15 (60 * L) 1 0 60) := by
  have key : ∀ (d i f : Nat), 60 - i = d → i ≤ 60 → d < f → X_Model_becomes_L2 n (nI L) f (nI i) (cpI M 15 (60 * L) 1 0 i) = some ((), cpI M 15 (60 * L) 1 0 60) := by
    intro d
    induction d with
    | zero =>
      intro i f h1 h2 h3
      obtain ⟨f, rfl⟩ : ∃ g, f = g + 1 := ⟨f - 1, by omega⟩
      have e : i = 60 := by omega
      subst e
      show (if (60 : Int32) ≤ nI 60 then _ else _) = _
      rw [if_pos (by decide)]
    | succ d ih =>
      intro i f h1 h2 h3
      obtain ⟨f, rfl⟩ : ∃ g, f = g + 1 := ⟨f - 1, by omega⟩
      generalize hN : cpI M 15 (60 * L) 1 0 i = N
      show (if (60 : Int32) ≤ nI i then _ else gd (((60 : Int32) * nI L) + nI i) 600 (gd (nI i) 234 (X_Model_becomes_L2 n (nI L) f (nI i + 1) (si N 1 ((nI i).toNatClampNeg) (N.1 15 (((60 : Int32) * nI L) + nI i).toNatClampNeg))))) = _
      rw [if_neg (show ¬ (60 : Int32) ≤ nI i from nI_ge (b := 60) (by omega) (by decide)), show (60 : Int32) = nI 60 from rfl, pk_mul, nI_add, gd_in (vp_in_nI (by omega) (by decide)), gd_in (vp_in_nI (by omega) (by decide)), nI_clamp (by omega), nI_clamp (by omega), nI_1, ← hN]
      have := cp_step (M := M) (a := 15) (sp := 60 * L) (b := 1) (dp := 0) (i := i) (Or.inl (by decide))
      rw [Nat.zero_add] at this
      rw [this]
      exact ih (i + 1) f (by omega) (by omega) (by omega)
  have := key 60 0 n rfl (by decide) (by omega)
  rw [cp_0] at this
  exact this
theorem m_copies (n : Nat) (hn : 61 ≤ n) {L K : Nat} (hL : L < 10) (hK : K < L) (M : Mem) : X_Model_copies n (nI L) (nI K) M = some ((), cpI M 15 (60 * K) 15 (60 * L) 60) := by
  have key : ∀ (d i f : Nat), 60 - i = d → i ≤ 60 → d < f → X_Model_copies_L2 n (nI L) (nI K) f (nI i) (cpI M 15 (60 * K) 15 (60 * L) i) = some ((), cpI M 15 (60 * K) 15 (60 * L) 60) := by
    intro d
    induction d with
    | zero =>
      intro i f h1 h2 h3
      obtain ⟨f, rfl⟩ : ∃ g, f = g + 1 := ⟨f - 1, by omega⟩
      have e : i = 60 := by omega
      subst e
      show (if (60 : Int32) ≤ nI 60 then _ else _) = _
      rw [if_pos (by decide)]
    | succ d ih =>
      intro i f h1 h2 h3
      obtain ⟨f, rfl⟩ : ∃ g, f = g + 1 := ⟨f - 1, by omega⟩
      generalize hN : cpI M 15 (60 * K) 15 (60 * L) i = N
      show (if (60 : Int32) ≤ nI i then _ else gd (((60 : Int32) * nI K) + nI i) 600 (gd (((60 : Int32) * nI L) + nI i) 600 (X_Model_copies_L2 n (nI L) (nI K) f (nI i + 1) (si N 15 ((((60 : Int32) * nI L) + nI i).toNatClampNeg) (N.1 15 (((60 : Int32) * nI K) + nI i).toNatClampNeg))))) = _
      rw [if_neg (show ¬ (60 : Int32) ≤ nI i from nI_ge (b := 60) (by omega) (by decide)), show (60 : Int32) = nI 60 from rfl, pk_mul, pk_mul, nI_add, nI_add, gd_in (vp_in_nI (by omega) (by decide)), gd_in (vp_in_nI (by omega) (by decide)), nI_clamp (by omega), nI_clamp (by omega), nI_1, ← hN]
      rw [cp_step (Or.inr (Or.inl (by omega)))]
      exact ih (i + 1) f (by omega) (by omega) (by omega)
  have := key 60 0 n rfl (by decide) (by omega)
  rw [cp_0] at this
  exact this
theorem LyM.cp {M : Mem} {a sp b dp : Nat} {W : Nat → List Nat} (h : LyM M a sp W) (hW : OkW W) : LyM (cpI M a sp b dp 60) b dp W := fun p hp => by
  have hl := (hW p).2
  refine ⟨by rw [cp_at (by omega)]; exact (h p hp).1, fun i t hi => ?_⟩
  have h2 := (List.getElem?_eq_some_iff.mp hi).1
  rw [show dp + 10 * p + 1 + i = dp + (10 * p + 1 + i) by omega, cp_at (by omega), ← (h p hp).2 i t hi, show sp + 10 * p + 1 + i = sp + (10 * p + 1 + i) by omega]
theorem m_knowsIn (n : Nat) (hn : 20 ≤ n) {M : Mem} {L p : Nat} (hL : L < 10) (hp : p < 6) {l : List Nat} (hM : RwM M 15 (60 * L + 10 * p) l) (hr : Ro l) (hl : l.length ≤ 9) : X_Model_knowsIn n (nI L) (nI p) M = some (nI (knN l), M) := by
  have key : ∀ (d i f : Nat), l.length - i = d → i ≤ l.length → d < f → X_Model_knowsIn_L16 n (nI (60 * L + 10 * p)) M f (nI (knN (l.take i))) (nI i) = some (nI (knN l), M) := by
    intro d
    induction d with
    | zero =>
      intro i f h1 h2 h3
      obtain ⟨f, rfl⟩ : ∃ g, f = g + 1 := ⟨f - 1, by omega⟩
      show gd (nI (60 * L + 10 * p)) 600 (if M.1 15 (nI (60 * L + 10 * p)).toNatClampNeg ≤ nI i then _ else _) = _
      rw [gd_in (vp_in_nI (by omega) (by decide)), nI_clamp (by omega), hM.1, if_pos (nI_le (by omega) (by omega)), List.take_of_length_le (by omega)]
    | succ d ih =>
      intro i f h1 h2 h3
      obtain ⟨f, rfl⟩ : ∃ g, f = g + 1 := ⟨f - 1, by omega⟩
      have hi : i < l.length := by omega
      have ht := hr.2 _ (List.getElem_mem hi)
      have e := hM.2 i _ (List.getElem?_eq_getElem hi)
      show gd (nI (60 * L + 10 * p)) 600 (if M.1 15 (nI (60 * L + 10 * p)).toNatClampNeg ≤ nI i then _ else gd ((nI (60 * L + 10 * p) + 1) + nI i) 600 (X_Model_knowsIn_L16 n (nI (60 * L + 10 * p)) M f (nI (knN (l.take i)) ||| ((1 : Int32) <<< ((M.1 15 ((nI (60 * L + 10 * p) + 1) + nI i).toNatClampNeg) &&& 31))) (nI i + 1))) = _
      rw [gd_in (vp_in_nI (by omega) (by decide)), nI_clamp (by omega), hM.1, if_neg (nI_ge (by omega) (by omega)), nI_1, nI_add, gd_in (vp_in_nI (by omega) (by decide)), nI_clamp (by omega), e, i_shl1 (by omega), i_or, nI_1, ← knN_app, List.take_append_getElem hi]
      exact ih (i + 1) f (by omega) (by omega) (by omega)
  unfold X_Model_knowsIn nm
  rw [show (60 : Int32) = nI 60 from rfl, show (10 : Int32) = nI 10 from rfl, pk_mul, pk_mul, nI_add]
  exact key _ 0 n rfl (Nat.zero_le _) (by omega)
theorem b_is {k t : Nat} (hk : k < 2 ^ 31) (ht : t < 32) : ((nI k >>> (nI t &&& 31) &&& 1) : Int32) = nI (if k.testBit t then 1 else 0) := by
  rw [bit_is hk ht]
  cases k.testBit t <;> rfl
theorem m_whoIn (n : Nat) (hn : 20 ≤ n) {M : Mem} {P L t : Nat} (hP : M.1 0 2 = nI P) (hP6 : P ≤ 6) (hL : L < 10) (ht : t < 16) {W : Nat → List Nat} (hW : OkW W) (hM : LyM M 15 (60 * L) W) : X_Model_whoIn n (nI L) (nI t) M = some (nI (whoN W t P), M) := by
  have key : ∀ (d i f : Nat), P - i = d → i ≤ P → d < f → X_Model_whoIn_L5 n (nI L) (nI t) f (nI (whoN W t i)) (nI i) M = some (nI (whoN W t P), M) := by
    intro d
    induction d with
    | zero =>
      intro i f h1 h2 h3
      obtain ⟨f, rfl⟩ : ∃ g, f = g + 1 := ⟨f - 1, by omega⟩
      have e : i = P := by omega
      subst e
      show (if M.1 0 2 ≤ nI i then _ else _) = _
      rw [hP, if_pos (nI_le (by omega) (by omega))]
    | succ d ih =>
      intro i f h1 h2 h3
      obtain ⟨f, rfl⟩ : ∃ g, f = g + 1 := ⟨f - 1, by omega⟩
      have hi : i < 6 := by omega
      have hk := knN_lt (hW i).1.2
      show (if M.1 0 2 ≤ nI i then _ else bd (X_Model_knowsIn n (nI L) (nI i) M) fun r1 M2 => X_Model_whoIn_L5 n (nI L) (nI t) f (nI (whoN W t i) ||| (((r1 >>> (nI t &&& 31)) &&& 1) <<< (nI i &&& 31))) (nI i + 1) M2) = _
      rw [hP, if_neg (nI_ge (by omega) (by omega)), m_knowsIn n hn hL hi (hM i hi) (hW i).1 (hW i).2, bd_ret, b_is (by omega) (by omega), knN_bit]
      have e : nI (if decide (t ∈ W i) then 1 else 0) <<< (nI i &&& 31) = nI (if t ∈ W i then 2 ^ i else 0) := by
        by_cases h : t ∈ W i
        · rw [if_pos (by simp [h]), if_pos h]
          exact i_shl1 (by omega)
        · rw [if_neg (by simp [h]), if_neg h, i_shl (by omega) (by omega), Nat.zero_mul]
      rw [e, i_or, nI_1]
      exact ih (i + 1) f (by omega) (by omega) (by omega)
  exact key _ 0 n rfl (Nat.zero_le _) (by omega)
theorem m_anyIn (n : Nat) (hn : 20 ≤ n) {M : Mem} {P L : Nat} (hP : M.1 0 2 = nI P) (hP6 : P ≤ 6) (hL : L < 10) {W : Nat → List Nat} (hW : OkW W) (hM : LyM M 15 (60 * L) W) : X_Model_anyIn n (nI L) M = some (nI (anyN W P), M) := by
  have key : ∀ (d i f : Nat), P - i = d → i ≤ P → d < f → X_Model_anyIn_L4 n (nI L) f (nI (anyN W i)) (nI i) M = some (nI (anyN W P), M) := by
    intro d
    induction d with
    | zero =>
      intro i f h1 h2 h3
      obtain ⟨f, rfl⟩ : ∃ g, f = g + 1 := ⟨f - 1, by omega⟩
      have e : i = P := by omega
      subst e
      show (if M.1 0 2 ≤ nI i then _ else _) = _
      rw [hP, if_pos (nI_le (by omega) (by omega))]
    | succ d ih =>
      intro i f h1 h2 h3
      obtain ⟨f, rfl⟩ : ∃ g, f = g + 1 := ⟨f - 1, by omega⟩
      have hi : i < 6 := by omega
      show (if M.1 0 2 ≤ nI i then _ else bd (X_Model_knowsIn n (nI L) (nI i) M) fun r1 M2 => X_Model_anyIn_L4 n (nI L) f (nI (anyN W i) ||| r1) (nI i + 1) M2) = _
      rw [hP, if_neg (nI_ge (by omega) (by omega)), m_knowsIn n hn hL hi (hM i hi) (hW i).1 (hW i).2, bd_ret, i_or, nI_1]
      exact ih (i + 1) f (by omega) (by omega) (by omega)
  exact key _ 0 n rfl (Nat.zero_le _) (by omega)
