/-! THE REFERENCE: rows as arrays -/
def RwM (M : Mem) (c b : Nat) (l : List Nat) : Prop := M.1 c b = nI l.length ∧ ∀ i t, l[i]? = some t → M.1 c (b + 1 + i) = nI t
def MkAt (M : Mem) (l : List Nat) : Prop := M.1 0 35 = nI l.length ∧ ∀ i t, l[i]? = some t → M.1 16 i = nI t
def Fr (P : Nat → Nat → Prop) (M M' : Mem) : Prop := ∀ a k, ¬ P a k → M'.1 a k = M.1 a k ∧ M'.2 a k = M.2 a k
theorem Fr.rf {P : Nat → Nat → Prop} {M : Mem} : Fr P M M := fun _ _ _ => ⟨rfl, rfl⟩
theorem Fr.trans {P : Nat → Nat → Prop} {M M' M2 : Mem} (h : Fr P M M') (h2 : Fr P M' M2) : Fr P M M2 := fun a k ha => ⟨(h2 a k ha).1.trans (h a k ha).1, (h2 a k ha).2.trans (h a k ha).2⟩
theorem Fr.mono {P Q : Nat → Nat → Prop} {M M' : Mem} (h : Fr P M M') (hs : ∀ a k, P a k → Q a k) : Fr Q M M' := fun a k ha => h a k (fun q => ha (hs a k q))
theorem Fr.si {P : Nat → Nat → Prop} {M : Mem} {a k : Nat} {v : Int32} (h : P a k) : Fr P M (si M a k v) := fun x y hx => ⟨if_neg (fun e => hx (by rw [e.1, e.2]; exact h)), rfl⟩
theorem Fr.sl {P : Nat → Nat → Prop} {M : Mem} {a k : Nat} {v : Int64} (h : P a k) : Fr P M (sl M a k v) := fun x y hx => ⟨rfl, if_neg (fun e => hx (by rw [e.1, e.2]; exact h))⟩
theorem Fr.cpI {P : Nat → Nat → Prop} {M : Mem} {a sp b dp n : Nat} (h : ∀ k, dp ≤ k → k < dp + n → P b k) : Fr P M (cpI M a sp b dp n) := fun x y hx => ⟨if_neg (fun e => hx (by rw [e.1]; exact h y e.2.1 e.2.2)), rfl⟩
theorem si_at (M : Mem) (a k : Nat) (v : Int32) : (si M a k v).1 a k = v := if_pos ⟨rfl, rfl⟩
theorem si_ne {M : Mem} {a k x y : Nat} {v : Int32} (h : x ≠ a ∨ y ≠ k) : (si M a k v).1 x y = M.1 x y := if_neg (fun e => by exact h.elim (fun q => q e.1) (fun q => q e.2))
theorem RwM.fr {P : Nat → Nat → Prop} {M M' : Mem} {c b : Nat} {l : List Nat} (h : RwM M c b l) (ho : Fr P M M') (hp : ∀ k, b ≤ k → k ≤ b + l.length → ¬ P c k) : RwM M' c b l := by
  refine ⟨by rw [(ho c b (hp b (Nat.le_refl _) (by omega))).1]; exact h.1, fun i t hi => ?_⟩
  have hl := (List.getElem?_eq_some_iff.mp hi).1
  rw [(ho c _ (hp (b + 1 + i) (by omega) (by omega))).1]
  exact h.2 i t hi
theorem MkAt.fr {P : Nat → Nat → Prop} {M M' : Mem} {l : List Nat} (h : MkAt M l) (ho : Fr P M M') (h1 : ¬ P 0 35) (h2 : ∀ k, ¬ P 16 k) : MkAt M' l := by
  refine ⟨by rw [(ho 0 35 h1).1]; exact h.1, fun i t hi => ?_⟩
  rw [(ho 16 i (h2 i)).1]
  exact h.2 i t hi
def mk (a k : Nat) : Prop := a = 16 ∨ (a = 0 ∧ k = 35)
theorem i_cases (p : Int32) : p < 0 ∨ ∃ k, k < 2 ^ 31 ∧ p = nI k := by
  by_cases h : p < 0
  · exact Or.inl h
  · refine Or.inr ⟨p.toNatClampNeg, ?_, ?_⟩
    · have := p.toInt_lt
      show p.toInt.toNat < 2 ^ 31
      omega
    · have h0 : (0 : Int) ≤ p.toInt := by
        have := mt Int32.lt_iff_toInt_lt.mpr h
        have e : (0 : Int32).toInt = 0 := rfl
        omega
      apply Int32.toInt_inj.mp
      have e2 := nI_toInt (n := p.toNatClampNeg) (by have := p.toInt_lt; show p.toInt.toNat < 2 ^ 31; omega)
      rw [e2]
      show p.toInt = ((p.toInt.toNat : Nat) : Int)
      omega
theorem i_out {P : Nat} (hP : P < 2 ^ 31) {p : Int32} (h : ¬ ∃ k, k < P ∧ p = nI k) : p < 0 ∨ nI P ≤ p := by
  rcases i_cases p with h1 | ⟨k, h1, h2⟩
  · exact Or.inl h1
  · by_cases h3 : k < P
    · exact absurd ⟨k, h3, h2⟩ h
    · right
      rw [h2]
      exact nI_le (by omega) h1
theorem lg_lt (x y : Int32) : lg_cmp x.toInt64 y.toInt64 < 0 ↔ x < y := by
  unfold lg_cmp
  have e1 : x.toInt64 > y.toInt64 ↔ y < x := by
    rw [gt_iff_lt, Int64.lt_iff_toInt_lt, Int32.lt_iff_toInt_lt, Int32.toInt_toInt64, Int32.toInt_toInt64]
  have e2 : x.toInt64 = y.toInt64 ↔ x = y := by
    rw [← Int64.toInt_inj, ← Int32.toInt_inj, Int32.toInt_toInt64, Int32.toInt_toInt64]
  by_cases h1 : y < x
  · rw [if_pos (e1.mpr h1)]
    have : ¬ x < y := by rw [Int32.lt_iff_toInt_lt] at *; omega
    simp [this]
  · rw [if_neg (fun q => h1 (e1.mp q))]
    by_cases h2 : x = y
    · rw [if_pos (e2.mpr h2)]
      have : ¬ x < y := by rw [h2]; exact Int32.lt_irrefl
      simp [this]
    · rw [if_neg (fun q => h2 (e2.mp q))]
      have : x < y := by
        have h3 : x.toInt ≠ y.toInt := fun q => h2 (Int32.toInt_inj.mp q)
        rw [Int32.lt_iff_toInt_lt] at *
        omega
      simp only [this, iff_true]
      decide
theorem lg_gt (x y : Int32) : 0 < lg_cmp x.toInt64 y.toInt64 ↔ y < x := by
  unfold lg_cmp
  have e1 : x.toInt64 > y.toInt64 ↔ y < x := by
    rw [gt_iff_lt, Int64.lt_iff_toInt_lt, Int32.lt_iff_toInt_lt, Int32.toInt_toInt64, Int32.toInt_toInt64]
  by_cases h1 : y < x
  · rw [if_pos (e1.mpr h1)]
    simp only [h1, iff_true]
    decide
  · rw [if_neg (fun q => h1 (e1.mp q))]
    simp only [h1, iff_false]
    split <;> decide
theorem m_in (n : Nat) (x lo hi : Int32) (M : Mem) : X_Model_in n x.toInt64 lo.toInt64 hi.toInt64 M = some (if lo ≤ x ∧ x ≤ hi then 1 else 0, M) := by
  unfold X_Model_in
  have e1 := lg_lt x lo
  have e2 := lg_gt x hi
  by_cases h1 : x < lo
  · have : ¬ lo ≤ x := by rw [Int32.le_iff_toInt_le]; rw [Int32.lt_iff_toInt_lt] at h1; omega
    rw [if_pos (e1.mpr h1), if_neg (fun q => this q.1)]
  · have h1' : lo ≤ x := by rw [Int32.le_iff_toInt_le]; rw [Int32.lt_iff_toInt_lt] at h1; omega
    rw [if_neg (fun q => h1 (e1.mp q))]
    by_cases h2 : hi < x
    · have : ¬ x ≤ hi := by rw [Int32.le_iff_toInt_le]; rw [Int32.lt_iff_toInt_lt] at h2; omega
      rw [if_pos (e2.mpr h2), if_neg (fun q => this q.2)]
    · have h2' : x ≤ hi := by rw [Int32.le_iff_toInt_le]; rw [Int32.lt_iff_toInt_lt] at h2; omega
      rw [if_neg (fun q => h2 (e2.mp q)), if_pos ⟨h1', h2'⟩]
-- in 0 .. P - 1
theorem m_inY (n : Nat) {P k : Nat} (hP : P < 2 ^ 31) (hk : k < P) (M : Mem) : X_Model_in n (nI k).toInt64 0 (nI (P - 1)).toInt64 M = some (1, M) := by
  have := m_in n (nI k) 0 (nI (P - 1)) M
  rw [if_pos ⟨nI_pos' (by omega), nI_le (by omega) (by omega)⟩] at this
  exact this
theorem m_inN (n : Nat) {P : Nat} (hP : P < 2 ^ 31) {p : Int32} (h : ¬ ∃ k, k < P ∧ p = nI k) (M : Mem) : X_Model_in n p.toInt64 0 (nI P - 1).toInt64 M = some (0, M) := by
  have := m_in n p 0 (nI P - 1) M
  rw [if_neg] at this
  · exact this
  · intro ⟨q1, q2⟩
    rcases i_out hP h with h1 | h1
    · rw [Int32.le_iff_toInt_le] at q1
      rw [Int32.lt_iff_toInt_lt] at h1
      omega
    · have e0 := Int32.le_iff_toInt_le.mp (Int32.le_trans h1 q2)
      cases P with
      | zero =>
        have e1 := Int32.le_iff_toInt_le.mp q1
        have e2 := Int32.le_iff_toInt_le.mp q2
        have e3 : (nI 0 - 1 : Int32).toInt = -1 := rfl
        have e4 : (0 : Int32).toInt = 0 := rfl
        omega
      | succ P =>
        have e : nI (P + 1) - 1 = nI P := pk_sub (a := P + 1) (b := 1) (by omega)
        rw [e, nI_toInt hP, nI_toInt (by omega)] at e0
        omega
theorem i_ne4 {k : Nat} (h : k < 2 ^ 31) : nI k ≠ (-4 : Int32) := fun q => by
  have := nI_pos h
  rw [q] at this
  exact this (by decide)
theorem nod_ne {l : List Nat} (h : l.Nodup) {i j : Nat} {t : Nat} (hi : l[i]? = some t) (hj : l[j]? = some t) : i = j := by
  obtain ⟨h1, e1⟩ := List.getElem?_eq_some_iff.mp hi
  obtain ⟨h2, e2⟩ := List.getElem?_eq_some_iff.mp hj
  have hp := List.pairwise_iff_getElem.mp h
  rcases Nat.lt_trichotomy i j with q | q | q
  · exact absurd (e1.trans e2.symm) (hp i j h1 h2 q)
  · exact q
  · exact absurd (e2.trans e1.symm) (hp j i h2 h1 q)
theorem er_idx {l : List Nat} {t k : Nat} (h : l.Nodup) (hk : l[k]? = some t) : l.erase t = l.eraseIdx k := by
  induction l generalizing k with
  | nil => simp at hk
  | cons x l ih =>
    cases k with
    | zero =>
      have : x = t := by simpa using hk
      subst this
      rw [List.erase_cons_head]
      rfl
    | succ k =>
      have hk' : l[k]? = some t := by simpa using hk
      have hn := List.nodup_cons.mp h
      have hm : t ∈ l := List.mem_of_getElem? hk'
      have hne : x ≠ t := fun q => hn.1 (q ▸ hm)
      rw [List.erase_cons_tail (by simpa using hne), ih hn.2 hk']
      rfl
theorem m_place_L (n : Nat) {M : Mem} {l : List Nat} {t : Nat} (hM : MkAt M l) (hr : Ro l) (ht : t < 16) : ∀ (d i f : Nat) (v : Int32), l.length - i = d → i ≤ l.length → d < f → (∀ j, i ≤ j → l[j]? ≠ some t) → X_Model_place_L5 n (nI t) M f v (nI i) = some (v, M) := by
  have h16 := hr.len
  intro d
  induction d with
  | zero =>
    intro i f v h1 h2 h3 h4
    obtain ⟨f, rfl⟩ : ∃ g, f = g + 1 := ⟨f - 1, by omega⟩
    show (if M.1 0 35 ≤ nI i then some (v, M) else _) = _
    rw [hM.1, if_pos (nI_le (by omega) (by omega))]
  | succ d ih =>
    intro i f v h1 h2 h3 h4
    obtain ⟨f, rfl⟩ : ∃ g, f = g + 1 := ⟨f - 1, by omega⟩
    have hi : i < l.length := by omega
    have e := hM.2 i _ (List.getElem?_eq_getElem hi)
    have hx := hr.2 _ (List.getElem_mem hi)
    have hne : l[i] ≠ t := fun q => h4 i (Nat.le_refl _) (by rw [List.getElem?_eq_getElem hi, q])
    show (if M.1 0 35 ≤ nI i then some (v, M) else gd (nI i) 18 (if M.1 16 (nI i).toNatClampNeg = nI t then X_Model_place_L5 n (nI t) M f (nI i) (nI i + 1) else X_Model_place_L5 n (nI t) M f v (nI i + 1))) = _
    rw [hM.1, if_neg (nI_ge hi (by omega)), gd_in (vp_in_nI (by omega) (by decide)), nI_clamp (by omega), e, if_neg (fun q => hne ((nI_eq (by omega) (by omega)).mp q)), nI_1]
    exact ih (i + 1) f v (by omega) (by omega) (by omega) (fun j hj => h4 j (by omega))
theorem m_place_no (n : Nat) (hn : 18 ≤ n) {M : Mem} {l : List Nat} {t : Nat} (hM : MkAt M l) (hr : Ro l) (ht : t < 16) (h : t ∉ l) : X_Model_place n (nI t) M = some (-4, M) :=
  m_place_L n hM hr ht l.length 0 n (-4) rfl (Nat.zero_le _) (by have := hr.len; omega) (fun j _ q => h (List.mem_of_getElem? q))
theorem m_place_yes (n : Nat) (hn : 18 ≤ n) {M : Mem} {l : List Nat} {t k : Nat} (hM : MkAt M l) (hr : Ro l) (ht : t < 16) (h : l[k]? = some t) : X_Model_place n (nI t) M = some (nI k, M) := by
  have h16 := hr.len
  have hk := (List.getElem?_eq_some_iff.mp h).1
  have key : ∀ (d i f : Nat) (v : Int32), k - i = d → i ≤ k → l.length - i < f → X_Model_place_L5 n (nI t) M f v (nI i) = some (nI k, M) := by
    intro d
    induction d with
    | zero =>
      intro i f v h1 h2 h3
      obtain ⟨f, rfl⟩ : ∃ g, f = g + 1 := ⟨f - 1, by omega⟩
      have e : i = k := by omega
      subst e
      have e := hM.2 i _ h
      show (if M.1 0 35 ≤ nI i then some (v, M) else gd (nI i) 18 (if M.1 16 (nI i).toNatClampNeg = nI t then X_Model_place_L5 n (nI t) M f (nI i) (nI i + 1) else X_Model_place_L5 n (nI t) M f v (nI i + 1))) = _
      rw [hM.1, if_neg (nI_ge hk (by omega)), gd_in (vp_in_nI (by omega) (by decide)), nI_clamp (by omega), e, if_pos rfl, nI_1]
      exact m_place_L n hM hr ht (l.length - (i + 1)) (i + 1) f (nI i) rfl (by omega) (by omega) (fun j hj q => by
        have := nod_ne hr.1 h q
        omega)
    | succ d ih =>
      intro i f v h1 h2 h3
      obtain ⟨f, rfl⟩ : ∃ g, f = g + 1 := ⟨f - 1, by omega⟩
      have hi : i < l.length := by omega
      have e := hM.2 i _ (List.getElem?_eq_getElem hi)
      show (if M.1 0 35 ≤ nI i then some (v, M) else gd (nI i) 18 (if M.1 16 (nI i).toNatClampNeg = nI t then X_Model_place_L5 n (nI t) M f (nI i) (nI i + 1) else X_Model_place_L5 n (nI t) M f v (nI i + 1))) = _
      rw [hM.1, if_neg (nI_ge hi (by omega)), gd_in (vp_in_nI (by omega) (by decide)), nI_clamp (by omega), e, nI_1]
      split
      · exact ih (i + 1) f _ (by omega) (by omega) (by omega)
      · exact ih (i + 1) f _ (by omega) (by omega) (by omega)
  exact key k 0 n (-4) rfl (Nat.zero_le _) (by omega)
theorem MkAt.add {M : Mem} {l : List Nat} (hM : MkAt M l) (t : Nat) : MkAt (si (si M 16 l.length (nI t)) 0 35 (nI (l.length + 1))) (l ++ [t]) := by
  refine ⟨by rw [si_at, List.length_append]; rfl, fun i u hi => ?_⟩
  rw [si_ne (Or.inl (by decide))]
  have hl := (List.getElem?_eq_some_iff.mp hi).1
  rw [List.length_append, List.length_singleton] at hl
  by_cases e : i = l.length
  · subst e
    rw [si_at]
    rw [List.getElem?_append_right (Nat.le_refl _), Nat.sub_self] at hi
    have : t = u := by simpa using hi
    rw [this]
  · rw [si_ne (Or.inr e)]
    rw [List.getElem?_append_left (by omega)] at hi
    exact hM.2 i u hi
theorem m_adds (n : Nat) (hn : 18 ≤ n) {M : Mem} {l : List Nat} {t : Nat} (hM : MkAt M l) (hr : Ro l) (ht : t < 16) : ∃ M', X_Model_adds n (nI t) M = some ((), M') ∧ MkAt M' (addT l t) ∧ Fr mk M M' := by
  have h16 := hr.len
  unfold X_Model_adds nm addT
  by_cases h : t ∈ l
  · obtain ⟨k, hk⟩ := List.getElem?_of_mem h
    have hk9 := (List.getElem?_eq_some_iff.mp hk).1
    rw [m_place_yes n hn hM hr ht hk, bd_ret, if_neg (i_ne4 (by omega)), if_pos h]
    exact ⟨M, rfl, hM, Fr.rf⟩
  · rw [m_place_no n hn hM hr ht h, bd_ret, if_pos rfl, if_neg h, hM.1, gd_in (vp_in_nI (by omega) (by decide)), nI_clamp (by omega)]
    show ∃ M', some ((), si (si M 16 l.length (nI t)) 0 35 ((si M 16 l.length (nI t)).1 0 35 + 1)) = some ((), M') ∧ _
    rw [si_ne (Or.inl (by decide)), hM.1, nI_1]
    exact ⟨_, rfl, hM.add t, (Fr.si (Or.inl rfl)).trans (Fr.si (Or.inr ⟨rfl, rfl⟩))⟩
theorem m_drops (n : Nat) (hn : 20 ≤ n) {M : Mem} {l : List Nat} {k : Nat} (hM : MkAt M l) (hk : k < l.length) (hl : l.length ≤ 17) : ∃ M', X_Model_drops n (nI k) M = some ((), M') ∧ MkAt M' (l.eraseIdx k) ∧ Fr mk M M' := by
  have hlen : (l.eraseIdx k).length = l.length - 1 := by rw [List.length_eraseIdx, if_pos hk]
  have key : ∀ (d i f : Nat) (N : Mem), l.length - 1 - i = d → k ≤ i → i ≤ l.length - 1 → d < f → N.1 0 35 = nI (l.length - 1) → (∀ j t, j < i → (l.eraseIdx k)[j]? = some t → N.1 16 j = nI t) → (∀ j t, i < j → l[j]? = some t → N.1 16 j = nI t) → ∃ N', X_Model_drops_L12 n f (nI i) N = some ((), N') ∧ MkAt N' (l.eraseIdx k) ∧ Fr mk N N' := by
    intro d
    induction d with
    | zero =>
      intro i f N h1 h2 h3 h4 hN h5 h6
      obtain ⟨f, rfl⟩ : ∃ g, f = g + 1 := ⟨f - 1, by omega⟩
      refine ⟨N, ?_, ⟨by rw [hN, hlen], fun j t hj => h5 j t ?_ hj⟩, Fr.rf⟩
      · show (if N.1 0 35 ≤ nI i then some ((), N) else _) = _
        rw [hN, if_pos (nI_le (by omega) (by omega))]
      · have := (List.getElem?_eq_some_iff.mp hj).1
        omega
    | succ d ih =>
      intro i f N h1 h2 h3 h4 hN h5 h6
      obtain ⟨f, rfl⟩ : ∃ g, f = g + 1 := ⟨f - 1, by omega⟩
      have hi : i + 1 < l.length := by omega
      have e := h6 (i + 1) _ (by omega) (List.getElem?_eq_getElem hi)
      obtain ⟨N', g1, g2, g3⟩ := ih (i + 1) f (si N 16 i (nI l[i + 1])) (by omega) (by omega) (by omega) (by omega) (by rw [si_ne (Or.inl (by decide))]; exact hN) (fun j t hj ht => by
        by_cases e2 : j = i
        · subst e2
          rw [si_at]
          rw [List.getElem?_eraseIdx, if_neg (by omega), List.getElem?_eq_getElem hi] at ht
          rw [Option.some.inj ht]
        · rw [si_ne (Or.inr e2)]
          exact h5 j t (by omega) ht) (fun j t hj ht => by
        rw [si_ne (Or.inr (by omega))]
        exact h6 j t (by omega) ht)
      refine ⟨N', ?_, g2, (Fr.si (Or.inl rfl)).trans g3⟩
      show (if N.1 0 35 ≤ nI i then some ((), N) else gd (nI i + 1) 18 (gd (nI i) 18 (X_Model_drops_L12 n f (nI i + 1) (si N 16 (nI i).toNatClampNeg (N.1 16 (nI i + 1).toNatClampNeg))))) = _
      rw [hN, if_neg (nI_ge (by omega) (by omega)), nI_1, gd_in (vp_in_nI (by omega) (by decide)), gd_in (vp_in_nI (by omega) (by decide)), nI_clamp (by omega), nI_clamp (by omega), e]
      exact g1
  unfold X_Model_drops
  rw [hM.1, show (1 : Int32) = nI 1 from rfl, pk_sub (by omega)]
  obtain ⟨N', g1, g2, g3⟩ := key _ k n (si M 0 35 (nI (l.length - 1))) rfl (Nat.le_refl _) (by omega) (by omega) (si_at _ _ _ _) (fun j t hj ht => by
    rw [si_ne (Or.inl (by decide))]
    rw [List.getElem?_eraseIdx, if_pos hj] at ht
    exact hM.2 j t ht) (fun j t _ ht => by
    rw [si_ne (Or.inl (by decide))]
    exact hM.2 j t ht)
  exact ⟨N', g1, g2, (Fr.si (Or.inr ⟨rfl, rfl⟩)).trans g3⟩
-- place, then drop
theorem m_rem (n : Nat) (hn : 20 ≤ n) {M : Mem} {l : List Nat} {t : Nat} (hM : MkAt M l) (hr : Ro l) (h : t ∈ l) : ∃ r M', X_Model_place n (nI t) M = some (r, M) ∧ r ≠ -4 ∧ X_Model_drops n r M = some ((), M') ∧ MkAt M' (l.erase t) ∧ Fr mk M M' := by
  have h16 := hr.len
  obtain ⟨k, hk⟩ := List.getElem?_of_mem h
  have hk9 := (List.getElem?_eq_some_iff.mp hk).1
  obtain ⟨M', g1, g2, g3⟩ := m_drops n hn hM hk9 (by omega)
  exact ⟨nI k, M', m_place_yes n (by omega) hM hr (hr.2 t h) hk, i_ne4 (by omega), g1, by rw [er_idx hr.1 hk]; exact g2, g3⟩
-- the reference's rules
def MC (M : Mem) (R : Rl) : Prop := M.1 0 2 = nI R.1 ∧ M.1 0 3 = nI R.2.1 ∧ M.1 0 4 = nI R.2.2.1.length ∧ M.1 0 5 = nI R.2.2.2.1.length ∧ M.1 0 6 = nI R.2.2.2.2.length ∧
  (∀ j q, R.2.2.1[j]? = some q → M.1 3 (3 * j) = nI q.1 ∧ M.1 3 (3 * j + 1) = nI q.2.1 ∧ M.1 3 (3 * j + 2) = nI q.2.2) ∧ (∀ i h, R.2.2.2.1[i]? = some h → M.1 4 i = nI h) ∧ (∀ i h, R.2.2.2.2[i]? = some h → M.1 5 i = nI h) ∧
  (∀ h, h < 15 → M.1 6 h = nI (les h) ∧ M.1 7 h = nI (gre h))
theorem MC.fr {P : Nat → Nat → Prop} {M M' : Mem} {R : Rl} (h : MC M R) (ho : Fr P M M') (h1 : ∀ k, k ∈ [2, 3, 4, 5, 6] → ¬ P 0 k) (h2 : ∀ a k, a ∈ [3, 4, 5, 6, 7] → ¬ P a k) : MC M' R := by
  obtain ⟨a1, a2, a3, a4, a5, a6, a7, a8, a9⟩ := h
  have e : ∀ a, a ∈ [3, 4, 5, 6, 7] → ∀ k, M'.1 a k = M.1 a k := fun a ha k => (ho a k (h2 a k ha)).1
  have e0 : ∀ k, k ∈ [2, 3, 4, 5, 6] → M'.1 0 k = M.1 0 k := fun k hk => (ho 0 k (h1 k hk)).1
  refine ⟨(e0 2 (by decide)).trans a1, (e0 3 (by decide)).trans a2, (e0 4 (by decide)).trans a3, (e0 5 (by decide)).trans a4, (e0 6 (by decide)).trans a5, fun j q hq => ?_, fun i h hi => ?_, fun i h hi => ?_, fun h hh => ?_⟩
  · rw [e 3 (by decide), e 3 (by decide), e 3 (by decide)]; exact a6 j q hq
  · rw [e 4 (by decide)]; exact a7 i h hi
  · rw [e 5 (by decide)]; exact a8 i h hi
  · rw [e 6 (by decide), e 7 (by decide)]; exact a9 h hh
theorem mk_MC (k : Nat) : (k ∈ [2, 3, 4, 5, 6] → ¬ mk 0 k) := by
  intro h
  simp only [List.mem_cons, List.not_mem_nil, or_false] at h
  unfold mk
  omega
theorem mk_MC2 (a k : Nat) : (a ∈ [3, 4, 5, 6, 7] → ¬ mk a k) := by
  intro h
  simp only [List.mem_cons, List.not_mem_nil, or_false] at h
  unfold mk
  omega
theorem MC.mk {M M' : Mem} {R : Rl} (h : MC M R) (ho : Fr mk M M') : MC M' R := h.fr ho mk_MC mk_MC2
theorem m_settles_L10 (n : Nat) (hn : 20 ≤ n) {R : Rl} (hR : OkR R) (kx : Int32 → Mem → Option (Unit × Mem)) {M : Mem} {l : List Nat} (hC : MC M R) (hM : MkAt M l) (hr : Ro l) : ∀ (d j f : Nat), R.2.2.1.length - j = d → j ≤ R.2.2.1.length → d + 1 < f →
    (((R.2.2.1.drop j).find? (jIn l) = none ∧ X_Model_settles_L10 n kx f 0 (nI j) M = kx 0 M) ∨ (∃ q M', (R.2.2.1.drop j).find? (jIn l) = some q ∧ X_Model_settles_L10 n kx f 0 (nI j) M = kx 1 M' ∧ MkAt M' (joinT l q) ∧ Fr mk M M')) := by
  have hl16 := hr.len
  have hj4 := hR.2.2.2.2.1
  intro d
  induction d with
  | zero =>
    intro j f h1 h2 h3
    obtain ⟨f, rfl⟩ : ∃ g, f = g + 1 := ⟨f - 1, by omega⟩
    left
    refine ⟨by rw [List.drop_eq_nil_of_le (by omega)]; rfl, ?_⟩
    show (if M.1 0 4 ≤ nI j then kx 0 M else _) = _
    rw [hC.2.2.1, if_pos (nI_le (by omega) (by omega))]
  | succ d ih =>
    intro j f h1 h2 h3
    obtain ⟨f, rfl⟩ : ∃ g, f = g + 1 := ⟨f - 1, by omega⟩
    have hj : j < R.2.2.1.length := by omega
    have hq := hR.2.2.2.2.2.1 _ (List.getElem_mem hj)
    obtain ⟨b1, b2, b3⟩ := hC.2.2.2.2.2.1 j _ (List.getElem?_eq_getElem hj)
    rw [List.drop_eq_getElem_cons hj]
    generalize R.2.2.1[j] = q at hq b1 b2 b3
    have ih' := ih (j + 1) f (by omega) (by omega) (by omega)
    have v0 : vp_in (nI (3 * j)) 12 := vp_in_nI (by omega) (by omega)
    have v1 : vp_in (nI (3 * j + 1)) 12 := vp_in_nI (by omega) (by omega)
    have v2 : vp_in (nI (3 * j + 2)) 12 := vp_in_nI (by omega) (by omega)
    have un : X_Model_settles_L10 n kx (f + 1) 0 (nI j) M = bd (X_Model_place n (M.1 3 (3 * j)) M) fun r1 M2 => if r1 = -4 then X_Model_settles_L10 n kx f 0 (nI (j + 1)) M2 else bd (X_Model_place n (M2.1 3 (3 * j + 1)) M2) fun r5 M6 => if r5 = -4 then X_Model_settles_L10 n kx f 0 (nI (j + 1)) M6 else
        bd (X_Model_place n (M6.1 3 (3 * j)) M6) fun r7 M8 => bd (X_Model_drops n r7 M8) fun _ M10 => bd (X_Model_place n (M10.1 3 (3 * j + 1)) M10) fun r11 M12 => bd (X_Model_drops n r11 M12) fun _ M14 => bd (X_Model_adds n (M14.1 3 (3 * j + 2)) M14) fun _ M16 => X_Model_settles_L10 n kx f 1 (nI (j + 1)) M16 := by
      show (if M.1 0 4 ≤ nI j then kx 0 M else if (0 : Int32) = 0 then _ else _) = _
      rw [hC.2.2.1, if_neg (nI_ge hj (by omega)), if_pos rfl, show (3 : Int32) = nI 3 from rfl, pk_mul, nI_1, nI_1, show (2 : Int32) = nI 2 from rfl, nI_add]
      simp only [gd_in v0, gd_in v1, gd_in v2, nI_clamp (show 3 * j < 2 ^ 31 by omega), nI_clamp (show 3 * j + 1 < 2 ^ 31 by omega), nI_clamp (show 3 * j + 2 < 2 ^ 31 by omega), nm]
    rw [un]
    by_cases hx : q.1 ∈ l
    · obtain ⟨kx1, hk1⟩ := List.getElem?_of_mem hx
      have hk9 := (List.getElem?_eq_some_iff.mp hk1).1
      rw [b1, m_place_yes n (by omega) hM hr hq.1 hk1, bd_ret, if_neg (i_ne4 (by omega)), b2]
      by_cases hy : q.2.1 ∈ l
      · right
        obtain ⟨ky, hky⟩ := List.getElem?_of_mem hy
        have hky9 := (List.getElem?_eq_some_iff.mp hky).1
        obtain ⟨r1, M1, g1, -, g2, g3, g4⟩ := m_rem n hn hM hr hx
        have hC1 := hC.mk g4
        have hr1 : Ro (l.erase q.1) := hr.erase _
        have hy1 : q.2.1 ∈ l.erase q.1 := (List.mem_erase_of_ne (fun e => hq.2.2.2.1 e.symm)).mpr hy
        obtain ⟨r2, M2, k1, -, k2, k3, k4⟩ := m_rem n hn g3 hr1 hy1
        have hC2 := hC1.mk k4
        obtain ⟨M3, q1, q2, q3⟩ := m_adds n (by omega) k3 (hr1.erase _) hq.2.2.1
        have hC3 := hC2.mk q3
        have e1 : M1.1 3 (3 * j + 1) = nI q.2.1 := by rw [(g4 3 _ (mk_MC2 3 _ (by decide))).1, b2]
        have e2 : M2.1 3 (3 * j + 2) = nI q.2.2 := by rw [(k4 3 _ (mk_MC2 3 _ (by decide))).1, (g4 3 _ (mk_MC2 3 _ (by decide))).1, b3]
        refine ⟨q, M3, ?_, ?_, q2, (g4.trans k4).trans q3⟩
        · rw [List.find?_cons_of_pos]
          unfold jIn
          simp [hx, hy]
        · rw [m_place_yes n (by omega) hM hr hq.2.1 hky, bd_ret, if_neg (i_ne4 (by omega)), b1, g1, bd_ret, g2, bd_ret, e1, k1, bd_ret, k2, bd_ret, e2, q1, bd_ret]
          obtain ⟨f, rfl⟩ : ∃ g, f = g + 1 := ⟨f - 1, by omega⟩
          show (if M3.1 0 4 ≤ nI (j + 1) then kx 1 M3 else if (1 : Int32) = 0 then _ else kx 1 M3) = _
          rw [if_neg (show ¬ (1 : Int32) = 0 by decide)]
          split <;> rfl
      · rw [m_place_no n (by omega) hM hr hq.2.1 hy, bd_ret, if_pos rfl, List.find?_cons_of_neg (by unfold jIn; simp [hy])]
        exact ih'
    · rw [b1, m_place_no n (by omega) hM hr hq.1 hx, bd_ret, if_pos rfl, List.find?_cons_of_neg (by unfold jIn; simp [hx])]
      exact ih'
theorem m_settles_L2 (n : Nat) (hn : 20 ≤ n) {R : Rl} (hR : OkR R) (kx : Mem → Option (Unit × Mem)) : ∀ (d f : Nat) (M : Mem) (l : List Nat), l.length ≤ d → d + 1 < f → MC M R → MkAt M l → Ro l → ∃ M', X_Model_settles_L2 n kx f 1 M = kx M' ∧ MkAt M' (settleN R.2.2.1 d l) ∧ Fr mk M M' := by
  have hj4 := hR.2.2.2.2.1
  intro d
  induction d with
  | zero =>
    intro f M l h1 h2 hC hM hr
    obtain ⟨f, rfl⟩ : ∃ g, f = g + 2 := ⟨f - 2, by omega⟩
    have hl : l = [] := List.eq_nil_of_length_eq_zero (by omega)
    subst hl
    have un : X_Model_settles_L2 n kx (f + 2) 1 M = X_Model_settles_L10 n (fun y17 M18 => X_Model_settles_L2 n kx (f + 1) y17 M18) n 0 (nI 0) M := by
      show (if (1 : Int32) = 0 then _ else _) = _
      rw [if_neg (by decide)]
      rfl
    rcases m_settles_L10 n hn hR (fun y17 M18 => X_Model_settles_L2 n kx (f + 1) y17 M18) hC hM hr _ 0 n rfl (Nat.zero_le _) (by omega) with ⟨-, e⟩ | ⟨q, M', e, -⟩
    · refine ⟨M, ?_, hM, Fr.rf⟩
      rw [un, e]
      show (if (0 : Int32) = 0 then kx M else _) = _
      rw [if_pos rfl]
    · rw [List.drop_zero] at e
      have := List.find?_some e
      simp [jIn] at this
  | succ d ih =>
    intro f M l h1 h2 hC hM hr
    obtain ⟨f, rfl⟩ : ∃ g, f = g + 2 := ⟨f - 2, by omega⟩
    have un : X_Model_settles_L2 n kx (f + 2) 1 M = X_Model_settles_L10 n (fun y17 M18 => X_Model_settles_L2 n kx (f + 1) y17 M18) n 0 (nI 0) M := by
      show (if (1 : Int32) = 0 then _ else _) = _
      rw [if_neg (by decide)]
      rfl
    rcases m_settles_L10 n hn hR (fun y17 M18 => X_Model_settles_L2 n kx (f + 1) y17 M18) hC hM hr _ 0 n rfl (Nat.zero_le _) (by omega) with ⟨e1, e⟩ | ⟨q, M', e, e2, e3, e4⟩
    · refine ⟨M, ?_, ?_, Fr.rf⟩
      · rw [un, e]
        show (if (0 : Int32) = 0 then kx M else _) = _
        rw [if_pos rfl]
      · rw [List.drop_zero] at e1
        rw [settleN_fix e1]
        exact hM
    · rw [List.drop_zero] at e
      obtain ⟨hq, hqi⟩ := find_ok hR.2.2.2.2.2.1 e
      have := join_len hq hqi
      obtain ⟨M2, g1, g2, g3⟩ := ih (f + 1) M' (joinT l q) (by omega) (by omega) (hC.mk e4) e3 (hr.join hq)
      refine ⟨M2, by rw [un, e2]; exact g1, ?_, e4.trans g3⟩
      have es : settleN R.2.2.1 (d + 1) l = settleN R.2.2.1 d (joinT l q) := by
        show (match R.2.2.1.find? (jIn l) with | none => l | some q => settleN R.2.2.1 d (joinT l q)) = _
        rw [e]
      rw [es]
      exact g2
theorem m_settles_L117 (n : Nat) (hn : 20 ≤ n) {k : Nat} (hk : k < 100) : ∀ (d f : Nat) (M : Mem) (l : List Nat), l.length - k = d → d < f → l.length ≤ 17 → M.1 0 3 = nI k → MkAt M l → ∃ M', X_Model_settles_L117 n f M = some ((), M') ∧ MkAt M' (cutT k l) ∧ Fr mk M M' := by
  intro d
  induction d with
  | zero =>
    intro f M l h1 h2 h3 h4 hM
    obtain ⟨f, rfl⟩ : ∃ g, f = g + 1 := ⟨f - 1, by omega⟩
    refine ⟨M, ?_, ?_, Fr.rf⟩
    · show (if M.1 0 35 ≤ M.1 0 3 then _ else _) = _
      rw [hM.1, h4, if_pos (nI_le (by omega) (by omega))]
    · unfold cutT
      rw [h1]
      exact hM
  | succ d ih =>
    intro f M l h1 h2 h3 h4 hM
    obtain ⟨f, rfl⟩ : ∃ g, f = g + 1 := ⟨f - 1, by omega⟩
    obtain ⟨M1, g1, g2, g3⟩ := m_drops n hn (k := 0) hM (by omega) h3
    rw [show l.eraseIdx 0 = l.drop 1 by cases l <;> rfl] at g2
    obtain ⟨M2, k1, k2, k3⟩ := ih f M1 (l.drop 1) (by rw [List.length_drop]; omega) (by omega) (by rw [List.length_drop]; omega) (by rw [(g3 0 3 (mk_MC 3 (by decide))).1, h4]) g2
    refine ⟨M2, ?_, ?_, g3.trans k3⟩
    · show (if M.1 0 35 ≤ M.1 0 3 then _ else bd (X_Model_drops n (nI 0) M) fun _ M21 => X_Model_settles_L117 n f M21) = _
      rw [hM.1, h4, if_neg (nI_ge (by omega) (by omega)), g1, bd_ret, k1]
    · have e : cutT k (l.drop 1) = cutT k l := by
        unfold cutT
        rw [List.drop_drop, List.length_drop]
        congr 1
        omega
      rw [← e]
      exact k2
theorem m_settles (n : Nat) (hn : 20 ≤ n) {R : Rl} (hR : OkR R) {M : Mem} {l : List Nat} (hC : MC M R) (hM : MkAt M l) (hr : Ro l) : ∃ M', X_Model_settles n M = some ((), M') ∧ MkAt M' (settle R l) ∧ Fr mk M M' := by
  have h16 := hr.len
  obtain ⟨M1, g1, g2, g3⟩ := m_settles_L2 n hn hR (fun M19 => X_Model_settles_L117 n n M19) 16 n M l h16 (by omega) hC hM hr
  have hr2 := hr.settleN hR.2.2.2.2.2.1 16
  have hl2 := hr2.len
  have hh := hR.2.2.2.1
  obtain ⟨M2, k1, k2, k3⟩ := m_settles_L117 n hn (k := R.2.1) (by omega) _ n M1 (settleN R.2.2.1 16 l) rfl (by omega) (by omega) (by rw [(g3 0 3 (mk_MC 3 (by decide))).1]; exact hC.2.1) g2
  exact ⟨M2, by unfold X_Model_settles; rw [g1]; exact k1, k2, g3.trans k3⟩
