/-! ROWS AS LISTS: the class's Row -/
theorem bitCount_eq (n : Nat) {k : Nat} (h : k < 65536) (M : Mem) : X_Integer_bitCount n (nI k) M = some (nI (popN 16 k), M) := by
  have e1 : (1 : Int32) = nI 1 := rfl
  have e2 : (2 : Int32) = nI 2 := rfl
  have e4 : (4 : Int32) = nI 4 := rfl
  have e8 : (8 : Int32) = nI 8 := rfl
  have e16 : (16 : Int32) = nI 16 := rfl
  have m1 : (1431655765 : Int32) = nI 1431655765 := rfl
  have m2 : (858993459 : Int32) = nI 858993459 := rfl
  have m3 : (252645135 : Int32) = nI 252645135 := rfl
  have m4 : (63 : Int32) = nI 63 := rfl
  have q1 : (k / 2 ^ 1) &&& 1431655765 ≤ k := Nat.le_trans Nat.and_le_left (by omega)
  rw [← swar_pop h]
  unfold X_Integer_bitCount nm swar
  dsimp only
  rw [e1, e2, e4, e8, e16, m1, m2, m3, m4, i_ushr (by omega) (by decide), i_and, pk_sub q1]
  generalize ha : k - (k / 2 ^ 1 &&& 1431655765) = a
  have ha9 : a < 65536 := by omega
  rw [i_and, i_ushr (by omega) (by decide), i_and, nI_add]
  have hb9 : (a &&& 858993459) + (a / 2 ^ 2 &&& 858993459) < 131072 := by
    have h1 : a &&& 858993459 ≤ a := Nat.and_le_left
    have h2 : a / 2 ^ 2 &&& 858993459 ≤ a / 2 ^ 2 := Nat.and_le_left
    omega
  generalize hb : (a &&& 858993459) + (a / 2 ^ 2 &&& 858993459) = b at hb9 ⊢
  rw [i_ushr (by omega) (by decide), nI_add, i_and]
  have hc9 : (b + b / 2 ^ 4) &&& 252645135 < 262144 := Nat.lt_of_le_of_lt Nat.and_le_left (by omega)
  generalize hc : (b + b / 2 ^ 4) &&& 252645135 = c at hc9 ⊢
  rw [i_ushr (by omega) (by decide), nI_add, i_ushr (by omega) (by decide), nI_add, i_and]
-- a row: things, the eldest first
def knN (l : List Nat) : Nat := l.foldr (fun t a => 2 ^ t ||| a) 0
def pkN (l : List Nat) : Nat := l.foldr (fun t a => t + 16 * a) 0
def Ro (l : List Nat) : Prop := l.Nodup ∧ ∀ t ∈ l, t < 16
theorem knN_bit (l : List Nat) (i : Nat) : (knN l).testBit i = decide (i ∈ l) := by
  induction l with
  | nil => simp [knN]
  | cons t l ih =>
    show (2 ^ t ||| knN l).testBit i = _
    rw [Nat.testBit_or, ih, Nat.testBit_two_pow]
    by_cases h : t = i
    · subst h; simp
    · have h2 : ¬ i = t := fun q => h q.symm
      simp [h, h2]
theorem knN_lt {l : List Nat} (h : ∀ t ∈ l, t < 16) : knN l < 65536 := by
  have : knN l < 2 ^ 16 := Nat.lt_pow_two_of_testBit _ (fun i hi => by
    rw [knN_bit]
    simp only [decide_eq_false_iff_not]
    intro hm
    have := h i hm
    omega)
  exact this
theorem knN_ext {l m : List Nat} (h : ∀ t, t ∈ l ↔ t ∈ m) : knN l = knN m := by
  apply Nat.eq_of_testBit_eq
  intro i
  rw [knN_bit, knN_bit]
  simp [h i]
theorem popN_or {t k : Nat} (h : k.testBit t = false) : ∀ n, popN n (2 ^ t ||| k) = popN n k + (if t < n then 1 else 0)
  | 0 => rfl
  | n + 1 => by
    show (if (2 ^ t ||| k).testBit n then 1 else 0) + popN n (2 ^ t ||| k) = (if k.testBit n then 1 else 0) + popN n k + _
    rw [popN_or h n, Nat.testBit_or, Nat.testBit_two_pow]
    by_cases e : t = n
    · subst e
      simp [h]
      omega
    · by_cases e2 : t < n
      · have : t < n + 1 := by omega
        simp [e, e2, this]
        omega
      · have : ¬ t < n + 1 := by omega
        simp [e, e2, this]
theorem pop_knN {l : List Nat} (h : Ro l) : popN 16 (knN l) = l.length := by
  induction l with
  | nil => decide
  | cons t l ih =>
    obtain ⟨h1, h2⟩ := h
    have hn := List.nodup_cons.mp h1
    show popN 16 (2 ^ t ||| knN l) = l.length + 1
    rw [popN_or (by rw [knN_bit]; simp [hn.1]) 16, ih ⟨hn.2, fun x hx => h2 x (List.mem_cons_of_mem _ hx)⟩, if_pos (h2 t List.mem_cons_self)]
theorem popN_le (k : Nat) : ∀ n, popN n k ≤ n
  | 0 => Nat.le_refl _
  | n + 1 => by
    show (if k.testBit n then 1 else 0) + popN n k ≤ n + 1
    have := popN_le k n
    split <;> omega
theorem Ro.len {l : List Nat} (h : Ro l) : l.length ≤ 16 := by
  rw [← pop_knN h]
  exact popN_le _ _
theorem pkN_lt {l : List Nat} (h : ∀ t ∈ l, t < 16) : pkN l < 16 ^ l.length := by
  induction l with
  | nil => decide
  | cons t l ih =>
    have h1 := ih (fun x hx => h x (List.mem_cons_of_mem _ hx))
    have h2 := h t List.mem_cons_self
    show t + 16 * pkN l < 16 ^ (l.length + 1)
    rw [Nat.pow_succ]
    omega
theorem pkN_get {l : List Nat} (h : ∀ t ∈ l, t < 16) : ∀ {i : Nat} (hi : i < l.length), pkN l / 16 ^ i % 16 = l[i] := by
  induction l with
  | nil => intro i hi; simp at hi
  | cons t l ih =>
    intro i hi
    have h2 := h t List.mem_cons_self
    show (t + 16 * pkN l) / 16 ^ i % 16 = _
    match i with
    | 0 => simp; omega
    | i + 1 =>
      have := ih (fun x hx => h x (List.mem_cons_of_mem _ hx)) (i := i) (by simpa using hi)
      rw [Nat.pow_succ, Nat.mul_comm (16 ^ i) 16, ← Nat.div_div_eq_div_mul, show (t + 16 * pkN l) / 16 = pkN l by omega, this]
      rfl
theorem pkN_app (l : List Nat) (t : Nat) : pkN (l ++ [t]) = pkN l + 16 ^ l.length * t := by
  induction l with
  | nil => simp [pkN]
  | cons a l ih =>
    show a + 16 * pkN (l ++ [t]) = a + 16 * pkN l + 16 ^ (l.length + 1) * t
    rw [ih, Nat.pow_succ, Nat.mul_add, show 16 ^ l.length * 16 * t = 16 * (16 ^ l.length * t) by rw [Nat.mul_comm (16 ^ l.length) 16, Nat.mul_assoc]]
    omega
theorem pkN_cat (l m : List Nat) : pkN (l ++ m) = pkN l + 16 ^ l.length * pkN m := by
  induction l with
  | nil => simp [pkN]
  | cons a l ih =>
    show a + 16 * pkN (l ++ m) = a + 16 * pkN l + 16 ^ (l.length + 1) * pkN m
    rw [ih, Nat.pow_succ, Nat.mul_add, show 16 ^ l.length * 16 * pkN m = 16 * (16 ^ l.length * pkN m) by rw [Nat.mul_comm (16 ^ l.length) 16, Nat.mul_assoc]]
    omega
theorem knN_app (l : List Nat) (t : Nat) : knN (l ++ [t]) = knN l ||| 2 ^ t := by
  apply Nat.eq_of_testBit_eq
  intro i
  rw [Nat.testBit_or, knN_bit, knN_bit, Nat.testBit_two_pow]
  by_cases h : i = t
  · subst h; simp
  · have h2 : ¬ t = i := fun q => h q.symm
    simp [h, h2]
theorem p16 (i : Nat) : 16 ^ i = 2 ^ (4 * i) := by rw [show (16 : Nat) = 2 ^ 4 from rfl, ← Nat.pow_mul]
theorem and1 (k : Nat) : k &&& 1 = k % 2 := Nat.and_one_is_mod k
theorem bitv {k t : Nat} : k / 2 ^ t % 2 = if k.testBit t then 1 else 0 := by
  rw [Nat.testBit_eq_decide_div_mod_eq]
  by_cases h : k / 2 ^ t % 2 = 1
  · simp [h]
  · have : k / 2 ^ t % 2 = 0 := by omega
    simp [this]
theorem bit_iu {k t : Nat} (hk : k < 2 ^ 32) (ht : t < 32) : (((nI k).toUInt32 >>> ((nI t).toUInt32 &&& Int32.toUInt32 31)).toInt32 &&& 1) = if k.testBit t then 1 else 0 := by
  rw [i_ushr hk ht, show (1 : Int32) = nI 1 from rfl, i_and, and1, bitv]
  by_cases h : k.testBit t <;> simp [h] <;> rfl
theorem bit_is {k t : Nat} (hk : k < 2 ^ 31) (ht : t < 32) : (nI k >>> (nI t &&& 31) &&& 1) = if k.testBit t then 1 else 0 := by
  rw [i_shr hk ht, show (1 : Int32) = nI 1 from rfl, i_and, and1, bitv]
  by_cases h : k.testBit t <;> simp [h] <;> rfl
theorem bit0 (b : Bool) : ((if b then 1 else 0 : Int32) = 0) ↔ b = false := by cases b <;> decide
-- the class's Row o holds l
def RowAt (M : Mem) (o : Nat) (l : List Nat) : Prop := M.2 o 0 = lN (pkN l) ∧ M.1 o 1 = nI (knN l)
def stR (M : Mem) (o : Nat) (l : List Nat) : Mem := si (sl M o 0 (lN (pkN l))) o 1 (nI (knN l))
theorem si_id {M : Mem} {a k : Nat} {v : Int32} (h : M.1 a k = v) : si M a k v = M := by
  unfold si
  apply Prod.ext
  · funext x y
    show (if x = a ∧ y = k then v else M.1 x y) = M.1 x y
    by_cases e : x = a ∧ y = k
    · rw [if_pos e, e.1, e.2, h]
    · rw [if_neg e]
  · rfl
theorem sl_id {M : Mem} {a k : Nat} {v : Int64} (h : M.2 a k = v) : sl M a k v = M := by
  unfold sl
  apply Prod.ext
  · rfl
  · funext x y
    show (if x = a ∧ y = k then v else M.2 x y) = M.2 x y
    by_cases e : x = a ∧ y = k
    · rw [if_pos e, e.1, e.2, h]
    · rw [if_neg e]
theorem stR_id {M : Mem} {o : Nat} {l : List Nat} (h : RowAt M o l) : stR M o l = M := by
  unfold stR
  rw [sl_id h.1, si_id h.2]
theorem stR_at (M : Mem) (o : Nat) (l : List Nat) : RowAt (stR M o l) o l := by
  constructor <;> simp [stR, si, sl]
theorem stR_stR (M : Mem) (o : Nat) (l m : List Nat) : stR (stR M o l) o m = stR M o m := by
  unfold stR si sl
  apply Prod.ext
  · funext x y
    dsimp only
    by_cases e : x = o ∧ y = 1
    · rw [if_pos e, if_pos e]
    · rw [if_neg e, if_neg e, if_neg e]
  · funext x y
    dsimp only
    by_cases e : x = o ∧ y = 0
    · rw [if_pos e, if_pos e]
    · rw [if_neg e, if_neg e, if_neg e]
theorem stR_off {M : Mem} {o a : Nat} {l : List Nat} (h : a ≠ o) : (stR M o l).1 a = M.1 a ∧ (stR M o l).2 a = M.2 a := by
  constructor <;> funext y <;> simp [stR, si, sl, h]
def addT (l : List Nat) (t : Nat) : List Nat := if t ∈ l then l else l ++ [t]
theorem Ro.addT {l : List Nat} (h : Ro l) {t : Nat} (ht : t < 16) : Ro (addT l t) := by
  show Ro (if t ∈ l then l else l ++ [t])
  by_cases e : t ∈ l
  · rw [if_pos e]; exact h
  · rw [if_neg e]
    refine ⟨List.nodup_append.mpr ⟨h.1, by simp, fun a ha b hb => ?_⟩, fun x hx => ?_⟩
    · rw [List.mem_singleton.mp hb]
      intro q
      exact e (q ▸ ha)
    · rcases List.mem_append.mp hx with hx | hx
      · exact h.2 x hx
      · rw [List.mem_singleton.mp hx]; exact ht
theorem row_add (n : Nat) {o : Nat} {M : Mem} {l : List Nat} {t : Nat} (hM : RowAt M o l) (h : Ro l) (ht : t < 16) : X_Row_add n o (nI t) M = some ((), stR M o (addT l t)) := by
  have hk := knN_lt h.2
  unfold X_Row_add nm
  rw [hM.2, bit_iu (by omega) (by omega), knN_bit, bitCount_eq n hk, pop_knN h]
  unfold addT
  by_cases e : t ∈ l
  · rw [if_pos e, if_neg (by simp [e]), stR_id hM]
  · rw [if_neg e, if_pos (by simp [e])]
    have hlen : l.length < 16 := by
      have := (h.addT ht).len
      unfold addT at this
      rw [if_neg e, List.length_append] at this
      simp only [List.length_singleton] at this
      omega
    show some ((), _) = _
    congr 2
    have hp := pkN_lt h.2
    rw [hM.1, show ((sl M o 0 (lN (pkN l) ||| (nI t).toInt64 <<< ((4 * nI l.length).toInt64 &&& 63))).1 o 1) = nI (knN l) from hM.2, l_i (by omega), show (4 : Int32) = nI 4 from rfl, pk_mul, l_shl _ (by omega), l_or, i_shl1 (by omega), i_or]
    unfold stR
    rw [pkN_app, knN_app, show pkN l ||| t * 2 ^ (4 * l.length) = pkN l + 16 ^ l.length * t by
      rw [p16, Nat.or_comm, Nat.mul_comm t, ← Nat.two_pow_add_eq_or_of_lt (by rw [← p16]; exact hp), Nat.add_comm]]
def encN (l : List Nat) : Nat := pkN l + 2 ^ 36 * knN l
def enc (l : List Nat) : Int64 := lN (encN l)
theorem pk36 {l : List Nat} (h : Ro l) (hl : l.length ≤ 9) : pkN l < 2 ^ 36 := Nat.lt_of_lt_of_le (pkN_lt h.2) (by
  rw [p16]
  exact Nat.pow_le_pow_right (by decide) (by omega))
theorem encN_lt {l : List Nat} (h : Ro l) (hl : l.length ≤ 9) : encN l < 2 ^ 52 := by
  have h1 := pk36 h hl
  have h2 := knN_lt h.2
  unfold encN
  omega
theorem row_take (n : Nat) {o : Nat} {M : Mem} {l : List Nat} (h : Ro l) (hl : l.length ≤ 9) : X_Row_take n o (enc l) M = some ((), stR M o l) := by
  have h1 := pk36 h hl
  have h2 := encN_lt h hl
  unfold X_Row_take enc stR
  rw [show (68719476735 : Int64) = lN 68719476735 from rfl, l_and, show (36 : Int32) = nI 36 from rfl, l_ushr (by omega) (by decide), l_to, show (68719476735 : Nat) = 2 ^ 36 - 1 from rfl, Nat.and_two_pow_sub_one_eq_mod]
  unfold encN
  rw [show (pkN l + 2 ^ 36 * knN l) % 2 ^ 36 = pkN l by omega, show (pkN l + 2 ^ 36 * knN l) / 2 ^ 36 = knN l by omega]
theorem row_known (n : Nat) {M : Mem} {l : List Nat} (h : Ro l) (hl : l.length ≤ 9) : X_Row_knownOf n (enc l) M = some (nI (knN l), M) := by
  have h1 := pk36 h hl
  have h2 := encN_lt h hl
  unfold X_Row_knownOf enc
  rw [show (36 : Int32) = nI 36 from rfl, l_ushr (by omega) (by decide), l_to]
  unfold encN
  rw [show (pkN l + 2 ^ 36 * knN l) / 2 ^ 36 = knN l by omega]
theorem enc_known {l : List Nat} (h : Ro l) (hl : l.length ≤ 9) : ((((enc l).toUInt64 >>> ((36 : Int32).toInt64.toUInt64 &&& Int64.toUInt64 63)).toInt64) : Int64).toInt32 = nI (knN l) := by
  have := row_known 0 (M := zM) h hl
  unfold X_Row_knownOf at this
  exact (Prod.mk.inj (Option.some.inj this)).1
theorem row_size (n : Nat) {M : Mem} {l : List Nat} (h : Ro l) (hl : l.length ≤ 9) : X_Row_sizeOf n (enc l) M = some (nI l.length, M) := by
  unfold X_Row_sizeOf
  rw [enc_known h hl, bitCount_eq n (knN_lt h.2), pop_knN h]
  rfl
theorem enc_thing {l : List Nat} (h : Ro l) (hl : l.length ≤ 9) {i : Nat} (hi : i < l.length) : ((((enc l).toUInt64 >>> (((4 : Int32) * nI i).toInt64.toUInt64 &&& Int64.toUInt64 63)).toInt64) : Int64).toInt32 &&& 15 = nI (l[i]) := by
  have h2 := encN_lt h hl
  rw [show (4 : Int32) = nI 4 from rfl, pk_mul]
  unfold enc
  rw [l_ushr (by omega) (by omega), l_to, show (15 : Int32) = nI (2 ^ 4 - 1) from rfl, i_and, Nat.and_two_pow_sub_one_eq_mod, ← pkN_get h.2 hi]
  unfold encN
  congr 1
  have hq : 2 ^ 36 * knN l = 16 ^ i * (16 * (16 ^ (8 - i) * knN l)) := by
    rw [← Nat.mul_assoc, ← Nat.mul_assoc, ← Nat.pow_succ, ← Nat.pow_add, show i + 1 + (8 - i) = 9 by omega]
  rw [hq, ← p16, Nat.add_mul_div_left _ _ (by rw [p16]; exact Nat.two_pow_pos _), show (2 : Nat) ^ 4 = 16 from rfl, Nat.add_mul_mod_self_left]
theorem row_thing (n : Nat) {M : Mem} {l : List Nat} (h : Ro l) (hl : l.length ≤ 9) {i : Nat} (hi : i < l.length) : X_Row_thingOf n (enc l) (nI i) M = some (nI (l[i]), M) := by
  unfold X_Row_thingOf
  rw [enc_thing h hl hi]
theorem enc_bit {l : List Nat} (h : Ro l) (hl : l.length ≤ 9) {t : Nat} (ht : t < 16) : ((enc l).toUInt64 >>> (((36 : Int32) + nI t).toInt64.toUInt64 &&& Int64.toUInt64 63)).toInt64 &&& 1 = lN (if t ∈ l then 1 else 0) := by
  have h1 := pk36 h hl
  have h2 := encN_lt h hl
  rw [show (36 : Int32) = nI 36 from rfl, nI_add]
  unfold enc
  rw [l_ushr (by omega) (by omega), show (1 : Int64) = lN 1 from rfl, l_and, and1]
  unfold encN
  congr 1
  rw [Nat.pow_add, ← Nat.div_div_eq_div_mul, show (pkN l + 2 ^ 36 * knN l) / 2 ^ 36 = knN l by omega, bitv, knN_bit]
  by_cases e : t ∈ l <;> simp [e]
theorem row_knowsIt (n : Nat) {M : Mem} {l : List Nat} (h : Ro l) (hl : l.length ≤ 9) {t : Nat} (ht : t < 16) : X_Row_knowsIt n (enc l) (nI t) M = some (if t ∈ l then 1 else 0, M) := by
  unfold X_Row_knowsIt
  rw [enc_bit h hl ht]
  by_cases e : t ∈ l
  · rw [if_pos e, if_pos e, if_neg (by rw [l_cmp0]; decide)]
  · rw [if_neg e, if_neg e, if_pos (by rw [l_cmp0]; rfl)]
theorem row_atRest (n : Nat) {o : Nat} {M : Mem} {l : List Nat} (hM : RowAt M o l) (h : Ro l) (hl : l.length ≤ 9) : X_Row_atRest n o M = some (enc l, M) := by
  have h1 := pk36 h hl
  have h2 := knN_lt h.2
  unfold X_Row_atRest enc
  rw [hM.1, hM.2, show (68719476735 : Int64) = lN 68719476735 from rfl, l_and, show (36 : Int32) = nI 36 from rfl, l_i (by omega), l_shl _ (by decide), l_or, show (68719476735 : Nat) = 2 ^ 36 - 1 from rfl, Nat.and_two_pow_sub_one_eq_mod, Nat.mod_eq_of_lt h1]
  unfold encN
  rw [Nat.or_comm, Nat.mul_comm (knN l), ← Nat.two_pow_add_eq_or_of_lt h1, Nat.add_comm]
def mergeT (l m : List Nat) : List Nat := m.foldl addT l
theorem Ro.merge {l m : List Nat} (h : Ro l) (hm : ∀ t ∈ m, t < 16) : Ro (mergeT l m) := by
  induction m generalizing l with
  | nil => exact h
  | cons t m ih => exact ih (h.addT (hm t List.mem_cons_self)) (fun x hx => hm x (List.mem_cons_of_mem _ hx))
theorem row_addAll_L (n : Nat) {o : Nat} {m : List Nat} (hm : Ro m) (hml : m.length ≤ 9) : ∀ (k i f : Nat) (M : Mem) (l : List Nat), m.length - i = k → i ≤ m.length → k < f → RowAt M o l → Ro l → X_Row_addAll_L12 n o (enc m) (nI m.length) f (nI i) M = some ((), stR M o (mergeT l (m.drop i))) := by
  intro k
  induction k with
  | zero =>
    intro i f M l hk hi hf hM hl
    obtain ⟨f, rfl⟩ : ∃ g, f = g + 1 := ⟨f - 1, by omega⟩
    have e : i = m.length := by omega
    subst e
    show (if nI m.length ≤ nI m.length then some ((), M) else _) = _
    rw [if_pos (nI_le (Nat.le_refl _) (by omega)), List.drop_length]
    show some ((), M) = some ((), stR M o l)
    rw [stR_id hM]
  | succ k ih =>
    intro i f M l hk hi hf hM hl
    obtain ⟨f, rfl⟩ : ∃ g, f = g + 1 := ⟨f - 1, by omega⟩
    have hi2 : i < m.length := by omega
    show (if nI m.length ≤ nI i then some ((), M) else _) = _
    rw [if_neg (nI_ge hi2 (by omega)), enc_thing hm hml hi2, row_add n hM hl (hm.2 _ (List.getElem_mem hi2))]
    show X_Row_addAll_L12 n o (enc m) (nI m.length) f (nI i + 1) (stR M o (addT l m[i])) = _
    rw [nI_1, ih (i + 1) f _ (addT l m[i]) (by omega) (by omega) (by omega) (stR_at _ _ _) (hl.addT (hm.2 _ (List.getElem_mem hi2))), stR_stR, List.drop_eq_getElem_cons hi2]
    rfl
theorem row_addAll (n : Nat) (hn : 16 ≤ n) {o : Nat} {M : Mem} {l m : List Nat} (hM : RowAt M o l) (hl : Ro l) (hm : Ro m) (hml : m.length ≤ 9) : X_Row_addAll n o (enc m) M = some ((), stR M o (mergeT l m)) := by
  unfold X_Row_addAll
  rw [enc_known hm hml, bitCount_eq n (knN_lt hm.2), pop_knN hm]
  exact row_addAll_L n hm hml m.length 0 n M l rfl (Nat.zero_le _) (by omega) hM hl
theorem i_not {k t : Nat} (ht : t < 16) (hb : k.testBit t = true) (hk : k < 65536) : nI k &&& (((1 : Int32) <<< (nI t &&& 31)) ^^^ (-1)) = nI (k ^^^ 2 ^ t) := by
  rw [i_shl1 (by omega), show (-1 : Int32) = nI (2 ^ 32 - 1) from by decide, i_xor, i_and]
  congr 1
  apply Nat.eq_of_testBit_eq
  intro i
  rw [Nat.testBit_and, Nat.testBit_xor, Nat.testBit_two_pow_sub_one, Nat.testBit_xor, Nat.testBit_two_pow]
  by_cases h : t = i
  · subst h
    have : t < 32 := by omega
    simp [hb, this]
  · by_cases h32 : i < 32
    · simp [h, h32]
    · have : k.testBit i = false := Nat.testBit_lt_two_pow (Nat.lt_of_lt_of_le hk (by
        have : 2 ^ 16 ≤ 2 ^ i := Nat.pow_le_pow_right (by decide) (by omega)
        omega))
      simp [h, this]
theorem knN_rem {l1 l2 : List Nat} {t : Nat} (h : (l1 ++ t :: l2).Nodup) : knN (l1 ++ t :: l2) ^^^ 2 ^ t = knN (l1 ++ l2) := by
  have h1 : t ∉ l1 ++ l2 := by
    have := (List.perm_middle (a := t) (l₁ := l1) (l₂ := l2)).nodup_iff.mp h
    exact (List.nodup_cons.mp this).1
  apply Nat.eq_of_testBit_eq
  intro i
  rw [Nat.testBit_xor, knN_bit, knN_bit, Nat.testBit_two_pow]
  by_cases e : t = i
  · subst e
    simp [h1] at h1 ⊢
  · have e2 : ¬ i = t := fun q => e q.symm
    simp [e, e2]
theorem Ro.rem {l1 l2 : List Nat} {t : Nat} (h : Ro (l1 ++ t :: l2)) : Ro (l1 ++ l2) := by
  refine ⟨?_, fun x hx => h.2 x ?_⟩
  · have := (List.perm_middle (a := t) (l₁ := l1) (l₂ := l2)).nodup_iff.mp h.1
    exact (List.nodup_cons.mp this).2
  · rcases List.mem_append.mp hx with hx | hx
    · exact List.mem_append_left _ hx
    · exact List.mem_append_right _ (List.mem_cons_of_mem _ hx)
theorem erase_mid {l1 l2 : List Nat} {t : Nat} (h : t ∉ l1) : (l1 ++ t :: l2).erase t = l1 ++ l2 := by
  rw [List.erase_append_right _ h, List.erase_cons_head]
theorem mem_first {l : List Nat} {t : Nat} (h : t ∈ l) : ∃ a b, l = a ++ t :: b ∧ t ∉ a := by
  induction l with
  | nil => simp at h
  | cons x l ih =>
    by_cases e : t = x
    · subst e; exact ⟨[], l, rfl, by simp⟩
    · have hm : t ∈ l := by
        rcases List.mem_cons.mp h with q | q
        · exact absurd q e
        · exact q
      obtain ⟨a, b, e1, e2⟩ := ih hm
      exact ⟨x :: a, b, by rw [e1]; rfl, by simp [e, e2]⟩
theorem row_drop (n : Nat) (hn : 17 ≤ n) {o : Nat} {M : Mem} {l : List Nat} {t : Nat} (hM : RowAt M o l) (h : Ro l) (ht : t ∈ l) : X_Row_drop n o (nI t) M = some ((), stR M o (l.erase t)) := by
  have ht16 := h.2 t ht
  have hk := knN_lt h.2
  have hlen := h.len
  unfold X_Row_drop
  rw [hM.2, bitCount_eq n hk, pop_knN h]
  show X_Row_drop_L10 _ _ _ _ _ _ _ _ = _
  obtain ⟨l1, l2, he, hn1⟩ := mem_first ht
  generalize hkx : (fun y3 : Int32 => _) = kx
  have key : ∀ (d i f : Nat), l1.length - i = d → i ≤ l1.length → d < f → X_Row_drop_L10 n o (nI t) (nI l.length) kx M f (nI i) = kx (nI l1.length) := by
    intro d
    induction d with
    | zero =>
      intro i f h1 h2 h3
      obtain ⟨f, rfl⟩ : ∃ g, f = g + 1 := ⟨f - 1, by omega⟩
      have ei : i = l1.length := by omega
      subst ei
      have hil : l1.length < l.length := by rw [he]; simp
      show (if nI l.length ≤ nI l1.length then some ((), M) else _) = _
      rw [if_neg (nI_ge hil (by omega)), hM.1, show (4 : Int32) = nI 4 from rfl, pk_mul, l_ushr (by have := pkN_lt h.2; have e2 : 16 ^ l.length ≤ 16 ^ 16 := Nat.pow_le_pow_right (by decide) hlen; omega) (by omega), show (15 : Int64) = lN (2 ^ 4 - 1) from rfl, l_and, Nat.and_two_pow_sub_one_eq_mod, l_i (by omega), ← p16, show (2 : Nat) ^ 4 = 16 from rfl, pkN_get h.2 hil, if_pos]
      rw [l_cmp0]
      congr 1
      simp [he]
    | succ d ih =>
      intro i f h1 h2 h3
      obtain ⟨f, rfl⟩ : ∃ g, f = g + 1 := ⟨f - 1, by omega⟩
      have hil : i < l.length := by rw [he]; simp; omega
      show (if nI l.length ≤ nI i then some ((), M) else _) = _
      rw [if_neg (nI_ge hil (by omega)), hM.1, show (4 : Int32) = nI 4 from rfl, pk_mul, l_ushr (by have := pkN_lt h.2; have e2 : 16 ^ l.length ≤ 16 ^ 16 := Nat.pow_le_pow_right (by decide) hlen; omega) (by omega), show (15 : Int64) = lN (2 ^ 4 - 1) from rfl, l_and, Nat.and_two_pow_sub_one_eq_mod, l_i (by omega), ← p16, show (2 : Nat) ^ 4 = 16 from rfl, pkN_get h.2 hil, if_neg]
      · rw [nI_1]
        exact ih (i + 1) f (by omega) (by omega) (by omega)
      · rw [l_cmp0]
        intro q
        have hx16 := h.2 _ (List.getElem_mem hil)
        have q2 := (l_eq (by omega) (by omega)).mp q
        have hi1 : i < l1.length := by omega
        have : l[i] = l1[i] := by simp [he, List.getElem_append_left hi1]
        exact hn1 (by rw [← q2, this]; exact List.getElem_mem hi1)
  have h0 := key l1.length 0 n rfl (Nat.zero_le _) (by
    have : l1.length < l.length := by rw [he]; simp
    omega)
  rw [show (0 : Int32) = nI 0 from rfl, h0, ← hkx]
  unfold nm
  dsimp only
  have hp := pkN_lt h.2
  have hl1 : l1.length < 16 := by
    have : l1.length < l.length := by rw [he]; simp
    omega
  have hp64 : pkN l < 2 ^ 64 := by
    have e2 : 16 ^ l.length ≤ 16 ^ 16 := Nat.pow_le_pow_right (by decide) hlen
    omega
  have hb : (knN l).testBit t = true := by rw [knN_bit]; simp [ht]
  rw [show ∀ x, (sl M o 0 x).1 o 1 = nI (knN l) from fun x => hM.2, hM.1, i_not ht16 hb hk]
  have hp1 : pkN l1 < 16 ^ l1.length := pkN_lt (fun x hx => h.2 x (by rw [he]; exact List.mem_append_left _ hx))
  have hsplit : pkN l = 16 ^ l1.length * (t + 16 * pkN l2) + pkN l1 := by
    rw [he, pkN_cat, Nat.add_comm]
    rfl
  have hd1 : pkN l / 2 ^ (4 * l1.length) = t + 16 * pkN l2 := by
    rw [← p16, hsplit, Nat.mul_add_div (by rw [p16]; exact Nat.two_pow_pos _), Nat.div_eq_of_lt hp1, Nat.add_zero]
  have hm1 : pkN l % 2 ^ (4 * l1.length) = pkN l1 := by
    rw [← p16, hsplit, Nat.mul_add_mod, Nat.mod_eq_of_lt hp1]
  rw [show (4 : Int32) = nI 4 from rfl, pk_mul, l_ushr hp64 (by omega), hd1, l_ushr (by rw [← hd1]; exact Nat.lt_of_le_of_lt (Nat.div_le_self _ _) hp64) (by decide), show (t + 16 * pkN l2) / 2 ^ 4 = pkN l2 by omega, l_shl _ (by omega)]
  have hmask : ((1 : Int64) <<< ((nI (4 * l1.length)).toInt64 &&& 63)) - 1 = lN (2 ^ (4 * l1.length) - 1) := by
    have := l_shl 1 (k := 4 * l1.length) (by omega)
    rw [Nat.one_mul] at this
    rw [show (1 : Int64) <<< ((nI (4 * l1.length)).toInt64 &&& 63) = lN (2 ^ (4 * l1.length)) from this, show (1 : Int64) = lN 1 from rfl, lN_sub (Nat.one_le_two_pow)]
  rw [hmask, l_and, Nat.and_two_pow_sub_one_eq_mod, hm1, l_or]
  have hpk : pkN l2 * 2 ^ (4 * l1.length) ||| pkN l1 = pkN (l1 ++ l2) := by
    rw [Nat.mul_comm, ← Nat.two_pow_add_eq_or_of_lt (by rw [← p16]; exact hp1), pkN_cat, p16, Nat.add_comm]
  rw [hpk]
  have hke : knN l ^^^ 2 ^ t = knN (l1 ++ l2) := by
    have := h.1
    rw [he] at this ⊢
    exact knN_rem this
  rw [hke, he, erase_mid hn1]
  rfl
def cutT (k : Nat) (l : List Nat) : List Nat := l.drop (l.length - k)
theorem row_shorten_L (n : Nat) {o : Nat} : ∀ (d f : Nat) (M : Mem) (l : List Nat), d < f → d ≤ l.length → RowAt M o l → Ro l → X_Row_shorten_L10 n o f (nI d) M = some ((), stR M o (l.drop d)) := by
  intro d
  induction d with
  | zero =>
    intro f M l h1 h2 hM h
    obtain ⟨f, rfl⟩ : ∃ g, f = g + 1 := ⟨f - 1, by omega⟩
    show (if nI 0 ≤ 0 then some ((), M) else _) = _
    rw [if_pos (by decide), List.drop_zero, stR_id hM]
  | succ d ih =>
    intro f M l h1 h2 hM h
    obtain ⟨f, rfl⟩ : ∃ g, f = g + 1 := ⟨f - 1, by omega⟩
    have hlen := h.len
    obtain ⟨t, l, rfl⟩ : ∃ t m, l = t :: m := by
      cases l with
      | nil => simp at h2
      | cons t m => exact ⟨t, m, rfl⟩
    have ht := h.2 t List.mem_cons_self
    have hRl : Ro l := ⟨(List.nodup_cons.mp h.1).2, fun x hx => h.2 x (List.mem_cons_of_mem _ hx)⟩
    have hp := pkN_lt h.2
    have hp64 : pkN (t :: l) < 2 ^ 64 := by
      have e2 : 16 ^ (t :: l).length ≤ 16 ^ 16 := Nat.pow_le_pow_right (by decide) hlen
      omega
    have hb : (knN (t :: l)).testBit t = true := by rw [knN_bit]; simp
    show (if nI (d + 1) ≤ 0 then some ((), M) else nm _ _) = _
    rw [if_neg (nI_nle (by omega) (by simp at h2 hlen; omega))]
    unfold nm
    have ep : pkN (t :: l) = t + 16 * pkN l := rfl
    have e0 : (lN (pkN (t :: l)) &&& 15 : Int64).toInt32 = nI t := by
      rw [show (15 : Int64) = lN (2 ^ 4 - 1) from rfl, l_and, Nat.and_two_pow_sub_one_eq_mod, l_to, ep]
      congr 1
      omega
    rw [hM.1, hM.2, e0, i_not ht hb (knN_lt h.2)]
    have e1 : knN (t :: l) ^^^ 2 ^ t = knN l := knN_rem (l1 := []) (l2 := l) (t := t) h.1
    rw [e1]
    show X_Row_shorten_L10 n o f (nI (d + 1) + (-1)) (sl (si M o 1 (nI (knN l))) o 0 (((si M o 1 (nI (knN l))).2 o 0).toUInt64 >>> ((4 : Int32).toInt64.toUInt64 &&& Int64.toUInt64 63)).toInt64) = _
    rw [show (si M o 1 (nI (knN l))).2 o 0 = lN (pkN (t :: l)) from hM.1, show (4 : Int32) = nI 4 from rfl, l_ushr hp64 (by decide), ep, show (t + 16 * pkN l) / 2 ^ 4 = pkN l by omega, pk_m1]
    have e2 : sl (si M o 1 (nI (knN l))) o 0 (lN (pkN l)) = stR M o l := rfl
    rw [e2, ih f _ l (by omega) (by simpa using h2) (stR_at _ _ _) hRl, stR_stR]
    rfl
theorem row_shorten (n : Nat) (hn : 17 ≤ n) {o : Nat} {M : Mem} {l : List Nat} {k : Nat} (hM : RowAt M o l) (h : Ro l) (hk : k < 100) : X_Row_shorten n o (nI k) M = some ((), stR M o (cutT k l)) := by
  have hlen := h.len
  unfold X_Row_shorten
  rw [hM.2, bitCount_eq n (knN_lt h.2), pop_knN h]
  unfold cutT
  show X_Row_shorten_L10 n o n (nI l.length - nI k) M = _
  by_cases e : k ≤ l.length
  · rw [pk_sub e]
    exact row_shorten_L n _ n M l (by omega) (by omega) hM h
  · obtain ⟨n, rfl⟩ : ∃ g, n = g + 1 := ⟨n - 1, by omega⟩
    show (if nI l.length - nI k ≤ 0 then some ((), M) else _) = _
    have : (nI l.length - nI k).toInt ≤ (0 : Int32).toInt := by
      rw [pk_sub_toInt (by omega) (by omega)]
      show (l.length : Int) - k ≤ 0
      omega
    rw [if_pos (Int32.le_iff_toInt_le.mpr this), show l.length - k = 0 by omega, List.drop_zero, stR_id hM]
