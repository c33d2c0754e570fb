section
/-! NUMBERS: ints and longs as naturals; bits; bitCount -/
theorem nI_bv (n : Nat) : (nI n).toBitVec = BitVec.ofNat 32 n := rfl
theorem i32_ext {x y : Int32} (h : x.toBitVec = y.toBitVec) : x = y := Int32.toBitVec_inj.mp h
theorem i64_ext {x y : Int64} (h : x.toBitVec = y.toBitVec) : x = y := Int64.toBitVec_inj.mp h
theorem lN_tb (n : Nat) : (lN n).toBitVec = BitVec.ofNat 64 n := rfl
theorem i_and (a b : Nat) : nI a &&& nI b = nI (a &&& b) := i32_ext (by
  show (nI a).toBitVec &&& (nI b).toBitVec = BitVec.ofNat 32 (a &&& b)
  rw [nI_bv, nI_bv]
  apply BitVec.eq_of_toNat_eq
  simp only [BitVec.toNat_and, BitVec.toNat_ofNat]
  rw [Nat.and_mod_two_pow])
theorem i_or (a b : Nat) : nI a ||| nI b = nI (a ||| b) := i32_ext (by
  show (nI a).toBitVec ||| (nI b).toBitVec = BitVec.ofNat 32 (a ||| b)
  rw [nI_bv, nI_bv]
  apply BitVec.eq_of_toNat_eq
  simp only [BitVec.toNat_or, BitVec.toNat_ofNat]
  rw [Nat.or_mod_two_pow])
theorem i_xor (a b : Nat) : nI a ^^^ nI b = nI (a ^^^ b) := i32_ext (by
  show (nI a).toBitVec ^^^ (nI b).toBitVec = BitVec.ofNat 32 (a ^^^ b)
  rw [nI_bv, nI_bv]
  apply BitVec.eq_of_toNat_eq
  simp only [BitVec.toNat_xor, BitVec.toNat_ofNat]
  rw [Nat.xor_mod_two_pow])
theorem l_and (a b : Nat) : lN a &&& lN b = lN (a &&& b) := i64_ext (by
  show (lN a).toBitVec &&& (lN b).toBitVec = BitVec.ofNat 64 (a &&& b)
  rw [lN_tb, lN_tb]
  apply BitVec.eq_of_toNat_eq
  simp only [BitVec.toNat_and, BitVec.toNat_ofNat]
  rw [Nat.and_mod_two_pow])
theorem l_or (a b : Nat) : lN a ||| lN b = lN (a ||| b) := i64_ext (by
  show (lN a).toBitVec ||| (lN b).toBitVec = BitVec.ofNat 64 (a ||| b)
  rw [lN_tb, lN_tb]
  apply BitVec.eq_of_toNat_eq
  simp only [BitVec.toNat_or, BitVec.toNat_ofNat]
  rw [Nat.or_mod_two_pow])
theorem cnt_l : ∀ k : Nat, k < 64 → ((nI k).toInt64 &&& 63).toBitVec.smod 64 = BitVec.ofNat 64 k := by decide +kernel
theorem cnt_lu : ∀ k : Nat, k < 64 → (((nI k).toInt64.toUInt64 &&& Int64.toUInt64 63).toBitVec % 64).toNat = k := by decide +kernel
theorem cnt_i : ∀ k : Nat, k < 32 → ((nI k &&& 31).toBitVec.smod 32).toNat = k := by decide +kernel
theorem cnt_iu : ∀ k : Nat, k < 32 → (((nI k).toUInt32 &&& Int32.toUInt32 31).toBitVec % 32).toNat = k := by decide +kernel
theorem i_ushr {a k : Nat} (ha : a < 2 ^ 32) (hk : k < 32) : ((nI a).toUInt32 >>> ((nI k).toUInt32 &&& Int32.toUInt32 31)).toInt32 = nI (a / 2 ^ k) := pk_ushrN ha (nI k) k (cnt_iu k hk)
theorem i_shl {a k : Nat} (hk : k < 32) (h : a * 2 ^ k < 2 ^ 32) : nI a <<< (nI k &&& 31) = nI (a * 2 ^ k) := pk_shlN (nI k &&& 31) k (cnt_i k hk) h
theorem i_shl1 {k : Nat} (hk : k < 32) : (1 : Int32) <<< (nI k &&& 31) = nI (2 ^ k) := by
  have h := i_shl (a := 1) hk (by
    have := Nat.pow_lt_pow_right (a := 2) (by decide) hk
    omega)
  rw [Nat.one_mul] at h
  exact h
theorem i_shr {a k : Nat} (ha : a < 2 ^ 31) (hk : k < 32) : nI a >>> (nI k &&& 31) = nI (a / 2 ^ k) := pk_shrN ha (nI k &&& 31) k (cnt_i k hk)
theorem l_ushr {a k : Nat} (ha : a < 2 ^ 64) (hk : k < 64) : ((lN a).toUInt64 >>> ((nI k).toInt64.toUInt64 &&& Int64.toUInt64 63)).toInt64 = lN (a / 2 ^ k) := i64_ext (by
  apply BitVec.eq_of_toNat_eq
  show ((lN a).toBitVec >>> (((nI k).toInt64.toUInt64 &&& Int64.toUInt64 63).toBitVec % 64)).toNat = (BitVec.ofNat 64 (a / 2 ^ k)).toNat
  rw [BitVec.ushiftRight_eq', cnt_lu k hk, BitVec.toNat_ushiftRight, lN_tb, BitVec.toNat_ofNat, Nat.mod_eq_of_lt ha, BitVec.toNat_ofNat, Nat.shiftRight_eq_div_pow, Nat.mod_eq_of_lt (Nat.lt_of_le_of_lt (Nat.div_le_self _ _) ha)])
theorem l_shl (a : Nat) {k : Nat} (hk : k < 64) : lN a <<< ((nI k).toInt64 &&& 63) = lN (a * 2 ^ k) := i64_ext (by
  apply BitVec.eq_of_toNat_eq
  show ((lN a).toBitVec <<< (((nI k).toInt64 &&& 63).toBitVec.smod 64)).toNat = (BitVec.ofNat 64 (a * 2 ^ k)).toNat
  rw [cnt_l k hk, BitVec.shiftLeft_eq', BitVec.toNat_shiftLeft, lN_tb, BitVec.toNat_ofNat, BitVec.toNat_ofNat, BitVec.toNat_ofNat, Nat.mod_eq_of_lt (show k < 2 ^ 64 by omega), Nat.shiftLeft_eq, Nat.mod_mul_mod])
theorem l_i {a : Nat} (h : a < 2 ^ 31) : (nI a).toInt64 = lN a := nI_l h
theorem l_to (a : Nat) : (lN a).toInt32 = nI a := lN_i a
theorem i_eq {a b : Nat} (ha : a < 2 ^ 31) (hb : b < 2 ^ 31) : nI a = nI b ↔ a = b := nI_eq ha hb
theorem l_eq {a b : Nat} (ha : a < 2 ^ 63) (hb : b < 2 ^ 63) : lN a = lN b ↔ a = b := pk_lEQ ha hb
theorem l_cmp0 (x y : Int64) : lg_cmp x y = 0 ↔ x = y := by
  unfold lg_cmp
  constructor
  · intro h
    by_cases h1 : x > y
    · rw [if_pos h1] at h; exact absurd h (by decide)
    · rw [if_neg h1] at h
      by_cases h2 : x = y
      · exact h2
      · rw [if_neg h2] at h; exact absurd h (by decide)
  · intro h
    subst h
    rw [if_neg Int64.lt_irrefl, if_pos rfl]
-- how many bits: popN n k of the first n
def popN : Nat → Nat → Nat
  | 0, _ => 0
  | n + 1, k => (if k.testBit n then 1 else 0) + popN n k
def swar (k : Nat) : Nat :=
  let a := k - ((k / 2) &&& 1431655765)
  let b := (a &&& 858993459) + ((a / 4) &&& 858993459)
  let c := (b + b / 16) &&& 252645135
  let d := c + c / 256
  let e := d + d / 65536
  e &&& 63
theorem and_split {u p : Nat} (v q : Nat) (hu : u < 256) (hp : p < 256) : (256 * v + u) &&& (256 * q + p) = 256 * (v &&& q) + (u &&& p) := by
  apply Nat.eq_of_testBit_eq
  intro j
  have h1 := Nat.testBit_two_pow_mul_add v (i := 8) (b := u) hu j
  have h2 := Nat.testBit_two_pow_mul_add q (i := 8) (b := p) hp j
  have hup : u &&& p < 2 ^ 8 := Nat.lt_of_le_of_lt Nat.and_le_left hu
  have h3 := Nat.testBit_two_pow_mul_add (v &&& q) (i := 8) (b := u &&& p) hup j
  rw [show (256 : Nat) = 2 ^ 8 from rfl, Nat.testBit_and, h1, h2, h3]
  by_cases h : j < 8
  · simp [h]
  · simp [h]
def f1 (x : Nat) : Nat := x - ((x / 2) &&& 85)
def f2 (x : Nat) : Nat := (x &&& 51) + ((x / 4) &&& 51)
def f3 (x : Nat) : Nat := (x + x / 16) % 16
theorem f1_ok : ∀ x, x < 256 → ∀ b, b < 2 → ((x / 2 + 128 * b) &&& 85 = (x / 2) &&& 85) ∧ (x / 2) &&& 85 ≤ x ∧ f1 x < 256 ∧ f2 (f1 x) < 69 ∧ f2 (f1 x) % 16 < 5 ∧ f3 (f2 (f1 x)) = popN 8 x := by decide +kernel
theorem f2_ok : ∀ x, x < 256 → ∀ b, b < 4 → ((x / 4 + 64 * b) &&& 51 = (x / 4) &&& 51) := by decide +kernel
theorem popN_add (n : Nat) {x : Nat} (y : Nat) (hx : x < 256) : popN (8 + n) (256 * y + x) = popN 8 x + popN n y := by
  induction n with
  | zero =>
    show popN 8 (256 * y + x) = popN 8 x + 0
    have h : ∀ j, j < 8 → (256 * y + x).testBit j = x.testBit j := fun j hj => by
      rw [show (256 : Nat) = 2 ^ 8 from rfl, Nat.testBit_two_pow_mul_add y hx j, if_pos hj]
    simp [popN, h]
  | succ n ih =>
    show (if (256 * y + x).testBit (8 + n) then 1 else 0) + popN (8 + n) (256 * y + x) = popN 8 x + ((if y.testBit n then 1 else 0) + popN n y)
    have h := Nat.testBit_two_pow_mul_add y (i := 8) hx (8 + n)
    rw [if_neg (show ¬ 8 + n < 8 by omega), show 8 + n - 8 = n by omega] at h
    rw [ih, show (256 : Nat) = 2 ^ 8 from rfl, h]
    omega
theorem swar_pop {k : Nat} (h : k < 65536) : swar k = popN 16 k := by
  obtain ⟨x, y, hx, hy, rfl⟩ : ∃ x y, x < 256 ∧ y < 256 ∧ k = 256 * y + x := ⟨k % 256, k / 256, by omega, by omega, by omega⟩
  obtain ⟨a1, a2, a3, a4, a5, a6⟩ := f1_ok x hx (y % 2) (by omega)
  obtain ⟨b1, b2, b3, b4, b5, b6⟩ := f1_ok y hy 0 (by decide)
  have c1 := f2_ok (f1 x) a3 (f1 y % 4) (by omega)
  rw [show (16 : Nat) = 8 + 8 from rfl, popN_add 8 y hx, ← a6, ← b6]
  have d1 : (256 * y + x) / 2 &&& 1431655765 = 256 * ((y / 2) &&& 85) + ((x / 2) &&& 85) := by
    rw [show (256 * y + x) / 2 = 256 * (y / 2) + (x / 2 + 128 * (y % 2)) by omega, show (1431655765 : Nat) = 256 * 5592405 + 85 from rfl, and_split _ _ (by omega) (by decide), a1]
    congr 2
    rw [show (5592405 : Nat) = 256 * 21845 + 85 from rfl]
    have := and_split (u := y / 2) (p := 85) 0 21845 (by omega) (by decide)
    simpa using this
  have d2 : (256 * y + x) - (256 * ((y / 2) &&& 85) + ((x / 2) &&& 85)) = 256 * f1 y + f1 x := by
    unfold f1
    omega
  have d3 : (256 * f1 y + f1 x) &&& 858993459 = 256 * (f1 y &&& 51) + (f1 x &&& 51) := by
    rw [show (858993459 : Nat) = 256 * 3355443 + 51 from rfl, and_split _ _ a3 (by decide)]
    congr 2
    rw [show (3355443 : Nat) = 256 * 13107 + 51 from rfl]
    have := and_split (u := f1 y) (p := 51) 0 13107 b3 (by decide)
    simpa using this
  have d4 : (256 * f1 y + f1 x) / 4 &&& 858993459 = 256 * (f1 y / 4 &&& 51) + (f1 x / 4 &&& 51) := by
    rw [show (256 * f1 y + f1 x) / 4 = 256 * (f1 y / 4) + (f1 x / 4 + 64 * (f1 y % 4)) by omega, show (858993459 : Nat) = 256 * 3355443 + 51 from rfl, and_split _ _ (by omega) (by decide), c1]
    congr 2
    rw [show (3355443 : Nat) = 256 * 13107 + 51 from rfl]
    have := and_split (u := f1 y / 4) (p := 51) 0 13107 (by omega) (by decide)
    simpa using this
  have d5 : (256 * (f1 y &&& 51) + (f1 x &&& 51)) + (256 * (f1 y / 4 &&& 51) + (f1 x / 4 &&& 51)) = 256 * f2 (f1 y) + f2 (f1 x) := by
    unfold f2
    omega
  generalize f2 (f1 x) = u at *
  generalize f2 (f1 y) = v at *
  have d6 : ((256 * v + u) + (256 * v + u) / 16) &&& 252645135 = 256 * f3 v + f3 u := by
    have e : (256 * v + u) + (256 * v + u) / 16 = 256 * (v + v / 16) + (u + u / 16 + 16 * (v % 16)) := by omega
    rw [e, show (252645135 : Nat) = 256 * 986895 + 15 from rfl, and_split _ _ (by omega) (by decide)]
    have e1 : (u + u / 16 + 16 * (v % 16)) &&& 15 = f3 u := by
      rw [show (15 : Nat) = 2 ^ 4 - 1 from rfl, Nat.and_two_pow_sub_one_eq_mod]
      unfold f3
      omega
    have e2 : (v + v / 16) &&& 986895 = f3 v := by
      rw [show (986895 : Nat) = 256 * 3855 + 15 from rfl]
      have := and_split (u := v + v / 16) (p := 15) 0 3855 (by omega) (by decide)
      simp only [Nat.mul_zero, Nat.zero_add, Nat.zero_and] at this
      rw [this, show (15 : Nat) = 2 ^ 4 - 1 from rfl, Nat.and_two_pow_sub_one_eq_mod]
      rfl
    rw [e1, e2]
  have hu : f3 u < 16 := Nat.mod_lt _ (by decide)
  have hv : f3 v < 16 := Nat.mod_lt _ (by decide)
  have hu9 : f3 u ≤ 8 := by
    have : ∀ u, u < 69 → u % 16 < 5 → f3 u ≤ 8 := by decide +kernel
    exact this u a4 a5
  have hv9 : f3 v ≤ 8 := by
    have : ∀ u, u < 69 → u % 16 < 5 → f3 u ≤ 8 := by decide +kernel
    exact this v b4 b5
  unfold swar
  dsimp only
  rw [d1, d2, d3, d4, d5, d6]
  generalize f3 u = c0 at *
  generalize f3 v = c1 at *
  rw [show (256 * c1 + c0) / 256 = c1 by omega, show (256 * c1 + c0 + c1) / 65536 = 0 by omega, show (63 : Nat) = 2 ^ 6 - 1 from rfl, Nat.and_two_pow_sub_one_eq_mod]
  omega
-- the calculus of pure residues
def T {α : Type} (F : Option (α × Mem)) (Q : α → Mem → Prop) : Prop := ∃ r M, F = some (r, M) ∧ Q r M
theorem T_some {α : Type} {r : α} {M : Mem} {Q : α → Mem → Prop} (h : Q r M) : T (some (r, M)) Q := ⟨r, M, rfl, h⟩
theorem T_mono {α : Type} {F : Option (α × Mem)} {P Q : α → Mem → Prop} (h : T F P) (hPQ : ∀ r M, P r M → Q r M) : T F Q := by
  obtain ⟨r, M, e, h⟩ := h
  exact ⟨r, M, e, hPQ r M h⟩
theorem T_bd {α β : Type} {F : Option (α × Mem)} {f : α → Mem → Option (β × Mem)} {P : α → Mem → Prop} {Q : β → Mem → Prop} (h : T F P) (k : ∀ r M, P r M → T (f r M) Q) : T (bd F f) Q := by
  obtain ⟨r, M, e, h⟩ := h
  rw [e]
  exact k r M h
theorem T_bdE {α β : Type} {F : Option (α × Mem)} {f : α → Mem → Option (β × Mem)} {r : α} {M : Mem} {Q : β → Mem → Prop} (h : F = some (r, M)) (k : T (f r M) Q) : T (bd F f) Q := by
  rw [h]
  exact k
theorem T_nm {α β : Type} {e : α} {f : α → Option (β × Mem)} {Q : β → Mem → Prop} (k : T (f e) Q) : T (nm e f) Q := k
theorem T_gd {α : Type} {i : Int32} {n : Nat} {F : Option (α × Mem)} {Q : α → Mem → Prop} (h : vp_in i n) (k : T F Q) : T (gd i n F) Q := by
  unfold gd
  rw [if_neg h]
  exact k
theorem T_ite {α : Type} {c : Prop} [Decidable c] {F G : Option (α × Mem)} {Q : α → Mem → Prop} (h1 : c → T F Q) (h2 : ¬ c → T G Q) : T (if c then F else G) Q := by
  by_cases h : c
  · rw [if_pos h]; exact h1 h
  · rw [if_neg h]; exact h2 h
theorem T_pos {α : Type} {c : Prop} [Decidable c] {F G : Option (α × Mem)} {Q : α → Mem → Prop} (h : c) (k : T F Q) : T (if c then F else G) Q := by rw [if_pos h]; exact k
theorem T_neg {α : Type} {c : Prop} [Decidable c] {F G : Option (α × Mem)} {Q : α → Mem → Prop} (h : ¬ c) (k : T G Q) : T (if c then F else G) Q := by rw [if_neg h]; exact k
theorem T_zr {x : Int32} {M : Mem} {Q : Int32 → Mem → Prop} (h : x = 0 ∨ x = 1) (k : Q x M) : T (zr x M) Q := by
  unfold zr
  rw [if_pos h]
  exact T_some k
theorem T_gc {α : Type} {sp dp n : Int32} {n0 n1 : Nat} {F : Option (α × Mem)} {Q : α → Mem → Prop} (h : ¬ (sp < 0 ∨ dp < 0 ∨ n < 0 ∨ n0 < sp.toNatClampNeg + n.toNatClampNeg ∨ n1 < dp.toNatClampNeg + n.toNatClampNeg)) (k : T F Q) : T (gc sp dp n n0 n1 F) Q := by
  unfold gc
  rw [if_neg h]
  exact k
theorem T_eq {α : Type} {F : Option (α × Mem)} {r : α} {M : Mem} (h : T F (fun r2 M2 => r2 = r ∧ M2 = M)) : F = some (r, M) := by
  obtain ⟨r2, M2, e, rfl, rfl⟩ := h
  exact e
end
section
/-! ROWS AS LISTS: the class's Row -/
theorem bitCount_eq (n : Nat) {k : Nat} (h : k < 65536) (M : Mem) : X_Integer_bitCount n (nI k) M = some (nI (popN 16 k), M) := by
  have e1 : (1 : Int32) = nI 1 := rfl
  have e2 : (2 : Int32) = nI 2 := rfl
  have e4 : (4 : Int32) = nI 4 := rfl
  have e8 : (8 : Int32) = nI 8 := rfl
  have e16 : (16 : Int32) = nI 16 := rfl
  have m1 : (1431655765 : Int32) = nI 1431655765 := rfl
  have m2 : (858993459 : Int32) = nI 858993459 := rfl
  have m3 : (252645135 : Int32) = nI 252645135 := rfl
  have m4 : (63 : Int32) = nI 63 := rfl
  have q1 : (k / 2 ^ 1) &&& 1431655765 ≤ k := Nat.le_trans Nat.and_le_left (by omega)
  rw [← swar_pop h]
  unfold X_Integer_bitCount nm swar
  dsimp only
  rw [e1, e2, e4, e8, e16, m1, m2, m3, m4, i_ushr (by omega) (by decide), i_and, pk_sub q1]
  generalize ha : k - (k / 2 ^ 1 &&& 1431655765) = a
  have ha9 : a < 65536 := by omega
  rw [i_and, i_ushr (by omega) (by decide), i_and, nI_add]
  have hb9 : (a &&& 858993459) + (a / 2 ^ 2 &&& 858993459) < 131072 := by
    have h1 : a &&& 858993459 ≤ a := Nat.and_le_left
    have h2 : a / 2 ^ 2 &&& 858993459 ≤ a / 2 ^ 2 := Nat.and_le_left
    omega
  generalize hb : (a &&& 858993459) + (a / 2 ^ 2 &&& 858993459) = b at hb9 ⊢
  rw [i_ushr (by omega) (by decide), nI_add, i_and]
  have hc9 : (b + b / 2 ^ 4) &&& 252645135 < 262144 := Nat.lt_of_le_of_lt Nat.and_le_left (by omega)
  generalize hc : (b + b / 2 ^ 4) &&& 252645135 = c at hc9 ⊢
  rw [i_ushr (by omega) (by decide), nI_add, i_ushr (by omega) (by decide), nI_add, i_and]
-- a row: things, the eldest first
def knN (l : List Nat) : Nat := l.foldr (fun t a => 2 ^ t ||| a) 0
def pkN (l : List Nat) : Nat := l.foldr (fun t a => t + 16 * a) 0
def Ro (l : List Nat) : Prop := l.Nodup ∧ ∀ t ∈ l, t < 16
theorem knN_bit (l : List Nat) (i : Nat) : (knN l).testBit i = decide (i ∈ l) := by
  induction l with
  | nil => simp [knN]
  | cons t l ih =>
    show (2 ^ t ||| knN l).testBit i = _
    rw [Nat.testBit_or, ih, Nat.testBit_two_pow]
    by_cases h : t = i
    · subst h; simp
    · have h2 : ¬ i = t := fun q => h q.symm
      simp [h, h2]
theorem knN_lt {l : List Nat} (h : ∀ t ∈ l, t < 16) : knN l < 65536 := by
  have : knN l < 2 ^ 16 := Nat.lt_pow_two_of_testBit _ (fun i hi => by
    rw [knN_bit]
    simp only [decide_eq_false_iff_not]
    intro hm
    have := h i hm
    omega)
  exact this
theorem knN_ext {l m : List Nat} (h : ∀ t, t ∈ l ↔ t ∈ m) : knN l = knN m := by
  apply Nat.eq_of_testBit_eq
  intro i
  rw [knN_bit, knN_bit]
  simp [h i]
theorem popN_or {t k : Nat} (h : k.testBit t = false) : ∀ n, popN n (2 ^ t ||| k) = popN n k + (if t < n then 1 else 0)
  | 0 => rfl
  | n + 1 => by
    show (if (2 ^ t ||| k).testBit n then 1 else 0) + popN n (2 ^ t ||| k) = (if k.testBit n then 1 else 0) + popN n k + _
    rw [popN_or h n, Nat.testBit_or, Nat.testBit_two_pow]
    by_cases e : t = n
    · subst e
      simp [h]
      omega
    · by_cases e2 : t < n
      · have : t < n + 1 := by omega
        simp [e, e2, this]
        omega
      · have : ¬ t < n + 1 := by omega
        simp [e, e2, this]
theorem pop_knN {l : List Nat} (h : Ro l) : popN 16 (knN l) = l.length := by
  induction l with
  | nil => decide
  | cons t l ih =>
    obtain ⟨h1, h2⟩ := h
    have hn := List.nodup_cons.mp h1
    show popN 16 (2 ^ t ||| knN l) = l.length + 1
    rw [popN_or (by rw [knN_bit]; simp [hn.1]) 16, ih ⟨hn.2, fun x hx => h2 x (List.mem_cons_of_mem _ hx)⟩, if_pos (h2 t List.mem_cons_self)]
theorem popN_le (k : Nat) : ∀ n, popN n k ≤ n
  | 0 => Nat.le_refl _
  | n + 1 => by
    show (if k.testBit n then 1 else 0) + popN n k ≤ n + 1
    have := popN_le k n
    split <;> omega
theorem Ro.len {l : List Nat} (h : Ro l) : l.length ≤ 16 := by
  rw [← pop_knN h]
  exact popN_le _ _
theorem pkN_lt {l : List Nat} (h : ∀ t ∈ l, t < 16) : pkN l < 16 ^ l.length := by
  induction l with
  | nil => decide
  | cons t l ih =>
    have h1 := ih (fun x hx => h x (List.mem_cons_of_mem _ hx))
    have h2 := h t List.mem_cons_self
    show t + 16 * pkN l < 16 ^ (l.length + 1)
    rw [Nat.pow_succ]
    omega
theorem pkN_get {l : List Nat} (h : ∀ t ∈ l, t < 16) : ∀ {i : Nat} (hi : i < l.length), pkN l / 16 ^ i % 16 = l[i] := by
  induction l with
  | nil => intro i hi; simp at hi
  | cons t l ih =>
    intro i hi
    have h2 := h t List.mem_cons_self
    show (t + 16 * pkN l) / 16 ^ i % 16 = _
    match i with
    | 0 => simp; omega
    | i + 1 =>
      have := ih (fun x hx => h x (List.mem_cons_of_mem _ hx)) (i := i) (by simpa using hi)
      rw [Nat.pow_succ, Nat.mul_comm (16 ^ i) 16, ← Nat.div_div_eq_div_mul, show (t + 16 * pkN l) / 16 = pkN l by omega, this]
      rfl
theorem pkN_app (l : List Nat) (t : Nat) : pkN (l ++ [t]) = pkN l + 16 ^ l.length * t := by
  induction l with
  | nil => simp [pkN]
  | cons a l ih =>
    show a + 16 * pkN (l ++ [t]) = a + 16 * pkN l + 16 ^ (l.length + 1) * t
    rw [ih, Nat.pow_succ, Nat.mul_add, show 16 ^ l.length * 16 * t = 16 * (16 ^ l.length * t) by rw [Nat.mul_comm (16 ^ l.length) 16, Nat.mul_assoc]]
    omega
theorem pkN_cat (l m : List Nat) : pkN (l ++ m) = pkN l + 16 ^ l.length * pkN m := by
  induction l with
  | nil => simp [pkN]
  | cons a l ih =>
    show a + 16 * pkN (l ++ m) = a + 16 * pkN l + 16 ^ (l.length + 1) * pkN m
    rw [ih, Nat.pow_succ, Nat.mul_add, show 16 ^ l.length * 16 * pkN m = 16 * (16 ^ l.length * pkN m) by rw [Nat.mul_comm (16 ^ l.length) 16, Nat.mul_assoc]]
    omega
theorem knN_app (l : List Nat) (t : Nat) : knN (l ++ [t]) = knN l ||| 2 ^ t := by
  apply Nat.eq_of_testBit_eq
  intro i
  rw [Nat.testBit_or, knN_bit, knN_bit, Nat.testBit_two_pow]
  by_cases h : i = t
  · subst h; simp
  · have h2 : ¬ t = i := fun q => h q.symm
    simp [h, h2]
theorem p16 (i : Nat) : 16 ^ i = 2 ^ (4 * i) := by rw [show (16 : Nat) = 2 ^ 4 from rfl, ← Nat.pow_mul]
theorem and1 (k : Nat) : k &&& 1 = k % 2 := Nat.and_one_is_mod k
theorem bitv {k t : Nat} : k / 2 ^ t % 2 = if k.testBit t then 1 else 0 := by
  rw [Nat.testBit_eq_decide_div_mod_eq]
  by_cases h : k / 2 ^ t % 2 = 1
  · simp [h]
  · have : k / 2 ^ t % 2 = 0 := by omega
    simp [this]
theorem bit_iu {k t : Nat} (hk : k < 2 ^ 32) (ht : t < 32) : (((nI k).toUInt32 >>> ((nI t).toUInt32 &&& Int32.toUInt32 31)).toInt32 &&& 1) = if k.testBit t then 1 else 0 := by
  rw [i_ushr hk ht, show (1 : Int32) = nI 1 from rfl, i_and, and1, bitv]
  by_cases h : k.testBit t <;> simp [h] <;> rfl
theorem bit_is {k t : Nat} (hk : k < 2 ^ 31) (ht : t < 32) : (nI k >>> (nI t &&& 31) &&& 1) = if k.testBit t then 1 else 0 := by
  rw [i_shr hk ht, show (1 : Int32) = nI 1 from rfl, i_and, and1, bitv]
  by_cases h : k.testBit t <;> simp [h] <;> rfl
theorem bit0 (b : Bool) : ((if b then 1 else 0 : Int32) = 0) ↔ b = false := by cases b <;> decide
-- the class's Row o holds l
def RowAt (M : Mem) (o : Nat) (l : List Nat) : Prop := M.2 o 0 = lN (pkN l) ∧ M.1 o 1 = nI (knN l)
def stR (M : Mem) (o : Nat) (l : List Nat) : Mem := si (sl M o 0 (lN (pkN l))) o 1 (nI (knN l))
theorem si_id {M : Mem} {a k : Nat} {v : Int32} (h : M.1 a k = v) : si M a k v = M := by
  unfold si
  apply Prod.ext
  · funext x y
    show (if x = a ∧ y = k then v else M.1 x y) = M.1 x y
    by_cases e : x = a ∧ y = k
    · rw [if_pos e, e.1, e.2, h]
    · rw [if_neg e]
  · rfl
theorem sl_id {M : Mem} {a k : Nat} {v : Int64} (h : M.2 a k = v) : sl M a k v = M := by
  unfold sl
  apply Prod.ext
  · rfl
  · funext x y
    show (if x = a ∧ y = k then v else M.2 x y) = M.2 x y
    by_cases e : x = a ∧ y = k
    · rw [if_pos e, e.1, e.2, h]
    · rw [if_neg e]
theorem stR_id {M : Mem} {o : Nat} {l : List Nat} (h : RowAt M o l) : stR M o l = M := by
  unfold stR
  rw [sl_id h.1, si_id h.2]
theorem stR_at (M : Mem) (o : Nat) (l : List Nat) : RowAt (stR M o l) o l := by
  constructor <;> simp [stR, si, sl]
theorem stR_stR (M : Mem) (o : Nat) (l m : List Nat) : stR (stR M o l) o m = stR M o m := by
  unfold stR si sl
  apply Prod.ext
  · funext x y
    dsimp only
    by_cases e : x = o ∧ y = 1
    · rw [if_pos e, if_pos e]
    · rw [if_neg e, if_neg e, if_neg e]
  · funext x y
    dsimp only
    by_cases e : x = o ∧ y = 0
    · rw [if_pos e, if_pos e]
    · rw [if_neg e, if_neg e, if_neg e]
theorem stR_off {M : Mem} {o a : Nat} {l : List Nat} (h : a ≠ o) : (stR M o l).1 a = M.1 a ∧ (stR M o l).2 a = M.2 a := by
  constructor <;> funext y <;> simp [stR, si, sl, h]
def addT (l : List Nat) (t : Nat) : List Nat := if t ∈ l then l else l ++ [t]
theorem Ro.addT {l : List Nat} (h : Ro l) {t : Nat} (ht : t < 16) : Ro (addT l t) := by
  show Ro (if t ∈ l then l else l ++ [t])
  by_cases e : t ∈ l
  · rw [if_pos e]; exact h
  · rw [if_neg e]
    refine ⟨List.nodup_append.mpr ⟨h.1, by simp, fun a ha b hb => ?_⟩, fun x hx => ?_⟩
    · rw [List.mem_singleton.mp hb]
      intro q
      exact e (q ▸ ha)
    · rcases List.mem_append.mp hx with hx | hx
      · exact h.2 x hx
      · rw [List.mem_singleton.mp hx]; exact ht
theorem row_add (n : Nat) {o : Nat} {M : Mem} {l : List Nat} {t : Nat} (hM : RowAt M o l) (h : Ro l) (ht : t < 16) : X_Row_add n o (nI t) M = some ((), stR M o (addT l t)) := by
  have hk := knN_lt h.2
  unfold X_Row_add nm
  rw [hM.2, bit_iu (by omega) (by omega), knN_bit, bitCount_eq n hk, pop_knN h]
  unfold addT
  by_cases e : t ∈ l
  · rw [if_pos e, if_neg (by simp [e]), stR_id hM]
  · rw [if_neg e, if_pos (by simp [e])]
    have hlen : l.length < 16 := by
      have := (h.addT ht).len
      unfold addT at this
      rw [if_neg e, List.length_append] at this
      simp only [List.length_singleton] at this
      omega
    show some ((), _) = _
    congr 2
    have hp := pkN_lt h.2
    rw [hM.1, show ((sl M o 0 (lN (pkN l) ||| (nI t).toInt64 <<< ((4 * nI l.length).toInt64 &&& 63))).1 o 1) = nI (knN l) from hM.2, l_i (by omega), show (4 : Int32) = nI 4 from rfl, pk_mul, l_shl _ (by omega), l_or, i_shl1 (by omega), i_or]
    unfold stR
    rw [pkN_app, knN_app, show pkN l ||| t * 2 ^ (4 * l.length) = pkN l + 16 ^ l.length * t by
      rw [p16, Nat.or_comm, Nat.mul_comm t, ← Nat.two_pow_add_eq_or_of_lt (by rw [← p16]; exact hp), Nat.add_comm]]
def encN (l : List Nat) : Nat := pkN l + 2 ^ 36 * knN l
def enc (l : List Nat) : Int64 := lN (encN l)
theorem pk36 {l : List Nat} (h : Ro l) (hl : l.length ≤ 9) : pkN l < 2 ^ 36 := Nat.lt_of_lt_of_le (pkN_lt h.2) (by
  rw [p16]
  exact Nat.pow_le_pow_right (by decide) (by omega))
theorem encN_lt {l : List Nat} (h : Ro l) (hl : l.length ≤ 9) : encN l < 2 ^ 52 := by
  have h1 := pk36 h hl
  have h2 := knN_lt h.2
  unfold encN
  omega
theorem row_take (n : Nat) {o : Nat} {M : Mem} {l : List Nat} (h : Ro l) (hl : l.length ≤ 9) : X_Row_take n o (enc l) M = some ((), stR M o l) := by
  have h1 := pk36 h hl
  have h2 := encN_lt h hl
  unfold X_Row_take enc stR
  rw [show (68719476735 : Int64) = lN 68719476735 from rfl, l_and, show (36 : Int32) = nI 36 from rfl, l_ushr (by omega) (by decide), l_to, show (68719476735 : Nat) = 2 ^ 36 - 1 from rfl, Nat.and_two_pow_sub_one_eq_mod]
  unfold encN
  rw [show (pkN l + 2 ^ 36 * knN l) % 2 ^ 36 = pkN l by omega, show (pkN l + 2 ^ 36 * knN l) / 2 ^ 36 = knN l by omega]
theorem row_known (n : Nat) {M : Mem} {l : List Nat} (h : Ro l) (hl : l.length ≤ 9) : X_Row_knownOf n (enc l) M = some (nI (knN l), M) := by
  have h1 := pk36 h hl
  have h2 := encN_lt h hl
  unfold X_Row_knownOf enc
  rw [show (36 : Int32) = nI 36 from rfl, l_ushr (by omega) (by decide), l_to]
  unfold encN
  rw [show (pkN l + 2 ^ 36 * knN l) / 2 ^ 36 = knN l by omega]
theorem enc_known {l : List Nat} (h : Ro l) (hl : l.length ≤ 9) : ((((enc l).toUInt64 >>> ((36 : Int32).toInt64.toUInt64 &&& Int64.toUInt64 63)).toInt64) : Int64).toInt32 = nI (knN l) := by
  have := row_known 0 (M := zM) h hl
  unfold X_Row_knownOf at this
  exact (Prod.mk.inj (Option.some.inj this)).1
theorem row_size (n : Nat) {M : Mem} {l : List Nat} (h : Ro l) (hl : l.length ≤ 9) : X_Row_sizeOf n (enc l) M = some (nI l.length, M) := by
  unfold X_Row_sizeOf
  rw [enc_known h hl, bitCount_eq n (knN_lt h.2), pop_knN h]
  rfl
theorem enc_thing {l : List Nat} (h : Ro l) (hl : l.length ≤ 9) {i : Nat} (hi : i < l.length) : ((((enc l).toUInt64 >>> (((4 : Int32) * nI i).toInt64.toUInt64 &&& Int64.toUInt64 63)).toInt64) : Int64).toInt32 &&& 15 = nI (l[i]) := by
  have h2 := encN_lt h hl
  rw [show (4 : Int32) = nI 4 from rfl, pk_mul]
  unfold enc
  rw [l_ushr (by omega) (by omega), l_to, show (15 : Int32) = nI (2 ^ 4 - 1) from rfl, i_and, Nat.and_two_pow_sub_one_eq_mod, ← pkN_get h.2 hi]
  unfold encN
  congr 1
  have hq : 2 ^ 36 * knN l = 16 ^ i * (16 * (16 ^ (8 - i) * knN l)) := by
    rw [← Nat.mul_assoc, ← Nat.mul_assoc, ← Nat.pow_succ, ← Nat.pow_add, show i + 1 + (8 - i) = 9 by omega]
  rw [hq, ← p16, Nat.add_mul_div_left _ _ (by rw [p16]; exact Nat.two_pow_pos _), show (2 : Nat) ^ 4 = 16 from rfl, Nat.add_mul_mod_self_left]
theorem row_thing (n : Nat) {M : Mem} {l : List Nat} (h : Ro l) (hl : l.length ≤ 9) {i : Nat} (hi : i < l.length) : X_Row_thingOf n (enc l) (nI i) M = some (nI (l[i]), M) := by
  unfold X_Row_thingOf
  rw [enc_thing h hl hi]
theorem enc_bit {l : List Nat} (h : Ro l) (hl : l.length ≤ 9) {t : Nat} (ht : t < 16) : ((enc l).toUInt64 >>> (((36 : Int32) + nI t).toInt64.toUInt64 &&& Int64.toUInt64 63)).toInt64 &&& 1 = lN (if t ∈ l then 1 else 0) := by
  have h1 := pk36 h hl
  have h2 := encN_lt h hl
  rw [show (36 : Int32) = nI 36 from rfl, nI_add]
  unfold enc
  rw [l_ushr (by omega) (by omega), show (1 : Int64) = lN 1 from rfl, l_and, and1]
  unfold encN
  congr 1
  rw [Nat.pow_add, ← Nat.div_div_eq_div_mul, show (pkN l + 2 ^ 36 * knN l) / 2 ^ 36 = knN l by omega, bitv, knN_bit]
  by_cases e : t ∈ l <;> simp [e]
theorem row_knowsIt (n : Nat) {M : Mem} {l : List Nat} (h : Ro l) (hl : l.length ≤ 9) {t : Nat} (ht : t < 16) : X_Row_knowsIt n (enc l) (nI t) M = some (if t ∈ l then 1 else 0, M) := by
  unfold X_Row_knowsIt
  rw [enc_bit h hl ht]
  by_cases e : t ∈ l
  · rw [if_pos e, if_pos e, if_neg (by rw [l_cmp0]; decide)]
  · rw [if_neg e, if_neg e, if_pos (by rw [l_cmp0]; rfl)]
theorem row_atRest (n : Nat) {o : Nat} {M : Mem} {l : List Nat} (hM : RowAt M o l) (h : Ro l) (hl : l.length ≤ 9) : X_Row_atRest n o M = some (enc l, M) := by
  have h1 := pk36 h hl
  have h2 := knN_lt h.2
  unfold X_Row_atRest enc
  rw [hM.1, hM.2, show (68719476735 : Int64) = lN 68719476735 from rfl, l_and, show (36 : Int32) = nI 36 from rfl, l_i (by omega), l_shl _ (by decide), l_or, show (68719476735 : Nat) = 2 ^ 36 - 1 from rfl, Nat.and_two_pow_sub_one_eq_mod, Nat.mod_eq_of_lt h1]
  unfold encN
  rw [Nat.or_comm, Nat.mul_comm (knN l), ← Nat.two_pow_add_eq_or_of_lt h1, Nat.add_comm]
def mergeT (l m : List Nat) : List Nat := m.foldl addT l
theorem Ro.merge {l m : List Nat} (h : Ro l) (hm : ∀ t ∈ m, t < 16) : Ro (mergeT l m) := by
  induction m generalizing l with
  | nil => exact h
  | cons t m ih => exact ih (h.addT (hm t List.mem_cons_self)) (fun x hx => hm x (List.mem_cons_of_mem _ hx))
theorem row_addAll_L (n : Nat) {o : Nat} {m : List Nat} (hm : Ro m) (hml : m.length ≤ 9) : ∀ (k i f : Nat) (M : Mem) (l : List Nat), m.length - i = k → i ≤ m.length → k < f → RowAt M o l → Ro l → X_Row_addAll_L12 n o (enc m) (nI m.length) f (nI i) M = some ((), stR M o (mergeT l (m.drop i))) := by
  intro k
  induction k with
  | zero =>
    intro i f M l hk hi hf hM hl
    obtain ⟨f, rfl⟩ : ∃ g, f = g + 1 := ⟨f - 1, by omega⟩
    have e : i = m.length := by omega
    subst e
    show (if nI m.length ≤ nI m.length then some ((), M) else _) = _
    rw [if_pos (nI_le (Nat.le_refl _) (by omega)), List.drop_length]
    show some ((), M) = some ((), stR M o l)
    rw [stR_id hM]
  | succ k ih =>
    intro i f M l hk hi hf hM hl
    obtain ⟨f, rfl⟩ : ∃ g, f = g + 1 := ⟨f - 1, by omega⟩
    have hi2 : i < m.length := by omega
    show (if nI m.length ≤ nI i then some ((), M) else _) = _
    rw [if_neg (nI_ge hi2 (by omega)), enc_thing hm hml hi2, row_add n hM hl (hm.2 _ (List.getElem_mem hi2))]
    show X_Row_addAll_L12 n o (enc m) (nI m.length) f (nI i + 1) (stR M o (addT l m[i])) = _
    rw [nI_1, ih (i + 1) f _ (addT l m[i]) (by omega) (by omega) (by omega) (stR_at _ _ _) (hl.addT (hm.2 _ (List.getElem_mem hi2))), stR_stR, List.drop_eq_getElem_cons hi2]
    rfl
theorem row_addAll (n : Nat) (hn : 16 ≤ n) {o : Nat} {M : Mem} {l m : List Nat} (hM : RowAt M o l) (hl : Ro l) (hm : Ro m) (hml : m.length ≤ 9) : X_Row_addAll n o (enc m) M = some ((), stR M o (mergeT l m)) := by
  unfold X_Row_addAll
  rw [enc_known hm hml, bitCount_eq n (knN_lt hm.2), pop_knN hm]
  exact row_addAll_L n hm hml m.length 0 n M l rfl (Nat.zero_le _) (by omega) hM hl
theorem i_not {k t : Nat} (ht : t < 16) (hb : k.testBit t = true) (hk : k < 65536) : nI k &&& (((1 : Int32) <<< (nI t &&& 31)) ^^^ (-1)) = nI (k ^^^ 2 ^ t) := by
  rw [i_shl1 (by omega), show (-1 : Int32) = nI (2 ^ 32 - 1) from by decide, i_xor, i_and]
  congr 1
  apply Nat.eq_of_testBit_eq
  intro i
  rw [Nat.testBit_and, Nat.testBit_xor, Nat.testBit_two_pow_sub_one, Nat.testBit_xor, Nat.testBit_two_pow]
  by_cases h : t = i
  · subst h
    have : t < 32 := by omega
    simp [hb, this]
  · by_cases h32 : i < 32
    · simp [h, h32]
    · have : k.testBit i = false := Nat.testBit_lt_two_pow (Nat.lt_of_lt_of_le hk (by
        have : 2 ^ 16 ≤ 2 ^ i := Nat.pow_le_pow_right (by decide) (by omega)
        omega))
      simp [h, this]
theorem knN_rem {l1 l2 : List Nat} {t : Nat} (h : (l1 ++ t :: l2).Nodup) : knN (l1 ++ t :: l2) ^^^ 2 ^ t = knN (l1 ++ l2) := by
  have h1 : t ∉ l1 ++ l2 := by
    have := (List.perm_middle (a := t) (l₁ := l1) (l₂ := l2)).nodup_iff.mp h
    exact (List.nodup_cons.mp this).1
  apply Nat.eq_of_testBit_eq
  intro i
  rw [Nat.testBit_xor, knN_bit, knN_bit, Nat.testBit_two_pow]
  by_cases e : t = i
  · subst e
    simp [h1] at h1 ⊢
  · have e2 : ¬ i = t := fun q => e q.symm
    simp [e, e2]
theorem Ro.rem {l1 l2 : List Nat} {t : Nat} (h : Ro (l1 ++ t :: l2)) : Ro (l1 ++ l2) := by
  refine ⟨?_, fun x hx => h.2 x ?_⟩
  · have := (List.perm_middle (a := t) (l₁ := l1) (l₂ := l2)).nodup_iff.mp h.1
    exact (List.nodup_cons.mp this).2
  · rcases List.mem_append.mp hx with hx | hx
    · exact List.mem_append_left _ hx
    · exact List.mem_append_right _ (List.mem_cons_of_mem _ hx)
theorem erase_mid {l1 l2 : List Nat} {t : Nat} (h : t ∉ l1) : (l1 ++ t :: l2).erase t = l1 ++ l2 := by
  rw [List.erase_append_right _ h, List.erase_cons_head]
theorem mem_first {l : List Nat} {t : Nat} (h : t ∈ l) : ∃ a b, l = a ++ t :: b ∧ t ∉ a := by
  induction l with
  | nil => simp at h
  | cons x l ih =>
    by_cases e : t = x
    · subst e; exact ⟨[], l, rfl, by simp⟩
    · have hm : t ∈ l := by
        rcases List.mem_cons.mp h with q | q
        · exact absurd q e
        · exact q
      obtain ⟨a, b, e1, e2⟩ := ih hm
      exact ⟨x :: a, b, by rw [e1]; rfl, by simp [e, e2]⟩
theorem row_drop (n : Nat) (hn : 17 ≤ n) {o : Nat} {M : Mem} {l : List Nat} {t : Nat} (hM : RowAt M o l) (h : Ro l) (ht : t ∈ l) : X_Row_drop n o (nI t) M = some ((), stR M o (l.erase t)) := by
  have ht16 := h.2 t ht
  have hk := knN_lt h.2
  have hlen := h.len
  unfold X_Row_drop
  rw [hM.2, bitCount_eq n hk, pop_knN h]
  show X_Row_drop_L10 _ _ _ _ _ _ _ _ = _
  obtain ⟨l1, l2, he, hn1⟩ := mem_first ht
  generalize hkx : (fun y3 : Int32 => _) = kx
  have key : ∀ (d i f : Nat), l1.length - i = d → i ≤ l1.length → d < f → X_Row_drop_L10 n o (nI t) (nI l.length) kx M f (nI i) = kx (nI l1.length) := by
    intro d
    induction d with
    | zero =>
      intro i f h1 h2 h3
      obtain ⟨f, rfl⟩ : ∃ g, f = g + 1 := ⟨f - 1, by omega⟩
      have ei : i = l1.length := by omega
      subst ei
      have hil : l1.length < l.length := by rw [he]; simp
      show (if nI l.length ≤ nI l1.length then some ((), M) else _) = _
      rw [if_neg (nI_ge hil (by omega)), hM.1, show (4 : Int32) = nI 4 from rfl, pk_mul, l_ushr (by have := pkN_lt h.2; have e2 : 16 ^ l.length ≤ 16 ^ 16 := Nat.pow_le_pow_right (by decide) hlen; omega) (by omega), show (15 : Int64) = lN (2 ^ 4 - 1) from rfl, l_and, Nat.and_two_pow_sub_one_eq_mod, l_i (by omega), ← p16, show (2 : Nat) ^ 4 = 16 from rfl, pkN_get h.2 hil, if_pos]
      rw [l_cmp0]
      congr 1
      simp [he]
    | succ d ih =>
      intro i f h1 h2 h3
      obtain ⟨f, rfl⟩ : ∃ g, f = g + 1 := ⟨f - 1, by omega⟩
      have hil : i < l.length := by rw [he]; simp; omega
      show (if nI l.length ≤ nI i then some ((), M) else _) = _
      rw [if_neg (nI_ge hil (by omega)), hM.1, show (4 : Int32) = nI 4 from rfl, pk_mul, l_ushr (by have := pkN_lt h.2; have e2 : 16 ^ l.length ≤ 16 ^ 16 := Nat.pow_le_pow_right (by decide) hlen; omega) (by omega), show (15 : Int64) = lN (2 ^ 4 - 1) from rfl, l_and, Nat.and_two_pow_sub_one_eq_mod, l_i (by omega), ← p16, show (2 : Nat) ^ 4 = 16 from rfl, pkN_get h.2 hil, if_neg]
      · rw [nI_1]
        exact ih (i + 1) f (by omega) (by omega) (by omega)
      · rw [l_cmp0]
        intro q
        have hx16 := h.2 _ (List.getElem_mem hil)
        have q2 := (l_eq (by omega) (by omega)).mp q
        have hi1 : i < l1.length := by omega
        have : l[i] = l1[i] := by simp [he, List.getElem_append_left hi1]
        exact hn1 (by rw [← q2, this]; exact List.getElem_mem hi1)
  have h0 := key l1.length 0 n rfl (Nat.zero_le _) (by
    have : l1.length < l.length := by rw [he]; simp
    omega)
  rw [show (0 : Int32) = nI 0 from rfl, h0, ← hkx]
  unfold nm
  dsimp only
  have hp := pkN_lt h.2
  have hl1 : l1.length < 16 := by
    have : l1.length < l.length := by rw [he]; simp
    omega
  have hp64 : pkN l < 2 ^ 64 := by
    have e2 : 16 ^ l.length ≤ 16 ^ 16 := Nat.pow_le_pow_right (by decide) hlen
    omega
  have hb : (knN l).testBit t = true := by rw [knN_bit]; simp [ht]
  rw [show ∀ x, (sl M o 0 x).1 o 1 = nI (knN l) from fun x => hM.2, hM.1, i_not ht16 hb hk]
  have hp1 : pkN l1 < 16 ^ l1.length := pkN_lt (fun x hx => h.2 x (by rw [he]; exact List.mem_append_left _ hx))
  have hsplit : pkN l = 16 ^ l1.length * (t + 16 * pkN l2) + pkN l1 := by
    rw [he, pkN_cat, Nat.add_comm]
    rfl
  have hd1 : pkN l / 2 ^ (4 * l1.length) = t + 16 * pkN l2 := by
    rw [← p16, hsplit, Nat.mul_add_div (by rw [p16]; exact Nat.two_pow_pos _), Nat.div_eq_of_lt hp1, Nat.add_zero]
  have hm1 : pkN l % 2 ^ (4 * l1.length) = pkN l1 := by
    rw [← p16, hsplit, Nat.mul_add_mod, Nat.mod_eq_of_lt hp1]
  rw [show (4 : Int32) = nI 4 from rfl, pk_mul, l_ushr hp64 (by omega), hd1, l_ushr (by rw [← hd1]; exact Nat.lt_of_le_of_lt (Nat.div_le_self _ _) hp64) (by decide), show (t + 16 * pkN l2) / 2 ^ 4 = pkN l2 by omega, l_shl _ (by omega)]
  have hmask : ((1 : Int64) <<< ((nI (4 * l1.length)).toInt64 &&& 63)) - 1 = lN (2 ^ (4 * l1.length) - 1) := by
    have := l_shl 1 (k := 4 * l1.length) (by omega)
    rw [Nat.one_mul] at this
    rw [show (1 : Int64) <<< ((nI (4 * l1.length)).toInt64 &&& 63) = lN (2 ^ (4 * l1.length)) from this, show (1 : Int64) = lN 1 from rfl, lN_sub (Nat.one_le_two_pow)]
  rw [hmask, l_and, Nat.and_two_pow_sub_one_eq_mod, hm1, l_or]
  have hpk : pkN l2 * 2 ^ (4 * l1.length) ||| pkN l1 = pkN (l1 ++ l2) := by
    rw [Nat.mul_comm, ← Nat.two_pow_add_eq_or_of_lt (by rw [← p16]; exact hp1), pkN_cat, p16, Nat.add_comm]
  rw [hpk]
  have hke : knN l ^^^ 2 ^ t = knN (l1 ++ l2) := by
    have := h.1
    rw [he] at this ⊢
    exact knN_rem this
  rw [hke, he, erase_mid hn1]
  rfl
def cutT (k : Nat) (l : List Nat) : List Nat := l.drop (l.length - k)
theorem row_shorten_L (n : Nat) {o : Nat} : ∀ (d f : Nat) (M : Mem) (l : List Nat), d < f → d ≤ l.length → RowAt M o l → Ro l → X_Row_shorten_L10 n o f (nI d) M = some ((), stR M o (l.drop d)) := by
  intro d
  induction d with
  | zero =>
    intro f M l h1 h2 hM h
    obtain ⟨f, rfl⟩ : ∃ g, f = g + 1 := ⟨f - 1, by omega⟩
    show (if nI 0 ≤ 0 then some ((), M) else _) = _
    rw [if_pos (by decide), List.drop_zero, stR_id hM]
  | succ d ih =>
    intro f M l h1 h2 hM h
    obtain ⟨f, rfl⟩ : ∃ g, f = g + 1 := ⟨f - 1, by omega⟩
    have hlen := h.len
    obtain ⟨t, l, rfl⟩ : ∃ t m, l = t :: m := by
      cases l with
      | nil => simp at h2
      | cons t m => exact ⟨t, m, rfl⟩
    have ht := h.2 t List.mem_cons_self
    have hRl : Ro l := ⟨(List.nodup_cons.mp h.1).2, fun x hx => h.2 x (List.mem_cons_of_mem _ hx)⟩
    have hp := pkN_lt h.2
    have hp64 : pkN (t :: l) < 2 ^ 64 := by
      have e2 : 16 ^ (t :: l).length ≤ 16 ^ 16 := Nat.pow_le_pow_right (by decide) hlen
      omega
    have hb : (knN (t :: l)).testBit t = true := by rw [knN_bit]; simp
    show (if nI (d + 1) ≤ 0 then some ((), M) else nm _ _) = _
    rw [if_neg (nI_nle (by omega) (by simp at h2 hlen; omega))]
    unfold nm
    have ep : pkN (t :: l) = t + 16 * pkN l := rfl
    have e0 : (lN (pkN (t :: l)) &&& 15 : Int64).toInt32 = nI t := by
      rw [show (15 : Int64) = lN (2 ^ 4 - 1) from rfl, l_and, Nat.and_two_pow_sub_one_eq_mod, l_to, ep]
      congr 1
      omega
    rw [hM.1, hM.2, e0, i_not ht hb (knN_lt h.2)]
    have e1 : knN (t :: l) ^^^ 2 ^ t = knN l := knN_rem (l1 := []) (l2 := l) (t := t) h.1
    rw [e1]
    show X_Row_shorten_L10 n o f (nI (d + 1) + (-1)) (sl (si M o 1 (nI (knN l))) o 0 (((si M o 1 (nI (knN l))).2 o 0).toUInt64 >>> ((4 : Int32).toInt64.toUInt64 &&& Int64.toUInt64 63)).toInt64) = _
    rw [show (si M o 1 (nI (knN l))).2 o 0 = lN (pkN (t :: l)) from hM.1, show (4 : Int32) = nI 4 from rfl, l_ushr hp64 (by decide), ep, show (t + 16 * pkN l) / 2 ^ 4 = pkN l by omega, pk_m1]
    have e2 : sl (si M o 1 (nI (knN l))) o 0 (lN (pkN l)) = stR M o l := rfl
    rw [e2, ih f _ l (by omega) (by simpa using h2) (stR_at _ _ _) hRl, stR_stR]
    rfl
theorem row_shorten (n : Nat) (hn : 17 ≤ n) {o : Nat} {M : Mem} {l : List Nat} {k : Nat} (hM : RowAt M o l) (h : Ro l) (hk : k < 100) : X_Row_shorten n o (nI k) M = some ((), stR M o (cutT k l)) := by
  have hlen := h.len
  unfold X_Row_shorten
  rw [hM.2, bitCount_eq n (knN_lt h.2), pop_knN h]
  unfold cutT
  show X_Row_shorten_L10 n o n (nI l.length - nI k) M = _
  by_cases e : k ≤ l.length
  · rw [pk_sub e]
    exact row_shorten_L n _ n M l (by omega) (by omega) hM h
  · obtain ⟨n, rfl⟩ : ∃ g, n = g + 1 := ⟨n - 1, by omega⟩
    show (if nI l.length - nI k ≤ 0 then some ((), M) else _) = _
    have : (nI l.length - nI k).toInt ≤ (0 : Int32).toInt := by
      rw [pk_sub_toInt (by omega) (by omega)]
      show (l.length : Int) - k ≤ 0
      omega
    rw [if_pos (Int32.le_iff_toInt_le.mpr this), show l.length - k = 0 by omega, List.drop_zero, stR_id hM]
end
section
/-! RULES: joins, hands; the class's Circle -/
abbrev Jn : Type := Nat × Nat × Nat
abbrev Rl : Type := Nat × Nat × List Jn × List Nat × List Nat
def jOk (q : Jn) : Prop := q.1 < 16 ∧ q.2.1 < 16 ∧ q.2.2 < 16 ∧ q.1 ≠ q.2.1 ∧ q.1 ≠ q.2.2 ∧ q.2.1 ≠ q.2.2
def les (h : Nat) : Nat := [0, 0, 1, 0, 1, 2, 0, 1, 2, 3, 0, 1, 2, 3, 4].getD h 0
def gre (h : Nat) : Nat := [1, 2, 2, 3, 3, 3, 4, 4, 4, 4, 5, 5, 5, 5, 5].getD h 0
theorem les_gre : ∀ h, h < 15 → les h < gre h ∧ gre h < 6 ∧ lsr h = nI (les h) ∧ grt h = nI (gre h) ∧ gre h * (gre h - 1) / 2 + les h = h := by decide +kernel
def OkR (R : Rl) : Prop := 2 ≤ R.1 ∧ R.1 ≤ 6 ∧ 1 ≤ R.2.1 ∧ R.2.1 ≤ 9 ∧ R.2.2.1.length ≤ 4 ∧ (∀ q ∈ R.2.2.1, jOk q) ∧ R.2.2.2.1.length ≤ 16 ∧ (∀ h ∈ R.2.2.2.1, h < 15 ∧ gre h < R.1) ∧ R.2.2.2.2.length ≤ 8 ∧ (∀ h ∈ R.2.2.2.2, h < 15 ∧ gre h < R.1)
def jIn (l : List Nat) (q : Jn) : Bool := decide (q.1 ∈ l) && decide (q.2.1 ∈ l)
def joinT (l : List Nat) (q : Jn) : List Nat := addT ((l.erase q.1).erase q.2.1) q.2.2
def settleN (js : List Jn) : Nat → List Nat → List Nat
  | 0, l => l
  | k + 1, l => match js.find? (jIn l) with
    | none => l
    | some q => settleN js k (joinT l q)
theorem settleN_s (js : List Jn) (k : Nat) (l : List Nat) : settleN js (k + 1) l = (match js.find? (jIn l) with | none => l | some q => settleN js k (joinT l q)) := rfl
def settle (R : Rl) (l : List Nat) : List Nat := cutT R.2.1 (settleN R.2.2.1 16 l)
def handF (R : Rl) (gl h : Nat) (W : Nat → List Nat) : Nat → List Nat :=
  if gl.testBit (les h) || gl.testBit (gre h) then W else fun p => if p = les h ∨ p = gre h then settle R (mergeT (W (les h)) (W (gre h))) else W p
theorem Ro.erase {l : List Nat} (h : Ro l) (t : Nat) : Ro (l.erase t) := ⟨h.1.erase t, fun x hx => h.2 x (List.mem_of_mem_erase hx)⟩
theorem Ro.join {l : List Nat} (h : Ro l) {q : Jn} (hq : jOk q) : Ro (joinT l q) := ((h.erase _).erase _).addT hq.2.2.1
theorem addT_len (l : List Nat) (t : Nat) : (addT l t).length ≤ l.length + 1 := by
  unfold addT
  split
  · omega
  · simp
theorem join_len {l : List Nat} {q : Jn} (hq : jOk q) (hi : jIn l q = true) : (joinT l q).length < l.length := by
  unfold jIn at hi
  simp only [Bool.and_eq_true, decide_eq_true_eq] at hi
  have h1 := List.length_erase_of_mem hi.1
  have hm : q.2.1 ∈ l.erase q.1 := (List.mem_erase_of_ne (fun e => hq.2.2.2.1 e.symm)).mpr hi.2
  have h2 := List.length_erase_of_mem hm
  have h3 := addT_len ((l.erase q.1).erase q.2.1) q.2.2
  have h4 : 0 < (l.erase q.1).length := List.length_pos_of_mem hm
  unfold joinT
  omega
theorem find_ok {js : List Jn} {l : List Nat} {q : Jn} (hj : ∀ q ∈ js, jOk q) (h : js.find? (jIn l) = some q) : jOk q ∧ jIn l q = true := ⟨hj q (List.mem_of_find?_eq_some h), List.find?_some h⟩
theorem Ro.settleN {js : List Jn} (hj : ∀ q ∈ js, jOk q) : ∀ (k : Nat) {l : List Nat}, Ro l → Ro (settleN js k l)
  | 0, l, h => h
  | k + 1, l, h => by
    rw [settleN_s]
    split
    · exact h
    · next q hq => exact Ro.settleN hj k (h.join (find_ok hj hq).1)
theorem Ro.drop {l : List Nat} (h : Ro l) (k : Nat) : Ro (l.drop k) := ⟨(List.drop_sublist k l).nodup h.1, fun x hx => h.2 x (List.mem_of_mem_drop hx)⟩
theorem Ro.settle {R : Rl} (hR : OkR R) {l : List Nat} (h : Ro l) : Ro (settle R l) := (h.settleN hR.2.2.2.2.2.1 16).drop _
theorem settle_len (R : Rl) (l : List Nat) : (settle R l).length ≤ R.2.1 := by
  unfold settle cutT
  rw [List.length_drop]
  omega
-- the class's circle
def XC (M : Mem) (R : Rl) : Prop := M.1 11 0 = nI R.1 ∧ M.1 11 1 = nI R.2.1 ∧ M.1 11 3 = nI R.2.2.1.length ∧ M.1 11 5 = nI R.2.2.2.1.length ∧ M.1 11 7 = nI R.2.2.2.2.length ∧
  (∀ j q, R.2.2.1[j]? = some q → M.1 12 (3 * j) = nI q.1 ∧ M.1 12 (3 * j + 1) = nI q.2.1 ∧ M.1 12 (3 * j + 2) = nI q.2.2) ∧ (∀ i h, R.2.2.2.1[i]? = some h → M.1 13 i = nI h) ∧ (∀ i h, R.2.2.2.2[i]? = some h → M.1 14 i = nI h)
def Off (S : List Nat) (M M' : Mem) : Prop := ∀ a, a ∉ S → M'.1 a = M.1 a ∧ M'.2 a = M.2 a
theorem Off.rf {S : List Nat} {M : Mem} : Off S M M := fun _ _ => ⟨rfl, rfl⟩
theorem Off.trans {S : List Nat} {M M' M2 : Mem} (h : Off S M M') (h2 : Off S M' M2) : Off S M M2 := fun a ha => ⟨(h2 a ha).1.trans (h a ha).1, (h2 a ha).2.trans (h a ha).2⟩
theorem Off.mono {S S' : List Nat} {M M' : Mem} (h : Off S M M') (hs : ∀ a ∈ S, a ∈ S') : Off S' M M' := fun a ha => h a (fun q => ha (hs a q))
theorem Off.stR {S : List Nat} {M : Mem} {o : Nat} {l : List Nat} (h : o ∈ S) : Off S M (stR M o l) := fun a ha => stR_off (fun e => ha (e ▸ h))
theorem Off.si {S : List Nat} {M : Mem} {o k : Nat} {v : Int32} (h : o ∈ S) : Off S M (si M o k v) := fun a ha => si_off (fun e => ha (e ▸ h))
theorem Off.sl {S : List Nat} {M : Mem} {o k : Nat} {v : Int64} (h : o ∈ S) : Off S M (sl M o k v) := fun a ha => sl_off (fun e => ha (e ▸ h))
theorem Off.cpL {S : List Nat} {M : Mem} {a sp b dp n : Nat} (h : b ∈ S) : Off S M (cpL M a sp b dp n) := fun x hx => cpL_off (fun e => hx (e ▸ h))
theorem Off.cpI {S : List Nat} {M : Mem} {a sp b dp n : Nat} (h : b ∈ S) : Off S M (cpI M a sp b dp n) := fun x hx => cpI_off (fun e => hx (e ▸ h))
theorem XC.off {S : List Nat} {M M' : Mem} {R : Rl} (h : XC M R) (ho : Off S M M') (h1 : (11 ∉ S ∧ 12 ∉ S ∧ 13 ∉ S ∧ 14 ∉ S)) : XC M' R := by
  obtain ⟨a1, a2, a3, a4, a5, a6, a7, a8⟩ := h
  have e1 := (ho 11 h1.1).1
  have e2 := (ho 12 h1.2.1).1
  have e3 := (ho 13 h1.2.2.1).1
  have e4 := (ho 14 h1.2.2.2).1
  unfold XC
  rw [e1, e2, e3, e4]
  exact ⟨a1, a2, a3, a4, a5, a6, a7, a8⟩
def jRes (l : List Nat) : List Jn → Nat → Int32
  | [], _ => -1
  | q :: qs, j => if jIn l q then nI (3 * j) else jRes l qs (j + 1)
theorem jRes_spec (l : List Nat) : ∀ (js : List Jn) (j0 : Nat), (jRes l js j0 = -1 ∧ js.find? (jIn l) = none) ∨ ∃ j q, js[j]? = some q ∧ jRes l js j0 = nI (3 * (j0 + j)) ∧ js.find? (jIn l) = some q
  | [], j0 => Or.inl ⟨rfl, rfl⟩
  | q :: qs, j0 => by
    unfold jRes
    by_cases h : jIn l q = true
    · exact Or.inr ⟨0, q, rfl, by rw [if_pos h]; rfl, by rw [List.find?_cons_of_pos h]⟩
    · rw [if_neg h, List.find?_cons_of_neg h]
      rcases jRes_spec l qs (j0 + 1) with ⟨h1, h2⟩ | ⟨j, q2, h1, h2, h3⟩
      · exact Or.inl ⟨h1, h2⟩
      · exact Or.inr ⟨j + 1, q2, h1, by rw [h2, show j0 + 1 + j = j0 + (j + 1) by omega], h3⟩
theorem gd_in {α : Type} {i : Int32} {n : Nat} (h : vp_in i n) (F : Option α) : gd i n F = F := if_neg h
theorem bd_ret {α β : Type} {r : α} {M : Mem} {f : α → Mem → Option β} : bd (some (r, M)) f = f r M := rfl
theorem nI_clampE {k : Nat} (h : k < 2 ^ 31) : (nI k).toNatClampNeg = k := nI_clamp h
theorem i_b2 (a b : Bool) : ((if a then 1 else 0 : Nat) &&& (if b then 1 else 0 : Nat)) = if a && b then 1 else 0 := by cases a <;> cases b <;> rfl
theorem circ_firstJoin (n : Nat) (hn : 5 ≤ n) {M : Mem} {R : Rl} {l : List Nat} (hC : XC M R) (hR : OkR R) (hM : RowAt M 15 l) (h : Ro l) : X_Circle_firstJoin n M = some (jRes l R.2.2.1 0, M) := by
  obtain ⟨a1, a2, a3, a4, a5, a6, a7, a8⟩ := hC
  obtain ⟨r1, r2, r3, r4, r5, r6, -⟩ := hR
  have hk := knN_lt h.2
  have key : ∀ (d j f : Nat), R.2.2.1.length - j = d → j ≤ R.2.2.1.length → d < f → X_Circle_firstJoin_L2 n M f (nI j) = some (jRes l (R.2.2.1.drop j) j, M) := by
    intro d
    induction d with
    | zero =>
      intro j f h1 h2 h3
      obtain ⟨f, rfl⟩ : ∃ g, f = g + 1 := ⟨f - 1, by omega⟩
      have e : j = R.2.2.1.length := by omega
      subst e
      show (if M.1 11 3 ≤ nI R.2.2.1.length then some ((-1), M) else _) = _
      rw [a3, if_pos (nI_le (Nat.le_refl _) (by omega)), List.drop_length]
      rfl
    | succ d ih =>
      intro j f h1 h2 h3
      obtain ⟨f, rfl⟩ : ∃ g, f = g + 1 := ⟨f - 1, by omega⟩
      have hj : j < R.2.2.1.length := by omega
      obtain ⟨b1, b2, b3⟩ := a6 j _ (List.getElem?_eq_getElem hj)
      have hq := r6 _ (List.getElem_mem hj)
      generalize hqe : R.2.2.1[j] = q at b1 b2 b3 hq
      show (if M.1 11 3 ≤ nI j then some ((-1), M) else _) = _
      rw [a3, if_neg (nI_ge hj (by omega)), show (3 : Int32) = nI 3 from rfl, pk_mul, nI_1]
      unfold gd
      rw [if_neg (vp_in_nI (by omega) (by omega)), if_neg (vp_in_nI (by omega) (by omega)), nI_clamp (by omega), nI_clamp (by omega), b1, b2, hM.2, i_ushr (by omega) (by have := hq.1; omega), i_ushr (by omega) (by have := hq.2.1; omega), show (1 : Int32) = nI 1 from rfl, i_and, i_and, and1]
      have e : (knN l / 2 ^ q.1 &&& knN l / 2 ^ q.2.1) % 2 = if jIn l q then 1 else 0 := by
        have e0 := Nat.and_mod_two_pow (a := knN l / 2 ^ q.1) (b := knN l / 2 ^ q.2.1) (n := 1)
        simp only [Nat.pow_one] at e0
        rw [e0, bitv, bitv, knN_bit, knN_bit, i_b2]
        rfl
      have hcons : R.2.2.1.drop j = R.2.2.1[j] :: R.2.2.1.drop (j + 1) := List.drop_eq_getElem_cons hj
      rw [e, hcons, hqe]
      unfold jRes
      by_cases hin : jIn l q = true
      · rw [if_pos hin, if_pos hin, if_neg (by decide)]
      · rw [if_neg hin, if_neg hin, if_pos (by decide), nI_add]
        exact ih (j + 1) f (by omega) (by omega) (by omega)
  exact key _ 0 n rfl (Nat.zero_le _) (by omega)
theorem settleN_fix {js : List Jn} {l : List Nat} (h : js.find? (jIn l) = none) : ∀ k, settleN js k l = l
  | 0 => rfl
  | k + 1 => by
    unfold settleN
    rw [h]
theorem circ_settle_L (n : Nat) (hn : 17 ≤ n) {R : Rl} (hR : OkR R) (kx : Mem → Option (Unit × Mem)) : ∀ (d v f : Nat) (M : Mem) (l : List Nat), v + d = 16 → d < f → XC M R → RowAt M 15 l → Ro l → X_Circle_settle_L7 n kx f (jRes l R.2.2.1 0) (nI v) M = kx (stR M 15 (settleN R.2.2.1 d l)) := by
  intro d
  induction d with
  | zero =>
    intro v f M l h1 h2 hC hM h
    obtain ⟨f, rfl⟩ : ∃ g, f = g + 1 := ⟨f - 1, by omega⟩
    have e : v = 16 := by omega
    subst e
    show (if (16 : Int32) ≤ nI 16 then kx M else _) = _
    rw [if_pos (by decide)]
    show kx M = kx (stR M 15 l)
    rw [stR_id hM]
  | succ d ih =>
    intro v f M l h1 h2 hC hM h
    obtain ⟨f, rfl⟩ : ∃ g, f = g + 1 := ⟨f - 1, by omega⟩
    show (if (16 : Int32) ≤ nI v then kx M else if jRes l R.2.2.1 0 < 0 then kx M else _) = _
    rw [if_neg (show ¬ (16 : Int32) ≤ nI v from nI_ge (a := v) (b := 16) (by omega) (by decide))]
    rcases jRes_spec l R.2.2.1 0 with ⟨e1, e2⟩ | ⟨j, q, e1, e2, e3⟩
    · rw [e1, if_pos (by decide), settleN_fix e2, stR_id hM]
    · have hj : j < R.2.2.1.length := (List.getElem?_eq_some_iff.mp e1).1
      have hj4 := hR.2.2.2.2.1
      obtain ⟨hq, hqi⟩ := find_ok hR.2.2.2.2.2.1 e3
      obtain ⟨b1, b2, b3⟩ := hC.2.2.2.2.2.1 j q e1
      have hqi' := hqi
      unfold jIn at hqi'
      simp only [Bool.and_eq_true, decide_eq_true_eq] at hqi'
      rw [e2, Nat.zero_add, if_neg (nI_pos (by omega)), nI_1, show (2 : Int32) = nI 2 from rfl, nI_add]
      have v0 : vp_in (nI (3 * j)) 12 := vp_in_nI (by omega) (by omega)
      have v1 : vp_in (nI (3 * j + 1)) 12 := vp_in_nI (by omega) (by omega)
      have v2 : vp_in (nI (3 * j + 2)) 12 := vp_in_nI (by omega) (by omega)
      simp only [gd_in v0, gd_in v1, gd_in v2]
      rw [nI_clamp (show 3 * j < 2 ^ 31 by omega), nI_clamp (show 3 * j + 1 < 2 ^ 31 by omega), nI_clamp (show 3 * j + 2 < 2 ^ 31 by omega), b1, row_drop n hn hM h hqi'.1]
      rw [bd_ret, (stR_off (by decide) : (stR M 15 (l.erase q.1)).1 12 = M.1 12 ∧ _).1, b2, row_drop n hn (stR_at M 15 (l.erase q.1)) (h.erase _) ((List.mem_erase_of_ne (fun e => hq.2.2.2.1 e.symm)).mpr hqi'.2), stR_stR]
      rw [bd_ret, (stR_off (by decide) : (stR M 15 ((l.erase q.1).erase q.2.1)).1 12 = M.1 12 ∧ _).1, b3, row_add n (stR_at M 15 _) ((h.erase _).erase _) hq.2.2.1, stR_stR]
      rw [bd_ret]
      have hC2 : XC (stR M 15 (joinT l q)) R := hC.off (Off.stR (S := [15]) (by decide)) (by decide)
      rw [show addT ((l.erase q.1).erase q.2.1) q.2.2 = joinT l q from rfl, circ_firstJoin n (by omega) hC2 hR (stR_at _ _ _) (h.join hq), bd_ret, nI_1, ih (v + 1) f _ _ (by omega) (by omega) hC2 (stR_at _ _ _) (h.join hq), stR_stR]
      have es : settleN R.2.2.1 (d + 1) l = settleN R.2.2.1 d (joinT l q) := by
        show (match R.2.2.1.find? (jIn l) with | none => l | some q => settleN R.2.2.1 d (joinT l q)) = _
        rw [e3]
      rw [es]
theorem circ_settle (n : Nat) (hn : 17 ≤ n) {M : Mem} {R : Rl} (hR : OkR R) {l : List Nat} (hC : XC M R) (hM : RowAt M 15 l) (h : Ro l) : X_Circle_settle n M = some ((), stR M 15 (settle R l)) := by
  unfold X_Circle_settle
  rw [circ_firstJoin n (by omega) hC hR hM h]
  show X_Circle_settle_L7 n _ n (jRes l R.2.2.1 0) (nI 0) M = _
  rw [circ_settle_L n hn hR _ 16 0 n M l (by omega) (by omega) hC hM h]
  have hC2 : XC (stR M 15 (settleN R.2.2.1 16 l)) R := hC.off (Off.stR (S := [15]) (by decide)) (by decide)
  have hh := hR.2.2.2.1
  rw [hC2.2.1, row_shorten n hn (stR_at _ _ _) (h.settleN hR.2.2.2.2.2.1 16) (by omega), stR_stR]
  rfl
theorem encN_inj {l m : List Nat} (hl : Ro l) (hm : Ro m) (h1 : l.length ≤ 9) (h2 : m.length ≤ 9) (h : encN l = encN m) : l = m := by
  have a1 := pk36 hl h1
  have a2 := pk36 hm h2
  unfold encN at h
  have e1 : pkN l = pkN m := by omega
  have e2 : knN l = knN m := by omega
  have e3 : l.length = m.length := by rw [← pop_knN hl, ← pop_knN hm, e2]
  refine List.ext_getElem e3 (fun i g1 g2 => ?_)
  rw [← pkN_get hl.2 g1, ← pkN_get hm.2 g2, e1]
theorem enc_inj {l m : List Nat} (hl : Ro l) (hm : Ro m) (h1 : l.length ≤ 9) (h2 : m.length ≤ 9) : enc l = enc m ↔ l = m := by
  constructor
  · intro h
    have a1 := encN_lt hl h1
    have a2 := encN_lt hm h2
    exact encN_inj hl hm h1 h2 ((l_eq (by omega) (by omega)).mp h)
  · intro h; rw [h]
def OkW (W : Nat → List Nat) : Prop := ∀ p, Ro (W p) ∧ (W p).length ≤ 9
def rowsAt (M : Mem) (rows : Nat) (W : Nat → List Nat) : Prop := ∀ p, p < 6 → M.2 rows p = enc (W p)
theorem settle_le9 {R : Rl} (hR : OkR R) (l : List Nat) : (settle R l).length ≤ 9 := Nat.le_trans (settle_len R l) hR.2.2.2.1
theorem OkW.hand {R : Rl} (hR : OkR R) {W : Nat → List Nat} (h : OkW W) (gl x : Nat) : OkW (handF R gl x W) := by
  intro p
  unfold handF
  split
  · exact h p
  · dsimp only
    split
    · exact ⟨((h _).1.merge (h _).1.2).settle hR, settle_le9 hR _⟩
    · exact h p
theorem rowsAt.off {S : List Nat} {M M' : Mem} {rows : Nat} {W : Nat → List Nat} (h : rowsAt M rows W) (ho : Off S M M') (hs : rows ∉ S) : rowsAt M' rows W := fun p hp => by rw [(ho rows hs).2]; exact h p hp
theorem circ_taught (n : Nat) (hn : 17 ≤ n) {M : Mem} {R : Rl} (hR : OkR R) (hC : XC M R) {l : List Nat} (h : Ro l) (hl : l.length ≤ 9) {t : Nat} (ht : t < 16) : X_Circle_taught n (enc l) (nI t) M = some (enc (settle R (addT l t)), stR M 15 (settle R (addT l t))) := by
  unfold X_Circle_taught
  have hC2 : XC (stR M 15 (addT l t)) R := hC.off (Off.stR (S := [15]) (by decide)) (by decide)
  rw [row_take n h hl, bd_ret, row_add n (stR_at _ _ _) h ht, bd_ret, stR_stR, circ_settle n hn hR hC2 (stR_at _ _ _) (h.addT ht), bd_ret, stR_stR, row_atRest n (stR_at _ _ _) ((h.addT ht).settle hR) (settle_le9 hR _)]
  rfl
theorem circ_without (n : Nat) (hn : 17 ≤ n) {M : Mem} {l : List Nat} (h : Ro l) (hl : l.length ≤ 9) {t : Nat} (ht : t ∈ l) : X_Circle_without n (enc l) (nI t) M = some (enc (l.erase t), stR M 15 (l.erase t)) := by
  unfold X_Circle_without
  have hl2 : (l.erase t).length ≤ 9 := Nat.le_trans (List.length_erase_le) hl
  rw [row_take n h hl, bd_ret, row_drop n hn (stR_at _ _ _) h ht, bd_ret, stR_stR, row_atRest n (stR_at _ _ _) (h.erase t) hl2]
  rfl
theorem bit_or2 {gl a b : Nat} (hg : gl < 2 ^ 31) (ha : a < 32) (hb : b < 32) : ((((nI gl).toUInt32 >>> ((nI a).toUInt32 &&& Int32.toUInt32 31)).toInt32 ||| ((nI gl).toUInt32 >>> ((nI b).toUInt32 &&& Int32.toUInt32 31)).toInt32) &&& 1) = if gl.testBit a || gl.testBit b then 1 else 0 := by
  rw [i_ushr (by omega) ha, i_ushr (by omega) hb, i_or, show (1 : Int32) = nI 1 from rfl, i_and, and1]
  have e := Nat.or_mod_two_pow (a := gl / 2 ^ a) (b := gl / 2 ^ b) (n := 1)
  simp only [Nat.pow_one] at e
  rw [e, bitv, bitv]
  cases gl.testBit a <;> cases gl.testBit b <;> rfl
theorem circ_meet (n : Nat) (hn : 17 ≤ n) {M : Mem} {R : Rl} (hR : OkR R) (hC : XC M R) {rows : Nat} (hr : rows ≠ 11 ∧ rows ≠ 12 ∧ rows ≠ 13 ∧ rows ≠ 14 ∧ rows ≠ 15) {W : Nat → List Nat} (hW : OkW W) (hM : rowsAt M rows W) {gl x : Nat} (hg : gl < 2 ^ 31) (hx : x < 15) :
    ∃ r M', X_Circle_meet n rows (nI gl) (nI x) M = some (r, M') ∧ Off [15, rows] M M' ∧ rowsAt M' rows (handF R gl x W) ∧ ((r = 0 ∧ ∀ p, p < 6 → handF R gl x W p = W p) ∨ (r = 1 ∧ ∃ p, p < 6 ∧ handF R gl x W p ≠ W p)) := by
  obtain ⟨p1, p2, p3, p4, p5⟩ := les_gre x hx
  have v15 : vp_in (nI x) 15 := vp_in_nI hx (by decide)
  have va : vp_in (nI (les x)) 6 := vp_in_nI (by omega) (by decide)
  have vb : vp_in (nI (gre x)) 6 := vp_in_nI (by omega) (by decide)
  have ea : (nI (les x)).toNatClampNeg = les x := nI_clamp (by omega)
  have eb : (nI (gre x)).toNatClampNeg = gre x := nI_clamp (by omega)
  have ex : (nI x).toNatClampNeg = x := nI_clamp (by omega)
  simp only [X_Circle_meet, nm, gd_in v15, ex, p3, p4, gd_in va, gd_in vb, ea, eb]
  rw [if_neg (nI_pos (by omega)), if_pos (show nI x < 15 from nI_lt (b := 15) hx (by decide)), bit_or2 hg (by omega) (by omega)]
  have hun : handF R gl x W = if gl.testBit (les x) || gl.testBit (gre x) then W else fun p => if p = les x ∨ p = gre x then settle R (mergeT (W (les x)) (W (gre x))) else W p := rfl
  generalize les x = a at *
  generalize gre x = b at *
  by_cases hgl : (gl.testBit a || gl.testBit b) = true
  · rw [if_pos hgl] at hun
    rw [if_pos hgl, if_neg (by decide)]
    refine ⟨0, M, rfl, Off.rf, by rw [hun]; exact hM, Or.inl ⟨rfl, fun p hp => by rw [hun]⟩⟩
  · rw [if_neg hgl] at hun
    rw [if_neg hgl, if_pos rfl]
    have hr15 : (15 : Nat) ≠ rows := fun e => hr.2.2.2.2 e.symm
    have kr : ∀ l, (stR M 15 l).2 rows = M.2 rows := fun l => (stR_off hr.2.2.2.2).2
    have hA := hW a
    have hB := hW b
    have hl : Ro (settle R (mergeT (W a) (W b))) := (hA.1.merge hB.1.2).settle hR
    have hl9 := settle_le9 hR (mergeT (W a) (W b))
    have hC2 : XC (stR M 15 (mergeT (W a) (W b))) R := hC.off (Off.stR (S := [15]) (by decide)) (by decide)
    rw [hM a (by omega), row_take n hA.1 hA.2, bd_ret, kr, hM b (by omega), row_addAll n (by omega) (stR_at _ _ _) hA.1 hB.1 hB.2, stR_stR, bd_ret, circ_settle n hn hR hC2 (stR_at _ _ _) (hA.1.merge hB.1.2), stR_stR, bd_ret, row_atRest n (stR_at _ _ _) hl hl9, bd_ret, kr, hM a (by omega), hM b (by omega)]
    generalize settle R (mergeT (W a) (W b)) = l at *
    have key : ∀ u : Int32, (u = 0 ∨ u = 1) → ((u = 0 ∧ ∀ p, p < 6 → handF R gl x W p = W p) ∨ (u = 1 ∧ ∃ p, p < 6 ∧ handF R gl x W p ≠ W p)) → ∃ r M', zr u (sl (sl (stR M 15 l) rows a (enc l)) rows b (enc l)) = some (r, M') ∧ Off [15, rows] M M' ∧ rowsAt M' rows (handF R gl x W) ∧ ((r = 0 ∧ ∀ p, p < 6 → handF R gl x W p = W p) ∨ (r = 1 ∧ ∃ p, p < 6 ∧ handF R gl x W p ≠ W p)) := by
      intro u hu hu2
      refine ⟨u, _, if_pos hu, ?_, ?_, hu2⟩
      · exact ((Off.stR (S := [15, rows]) (by simp)).trans (Off.sl (by simp))).trans (Off.sl (by simp))
      · intro p hp
        rw [hun]
        show (if rows = rows ∧ p = b then enc l else if rows = rows ∧ p = a then enc l else (stR M 15 l).2 rows p) = enc (if p = a ∨ p = b then l else W p)
        rw [kr, hM p hp]
        by_cases e1 : p = b
        · simp [e1]
        · by_cases e2 : p = a
          · simp [e1, e2]
          · simp [e1, e2]
    have hne : ∀ q, q = a ∨ q = b → l ≠ W q → ∃ p, p < 6 ∧ handF R gl x W p ≠ W p := by
      intro q hq hlq
      refine ⟨q, by rcases hq with e | e <;> omega, ?_⟩
      rw [hun]
      dsimp only
      rw [if_pos hq]
      exact hlq
    by_cases e1 : l = W a
    · rw [if_pos (by rw [l_cmp0, e1])]
      by_cases e2 : l = W b
      · rw [if_pos (by rw [l_cmp0, e2])]
        refine key 0 (Or.inl rfl) (Or.inl ⟨rfl, fun p hp => ?_⟩)
        rw [hun]
        dsimp only
        split
        · next h => rcases h with h | h
                    · rw [h, e1]
                    · rw [h, e2]
        · rfl
      · rw [if_neg (by rw [l_cmp0, enc_inj hl hB.1 hl9 hB.2]; exact e2)]
        exact key 1 (Or.inr rfl) (Or.inr ⟨rfl, hne b (Or.inr rfl) e2⟩)
    · rw [if_neg (by rw [l_cmp0, enc_inj hl hA.1 hl9 hA.2]; exact e1)]
      exact key 1 (Or.inr rfl) (Or.inr ⟨rfl, hne a (Or.inl rfl) e1⟩)
def feastF (R : Rl) (gl : Nat) (hs : List Nat) (W : Nat → List Nat) : Nat → List Nat := hs.foldl (fun W h => handF R gl h W) W
theorem OkW.feast {R : Rl} (hR : OkR R) {gl : Nat} : ∀ (hs : List Nat) {W : Nat → List Nat}, OkW W → OkW (feastF R gl hs W)
  | [], _, h => h
  | x :: hs, W, h => OkW.feast hR hs (h.hand hR gl x)
theorem circ_celebrate (n : Nat) (hn : 17 ≤ n) {R : Rl} (hR : OkR R) {rows : Nat} (hr : rows ≠ 11 ∧ rows ≠ 12 ∧ rows ≠ 13 ∧ rows ≠ 14 ∧ rows ≠ 15) {gl : Nat} (hg : gl < 2 ^ 31) {k : Nat} (hk : k ≤ R.2.2.2.1.length) {M : Mem} (hC : XC M R) {W : Nat → List Nat} (hW : OkW W) (hM : rowsAt M rows W) :
    ∃ M', X_Circle_celebrate n rows (nI gl) (nI k) M = some ((), M') ∧ Off [15, rows] M M' ∧ rowsAt M' rows (feastF R gl (R.2.2.2.1.take k) W) := by
  have hl16 := hR.2.2.2.2.2.2.1
  have key : ∀ (d i f : Nat) (M : Mem) (W : Nat → List Nat), k - i = d → i ≤ k → d < f → XC M R → OkW W → rowsAt M rows W → ∃ M', X_Circle_celebrate_L3 n rows (nI gl) (nI k) f (nI i) M = some ((), M') ∧ Off [15, rows] M M' ∧ rowsAt M' rows (feastF R gl ((R.2.2.2.1.take k).drop i) W) := by
    intro d
    induction d with
    | zero =>
      intro i f M W h1 h2 h3 hC hW hM
      obtain ⟨f, rfl⟩ : ∃ g, f = g + 1 := ⟨f - 1, by omega⟩
      have e : i = k := by omega
      subst e
      refine ⟨M, ?_, Off.rf, ?_⟩
      · show (if nI i ≤ nI i then some ((), M) else _) = _
        rw [if_pos (nI_le (Nat.le_refl _) (by omega))]
      · rw [List.drop_eq_nil_of_le (by rw [List.length_take]; omega)]
        exact hM
    | succ d ih =>
      intro i f M W h1 h2 h3 hC hW hM
      obtain ⟨f, rfl⟩ : ∃ g, f = g + 1 := ⟨f - 1, by omega⟩
      have hi : i < R.2.2.2.1.length := by omega
      have e1 := hC.2.2.2.1
      have e2 := hC.2.2.2.2.2.2.1 i _ (List.getElem?_eq_getElem hi)
      have hx := hR.2.2.2.2.2.2.2.1 _ (List.getElem_mem hi)
      obtain ⟨r, M1, g1, g2, g3, -⟩ := circ_meet n hn hR hC hr hW hM hg hx.1
      have hC1 : XC M1 R := hC.off g2 (by simp; omega)
      obtain ⟨M2, q1, q2, q3⟩ := ih (i + 1) f M1 _ (by omega) (by omega) (by omega) hC1 (hW.hand hR gl _) g3
      refine ⟨M2, ?_, g2.trans q2, ?_⟩
      · show (if nI k ≤ nI i then some ((), M) else if M.1 11 5 ≤ nI i then some ((), M) else gd (nI i) 16 (bd (X_Circle_meet n rows (nI gl) (M.1 13 (nI i).toNatClampNeg) M) fun r1 M2 => X_Circle_celebrate_L3 n rows (nI gl) (nI k) f (nI i + 1) M2)) = _
        rw [if_neg (nI_ge (by omega) (by omega)), e1, if_neg (nI_ge hi (by omega)), gd_in (vp_in_nI (by omega) (by decide)), nI_clamp (by omega), e2, g1, bd_ret, nI_1]
        exact q1
      · have hd : (R.2.2.2.1.take k).drop i = R.2.2.2.1[i] :: (R.2.2.2.1.take k).drop (i + 1) := by
          rw [List.drop_eq_getElem_cons (by rw [List.length_take]; omega)]
          simp
        rw [hd]
        exact q3
  obtain ⟨M2, q1, q2, q3⟩ := key k 0 n M W rfl (Nat.zero_le _) (by omega) hC hW hM
  exact ⟨M2, q1, q2, q3⟩
theorem circ_liveDay (n : Nat) (hn : 17 ≤ n) {R : Rl} (hR : OkR R) {rows : Nat} (hr : rows ≠ 11 ∧ rows ≠ 12 ∧ rows ≠ 13 ∧ rows ≠ 14 ∧ rows ≠ 15) {gl : Nat} (hg : gl < 2 ^ 31) {M : Mem} (hC : XC M R) {W : Nat → List Nat} (hW : OkW W) (hM : rowsAt M rows W) :
    ∃ M', X_Circle_liveDay n rows (nI gl) M = some ((), M') ∧ Off [15, rows] M M' ∧ rowsAt M' rows (feastF R gl R.2.2.2.2 W) := by
  have hl8 := hR.2.2.2.2.2.2.2.2.1
  have key : ∀ (d i f : Nat) (M : Mem) (W : Nat → List Nat), R.2.2.2.2.length - i = d → i ≤ R.2.2.2.2.length → d < f → XC M R → OkW W → rowsAt M rows W → ∃ M', X_Circle_liveDay_L2 n rows (nI gl) f (nI i) M = some ((), M') ∧ Off [15, rows] M M' ∧ rowsAt M' rows (feastF R gl (R.2.2.2.2.drop i) W) := by
    intro d
    induction d with
    | zero =>
      intro i f M W h1 h2 h3 hC hW hM
      obtain ⟨f, rfl⟩ : ∃ g, f = g + 1 := ⟨f - 1, by omega⟩
      have e : i = R.2.2.2.2.length := by omega
      subst e
      refine ⟨M, ?_, Off.rf, ?_⟩
      · show (if M.1 11 7 ≤ nI R.2.2.2.2.length then some ((), M) else _) = _
        rw [hC.2.2.2.2.1, if_pos (nI_le (Nat.le_refl _) (by omega))]
      · rw [List.drop_length]
        exact hM
    | succ d ih =>
      intro i f M W h1 h2 h3 hC hW hM
      obtain ⟨f, rfl⟩ : ∃ g, f = g + 1 := ⟨f - 1, by omega⟩
      have hi : i < R.2.2.2.2.length := by omega
      have e1 := hC.2.2.2.2.1
      have e2 := hC.2.2.2.2.2.2.2 i _ (List.getElem?_eq_getElem hi)
      have hx := hR.2.2.2.2.2.2.2.2.2 _ (List.getElem_mem hi)
      obtain ⟨r, M1, g1, g2, g3, -⟩ := circ_meet n hn hR hC hr hW hM hg hx.1
      have hC1 : XC M1 R := hC.off g2 (by simp; omega)
      obtain ⟨M2, q1, q2, q3⟩ := ih (i + 1) f M1 _ (by omega) (by omega) (by omega) hC1 (hW.hand hR gl _) g3
      refine ⟨M2, ?_, g2.trans q2, ?_⟩
      · show (if M.1 11 7 ≤ nI i then some ((), M) else gd (nI i) 8 (bd (X_Circle_meet n rows (nI gl) (M.1 14 (nI i).toNatClampNeg) M) fun r1 M2 => X_Circle_liveDay_L2 n rows (nI gl) f (nI i + 1) M2)) = _
        rw [e1, if_neg (nI_ge hi (by omega)), gd_in (vp_in_nI (by omega) (by decide)), nI_clamp (by omega), e2, g1, bd_ret, nI_1]
        exact q1
      · rw [List.drop_eq_getElem_cons hi]
        exact q3
  obtain ⟨M2, q1, q2, q3⟩ := key _ 0 n M W rfl (Nat.zero_le _) (by omega) hC hW hM
  exact ⟨M2, q1, q2, q3⟩
-- who knows a thing, what anybody knows: bits of the first k people
def whoN (W : Nat → List Nat) (t : Nat) : Nat → Nat
  | 0 => 0
  | k + 1 => whoN W t k ||| (if t ∈ W k then 2 ^ k else 0)
def anyN (W : Nat → List Nat) : Nat → Nat
  | 0 => 0
  | k + 1 => anyN W k ||| knN (W k)
theorem whoN_bit (W : Nat → List Nat) (t p : Nat) : ∀ k, (whoN W t k).testBit p = decide (p < k ∧ t ∈ W p)
  | 0 => by simp [whoN]
  | k + 1 => by
    show (whoN W t k ||| (if t ∈ W k then 2 ^ k else 0)).testBit p = _
    rw [Nat.testBit_or, whoN_bit W t p k]
    by_cases e : p = k
    · subst e
      by_cases h : t ∈ W p <;> simp [h]
    · have e2 : ¬ k = p := fun q => e q.symm
      by_cases h : t ∈ W k
      · simp only [h, if_true, Nat.testBit_two_pow, e2, decide_false, Bool.or_false]
        congr 1
        exact propext ⟨fun q => ⟨by omega, q.2⟩, fun q => ⟨by omega, q.2⟩⟩
      · simp only [h, if_false, Nat.zero_testBit, Bool.or_false]
        congr 1
        exact propext ⟨fun q => ⟨by omega, q.2⟩, fun q => ⟨by omega, q.2⟩⟩
theorem whoN_lt (W : Nat → List Nat) (t k : Nat) : whoN W t k < 2 ^ k := Nat.lt_pow_two_of_testBit _ (fun i hi => by
  rw [whoN_bit]
  simp
  omega)
theorem minds_knowers (n : Nat) (hn : 7 ≤ n) {M : Mem} {rows : Nat} {W : Nat → List Nat} (hW : OkW W) (hM : rowsAt M rows W) {t : Nat} (ht : t < 16) : X_Minds_knowers n rows (nI t) M = some (nI (whoN W t 6), M) := by
  have key : ∀ (d i f : Nat), 6 - i = d → i ≤ 6 → d < f → X_Minds_knowers_L4 n rows (nI t) M f (nI (whoN W t i)) (nI i) = some (nI (whoN W t 6), M) := by
    intro d
    induction d with
    | zero =>
      intro i f h1 h2 h3
      obtain ⟨f, rfl⟩ : ∃ g, f = g + 1 := ⟨f - 1, by omega⟩
      have e : i = 6 := by omega
      subst e
      show (if (6 : Int32) ≤ nI 6 then _ else _) = _
      rw [if_pos (by decide)]
    | succ d ih =>
      intro i f h1 h2 h3
      obtain ⟨f, rfl⟩ : ∃ g, f = g + 1 := ⟨f - 1, by omega⟩
      have hi : i < 6 := by omega
      show (if (6 : Int32) ≤ nI i then _ else gd (nI i) 6 (X_Minds_knowers_L4 n rows (nI t) M f (nI (whoN W t i) ||| ((((M.2 rows (nI i).toNatClampNeg).toUInt64 >>> (((36 : Int32) + nI t).toInt64.toUInt64 &&& Int64.toUInt64 63)).toInt64 &&& 1 : Int64).toInt32 <<< (nI i &&& 31))) (nI i + 1))) = _
      rw [if_neg (show ¬ (6 : Int32) ≤ nI i from nI_ge (b := 6) hi (by decide)), gd_in (vp_in_nI hi (by decide)), nI_clamp (by omega), hM i hi, enc_bit (hW i).1 (hW i).2 ht, l_to, nI_1]
      have e : nI (if t ∈ W i then 1 else 0) <<< (nI i &&& 31) = nI (if t ∈ W i then 2 ^ i else 0) := by
        by_cases h : t ∈ W i
        · rw [if_pos h, if_pos h]
          exact i_shl1 (by omega)
        · rw [if_neg h, if_neg h, i_shl (by omega) (by omega), Nat.zero_mul]
      rw [e, i_or]
      exact ih (i + 1) f (by omega) (by omega) (by omega)
  exact key 6 0 n rfl (by decide) (by omega)
theorem or_div (a b k : Nat) : (a ||| b) / 2 ^ k = a / 2 ^ k ||| b / 2 ^ k := by
  rw [← Nat.shiftRight_eq_div_pow, ← Nat.shiftRight_eq_div_pow, ← Nat.shiftRight_eq_div_pow, Nat.shiftRight_or_distrib]
end
section
/-! THE REFERENCE: rows as arrays -/
def RwM (M : Mem) (c b : Nat) (l : List Nat) : Prop := M.1 c b = nI l.length ∧ ∀ i t, l[i]? = some t → M.1 c (b + 1 + i) = nI t
def MkAt (M : Mem) (l : List Nat) : Prop := M.1 0 35 = nI l.length ∧ ∀ i t, l[i]? = some t → M.1 16 i = nI t
def Fr (P : Nat → Nat → Prop) (M M' : Mem) : Prop := ∀ a k, ¬ P a k → M'.1 a k = M.1 a k ∧ M'.2 a k = M.2 a k
theorem Fr.rf {P : Nat → Nat → Prop} {M : Mem} : Fr P M M := fun _ _ _ => ⟨rfl, rfl⟩
theorem Fr.trans {P : Nat → Nat → Prop} {M M' M2 : Mem} (h : Fr P M M') (h2 : Fr P M' M2) : Fr P M M2 := fun a k ha => ⟨(h2 a k ha).1.trans (h a k ha).1, (h2 a k ha).2.trans (h a k ha).2⟩
theorem Fr.mono {P Q : Nat → Nat → Prop} {M M' : Mem} (h : Fr P M M') (hs : ∀ a k, P a k → Q a k) : Fr Q M M' := fun a k ha => h a k (fun q => ha (hs a k q))
theorem Fr.si {P : Nat → Nat → Prop} {M : Mem} {a k : Nat} {v : Int32} (h : P a k) : Fr P M (si M a k v) := fun x y hx => ⟨if_neg (fun e => hx (by rw [e.1, e.2]; exact h)), rfl⟩
theorem Fr.sl {P : Nat → Nat → Prop} {M : Mem} {a k : Nat} {v : Int64} (h : P a k) : Fr P M (sl M a k v) := fun x y hx => ⟨rfl, if_neg (fun e => hx (by rw [e.1, e.2]; exact h))⟩
theorem Fr.cpI {P : Nat → Nat → Prop} {M : Mem} {a sp b dp n : Nat} (h : ∀ k, dp ≤ k → k < dp + n → P b k) : Fr P M (cpI M a sp b dp n) := fun x y hx => ⟨if_neg (fun e => hx (by rw [e.1]; exact h y e.2.1 e.2.2)), rfl⟩
theorem si_at (M : Mem) (a k : Nat) (v : Int32) : (si M a k v).1 a k = v := if_pos ⟨rfl, rfl⟩
theorem si_ne {M : Mem} {a k x y : Nat} {v : Int32} (h : x ≠ a ∨ y ≠ k) : (si M a k v).1 x y = M.1 x y := if_neg (fun e => by exact h.elim (fun q => q e.1) (fun q => q e.2))
theorem RwM.fr {P : Nat → Nat → Prop} {M M' : Mem} {c b : Nat} {l : List Nat} (h : RwM M c b l) (ho : Fr P M M') (hp : ∀ k, b ≤ k → k ≤ b + l.length → ¬ P c k) : RwM M' c b l := by
  refine ⟨by rw [(ho c b (hp b (Nat.le_refl _) (by omega))).1]; exact h.1, fun i t hi => ?_⟩
  have hl := (List.getElem?_eq_some_iff.mp hi).1
  rw [(ho c _ (hp (b + 1 + i) (by omega) (by omega))).1]
  exact h.2 i t hi
theorem MkAt.fr {P : Nat → Nat → Prop} {M M' : Mem} {l : List Nat} (h : MkAt M l) (ho : Fr P M M') (h1 : ¬ P 0 35) (h2 : ∀ k, ¬ P 16 k) : MkAt M' l := by
  refine ⟨by rw [(ho 0 35 h1).1]; exact h.1, fun i t hi => ?_⟩
  rw [(ho 16 i (h2 i)).1]
  exact h.2 i t hi
def mk (a k : Nat) : Prop := a = 16 ∨ (a = 0 ∧ k = 35)
theorem i_cases (p : Int32) : p < 0 ∨ ∃ k, k < 2 ^ 31 ∧ p = nI k := by
  by_cases h : p < 0
  · exact Or.inl h
  · refine Or.inr ⟨p.toNatClampNeg, ?_, ?_⟩
    · have := p.toInt_lt
      show p.toInt.toNat < 2 ^ 31
      omega
    · have h0 : (0 : Int) ≤ p.toInt := by
        have := mt Int32.lt_iff_toInt_lt.mpr h
        have e : (0 : Int32).toInt = 0 := rfl
        omega
      apply Int32.toInt_inj.mp
      have e2 := nI_toInt (n := p.toNatClampNeg) (by have := p.toInt_lt; show p.toInt.toNat < 2 ^ 31; omega)
      rw [e2]
      show p.toInt = ((p.toInt.toNat : Nat) : Int)
      omega
theorem i_out {P : Nat} (hP : P < 2 ^ 31) {p : Int32} (h : ¬ ∃ k, k < P ∧ p = nI k) : p < 0 ∨ nI P ≤ p := by
  rcases i_cases p with h1 | ⟨k, h1, h2⟩
  · exact Or.inl h1
  · by_cases h3 : k < P
    · exact absurd ⟨k, h3, h2⟩ h
    · right
      rw [h2]
      exact nI_le (by omega) h1
theorem lg_lt (x y : Int32) : lg_cmp x.toInt64 y.toInt64 < 0 ↔ x < y := by
  unfold lg_cmp
  have e1 : x.toInt64 > y.toInt64 ↔ y < x := by
    rw [gt_iff_lt, Int64.lt_iff_toInt_lt, Int32.lt_iff_toInt_lt, Int32.toInt_toInt64, Int32.toInt_toInt64]
  have e2 : x.toInt64 = y.toInt64 ↔ x = y := by
    rw [← Int64.toInt_inj, ← Int32.toInt_inj, Int32.toInt_toInt64, Int32.toInt_toInt64]
  by_cases h1 : y < x
  · rw [if_pos (e1.mpr h1)]
    have : ¬ x < y := by rw [Int32.lt_iff_toInt_lt] at *; omega
    simp [this]
  · rw [if_neg (fun q => h1 (e1.mp q))]
    by_cases h2 : x = y
    · rw [if_pos (e2.mpr h2)]
      have : ¬ x < y := by rw [h2]; exact Int32.lt_irrefl
      simp [this]
    · rw [if_neg (fun q => h2 (e2.mp q))]
      have : x < y := by
        have h3 : x.toInt ≠ y.toInt := fun q => h2 (Int32.toInt_inj.mp q)
        rw [Int32.lt_iff_toInt_lt] at *
        omega
      simp only [this, iff_true]
      decide
theorem lg_gt (x y : Int32) : 0 < lg_cmp x.toInt64 y.toInt64 ↔ y < x := by
  unfold lg_cmp
  have e1 : x.toInt64 > y.toInt64 ↔ y < x := by
    rw [gt_iff_lt, Int64.lt_iff_toInt_lt, Int32.lt_iff_toInt_lt, Int32.toInt_toInt64, Int32.toInt_toInt64]
  by_cases h1 : y < x
  · rw [if_pos (e1.mpr h1)]
    simp only [h1, iff_true]
    decide
  · rw [if_neg (fun q => h1 (e1.mp q))]
    simp only [h1, iff_false]
    split <;> decide
theorem m_in (n : Nat) (x lo hi : Int32) (M : Mem) : X_Model_in n x.toInt64 lo.toInt64 hi.toInt64 M = some (if lo ≤ x ∧ x ≤ hi then 1 else 0, M) := by
  unfold X_Model_in
  have e1 := lg_lt x lo
  have e2 := lg_gt x hi
  by_cases h1 : x < lo
  · have : ¬ lo ≤ x := by rw [Int32.le_iff_toInt_le]; rw [Int32.lt_iff_toInt_lt] at h1; omega
    rw [if_pos (e1.mpr h1), if_neg (fun q => this q.1)]
  · have h1' : lo ≤ x := by rw [Int32.le_iff_toInt_le]; rw [Int32.lt_iff_toInt_lt] at h1; omega
    rw [if_neg (fun q => h1 (e1.mp q))]
    by_cases h2 : hi < x
    · have : ¬ x ≤ hi := by rw [Int32.le_iff_toInt_le]; rw [Int32.lt_iff_toInt_lt] at h2; omega
      rw [if_pos (e2.mpr h2), if_neg (fun q => this q.2)]
    · have h2' : x ≤ hi := by rw [Int32.le_iff_toInt_le]; rw [Int32.lt_iff_toInt_lt] at h2; omega
      rw [if_neg (fun q => h2 (e2.mp q)), if_pos ⟨h1', h2'⟩]
-- in 0 .. P - 1
theorem m_inY (n : Nat) {P k : Nat} (hP : P < 2 ^ 31) (hk : k < P) (M : Mem) : X_Model_in n (nI k).toInt64 0 (nI (P - 1)).toInt64 M = some (1, M) := by
  have := m_in n (nI k) 0 (nI (P - 1)) M
  rw [if_pos ⟨nI_pos' (by omega), nI_le (by omega) (by omega)⟩] at this
  exact this
theorem m_inN (n : Nat) {P : Nat} (hP : P < 2 ^ 31) {p : Int32} (h : ¬ ∃ k, k < P ∧ p = nI k) (M : Mem) : X_Model_in n p.toInt64 0 (nI P - 1).toInt64 M = some (0, M) := by
  have := m_in n p 0 (nI P - 1) M
  rw [if_neg] at this
  · exact this
  · intro ⟨q1, q2⟩
    rcases i_out hP h with h1 | h1
    · rw [Int32.le_iff_toInt_le] at q1
      rw [Int32.lt_iff_toInt_lt] at h1
      omega
    · have e0 := Int32.le_iff_toInt_le.mp (Int32.le_trans h1 q2)
      cases P with
      | zero =>
        have e1 := Int32.le_iff_toInt_le.mp q1
        have e2 := Int32.le_iff_toInt_le.mp q2
        have e3 : (nI 0 - 1 : Int32).toInt = -1 := rfl
        have e4 : (0 : Int32).toInt = 0 := rfl
        omega
      | succ P =>
        have e : nI (P + 1) - 1 = nI P := pk_sub (a := P + 1) (b := 1) (by omega)
        rw [e, nI_toInt hP, nI_toInt (by omega)] at e0
        omega
theorem i_ne4 {k : Nat} (h : k < 2 ^ 31) : nI k ≠ (-4 : Int32) := fun q => by
  have := nI_pos h
  rw [q] at this
  exact this (by decide)
theorem nod_ne {l : List Nat} (h : l.Nodup) {i j : Nat} {t : Nat} (hi : l[i]? = some t) (hj : l[j]? = some t) : i = j := by
  obtain ⟨h1, e1⟩ := List.getElem?_eq_some_iff.mp hi
  obtain ⟨h2, e2⟩ := List.getElem?_eq_some_iff.mp hj
  have hp := List.pairwise_iff_getElem.mp h
  rcases Nat.lt_trichotomy i j with q | q | q
  · exact absurd (e1.trans e2.symm) (hp i j h1 h2 q)
  · exact q
  · exact absurd (e2.trans e1.symm) (hp j i h2 h1 q)
theorem er_idx {l : List Nat} {t k : Nat} (h : l.Nodup) (hk : l[k]? = some t) : l.erase t = l.eraseIdx k := by
  induction l generalizing k with
  | nil => simp at hk
  | cons x l ih =>
    cases k with
    | zero =>
      have : x = t := by simpa using hk
      subst this
      rw [List.erase_cons_head]
      rfl
    | succ k =>
      have hk' : l[k]? = some t := by simpa using hk
      have hn := List.nodup_cons.mp h
      have hm : t ∈ l := List.mem_of_getElem? hk'
      have hne : x ≠ t := fun q => hn.1 (q ▸ hm)
      rw [List.erase_cons_tail (by simpa using hne), ih hn.2 hk']
      rfl
theorem m_place_L (n : Nat) {M : Mem} {l : List Nat} {t : Nat} (hM : MkAt M l) (hr : Ro l) (ht : t < 16) : ∀ (d i f : Nat) (v : Int32), l.length - i = d → i ≤ l.length → d < f → (∀ j, i ≤ j → l[j]? ≠ some t) → X_Model_place_L5 n (nI t) M f v (nI i) = some (v, M) := by
  have h16 := hr.len
  intro d
  induction d with
  | zero =>
    intro i f v h1 h2 h3 h4
    obtain ⟨f, rfl⟩ : ∃ g, f = g + 1 := ⟨f - 1, by omega⟩
    show (if M.1 0 35 ≤ nI i then some (v, M) else _) = _
    rw [hM.1, if_pos (nI_le (by omega) (by omega))]
  | succ d ih =>
    intro i f v h1 h2 h3 h4
    obtain ⟨f, rfl⟩ : ∃ g, f = g + 1 := ⟨f - 1, by omega⟩
    have hi : i < l.length := by omega
    have e := hM.2 i _ (List.getElem?_eq_getElem hi)
    have hx := hr.2 _ (List.getElem_mem hi)
    have hne : l[i] ≠ t := fun q => h4 i (Nat.le_refl _) (by rw [List.getElem?_eq_getElem hi, q])
    show (if M.1 0 35 ≤ nI i then some (v, M) else gd (nI i) 18 (if M.1 16 (nI i).toNatClampNeg = nI t then X_Model_place_L5 n (nI t) M f (nI i) (nI i + 1) else X_Model_place_L5 n (nI t) M f v (nI i + 1))) = _
    rw [hM.1, if_neg (nI_ge hi (by omega)), gd_in (vp_in_nI (by omega) (by decide)), nI_clamp (by omega), e, if_neg (fun q => hne ((nI_eq (by omega) (by omega)).mp q)), nI_1]
    exact ih (i + 1) f v (by omega) (by omega) (by omega) (fun j hj => h4 j (by omega))
theorem m_place_no (n : Nat) (hn : 18 ≤ n) {M : Mem} {l : List Nat} {t : Nat} (hM : MkAt M l) (hr : Ro l) (ht : t < 16) (h : t ∉ l) : X_Model_place n (nI t) M = some (-4, M) :=
  m_place_L n hM hr ht l.length 0 n (-4) rfl (Nat.zero_le _) (by have := hr.len; omega) (fun j _ q => h (List.mem_of_getElem? q))
theorem m_place_yes (n : Nat) (hn : 18 ≤ n) {M : Mem} {l : List Nat} {t k : Nat} (hM : MkAt M l) (hr : Ro l) (ht : t < 16) (h : l[k]? = some t) : X_Model_place n (nI t) M = some (nI k, M) := by
  have h16 := hr.len
  have hk := (List.getElem?_eq_some_iff.mp h).1
  have key : ∀ (d i f : Nat) (v : Int32), k - i = d → i ≤ k → l.length - i < f → X_Model_place_L5 n (nI t) M f v (nI i) = some (nI k, M) := by
    intro d
    induction d with
    | zero =>
      intro i f v h1 h2 h3
      obtain ⟨f, rfl⟩ : ∃ g, f = g + 1 := ⟨f - 1, by omega⟩
      have e : i = k := by omega
      subst e
      have e := hM.2 i _ h
      show (if M.1 0 35 ≤ nI i then some (v, M) else gd (nI i) 18 (if M.1 16 (nI i).toNatClampNeg = nI t then X_Model_place_L5 n (nI t) M f (nI i) (nI i + 1) else X_Model_place_L5 n (nI t) M f v (nI i + 1))) = _
      rw [hM.1, if_neg (nI_ge hk (by omega)), gd_in (vp_in_nI (by omega) (by decide)), nI_clamp (by omega), e, if_pos rfl, nI_1]
      exact m_place_L n hM hr ht (l.length - (i + 1)) (i + 1) f (nI i) rfl (by omega) (by omega) (fun j hj q => by
        have := nod_ne hr.1 h q
        omega)
    | succ d ih =>
      intro i f v h1 h2 h3
      obtain ⟨f, rfl⟩ : ∃ g, f = g + 1 := ⟨f - 1, by omega⟩
      have hi : i < l.length := by omega
      have e := hM.2 i _ (List.getElem?_eq_getElem hi)
      show (if M.1 0 35 ≤ nI i then some (v, M) else gd (nI i) 18 (if M.1 16 (nI i).toNatClampNeg = nI t then X_Model_place_L5 n (nI t) M f (nI i) (nI i + 1) else X_Model_place_L5 n (nI t) M f v (nI i + 1))) = _
      rw [hM.1, if_neg (nI_ge hi (by omega)), gd_in (vp_in_nI (by omega) (by decide)), nI_clamp (by omega), e, nI_1]
      split
      · exact ih (i + 1) f _ (by omega) (by omega) (by omega)
      · exact ih (i + 1) f _ (by omega) (by omega) (by omega)
  exact key k 0 n (-4) rfl (Nat.zero_le _) (by omega)
theorem MkAt.add {M : Mem} {l : List Nat} (hM : MkAt M l) (t : Nat) : MkAt (si (si M 16 l.length (nI t)) 0 35 (nI (l.length + 1))) (l ++ [t]) := by
  refine ⟨by rw [si_at, List.length_append]; rfl, fun i u hi => ?_⟩
  rw [si_ne (Or.inl (by decide))]
  have hl := (List.getElem?_eq_some_iff.mp hi).1
  rw [List.length_append, List.length_singleton] at hl
  by_cases e : i = l.length
  · subst e
    rw [si_at]
    rw [List.getElem?_append_right (Nat.le_refl _), Nat.sub_self] at hi
    have : t = u := by simpa using hi
    rw [this]
  · rw [si_ne (Or.inr e)]
    rw [List.getElem?_append_left (by omega)] at hi
    exact hM.2 i u hi
theorem m_adds (n : Nat) (hn : 18 ≤ n) {M : Mem} {l : List Nat} {t : Nat} (hM : MkAt M l) (hr : Ro l) (ht : t < 16) : ∃ M', X_Model_adds n (nI t) M = some ((), M') ∧ MkAt M' (addT l t) ∧ Fr mk M M' := by
  have h16 := hr.len
  unfold X_Model_adds nm addT
  by_cases h : t ∈ l
  · obtain ⟨k, hk⟩ := List.getElem?_of_mem h
    have hk9 := (List.getElem?_eq_some_iff.mp hk).1
    rw [m_place_yes n hn hM hr ht hk, bd_ret, if_neg (i_ne4 (by omega)), if_pos h]
    exact ⟨M, rfl, hM, Fr.rf⟩
  · rw [m_place_no n hn hM hr ht h, bd_ret, if_pos rfl, if_neg h, hM.1, gd_in (vp_in_nI (by omega) (by decide)), nI_clamp (by omega)]
    show ∃ M', some ((), si (si M 16 l.length (nI t)) 0 35 ((si M 16 l.length (nI t)).1 0 35 + 1)) = some ((), M') ∧ _
    rw [si_ne (Or.inl (by decide)), hM.1, nI_1]
    exact ⟨_, rfl, hM.add t, (Fr.si (Or.inl rfl)).trans (Fr.si (Or.inr ⟨rfl, rfl⟩))⟩
theorem m_drops (n : Nat) (hn : 20 ≤ n) {M : Mem} {l : List Nat} {k : Nat} (hM : MkAt M l) (hk : k < l.length) (hl : l.length ≤ 17) : ∃ M', X_Model_drops n (nI k) M = some ((), M') ∧ MkAt M' (l.eraseIdx k) ∧ Fr mk M M' := by
  have hlen : (l.eraseIdx k).length = l.length - 1 := by rw [List.length_eraseIdx, if_pos hk]
  have key : ∀ (d i f : Nat) (N : Mem), l.length - 1 - i = d → k ≤ i → i ≤ l.length - 1 → d < f → N.1 0 35 = nI (l.length - 1) → (∀ j t, j < i → (l.eraseIdx k)[j]? = some t → N.1 16 j = nI t) → (∀ j t, i < j → l[j]? = some t → N.1 16 j = nI t) → ∃ N', X_Model_drops_L12 n f (nI i) N = some ((), N') ∧ MkAt N' (l.eraseIdx k) ∧ Fr mk N N' := by
    intro d
    induction d with
    | zero =>
      intro i f N h1 h2 h3 h4 hN h5 h6
      obtain ⟨f, rfl⟩ : ∃ g, f = g + 1 := ⟨f - 1, by omega⟩
      refine ⟨N, ?_, ⟨by rw [hN, hlen], fun j t hj => h5 j t ?_ hj⟩, Fr.rf⟩
      · show (if N.1 0 35 ≤ nI i then some ((), N) else _) = _
        rw [hN, if_pos (nI_le (by omega) (by omega))]
      · have := (List.getElem?_eq_some_iff.mp hj).1
        omega
    | succ d ih =>
      intro i f N h1 h2 h3 h4 hN h5 h6
      obtain ⟨f, rfl⟩ : ∃ g, f = g + 1 := ⟨f - 1, by omega⟩
      have hi : i + 1 < l.length := by omega
      have e := h6 (i + 1) _ (by omega) (List.getElem?_eq_getElem hi)
      obtain ⟨N', g1, g2, g3⟩ := ih (i + 1) f (si N 16 i (nI l[i + 1])) (by omega) (by omega) (by omega) (by omega) (by rw [si_ne (Or.inl (by decide))]; exact hN) (fun j t hj ht => by
        by_cases e2 : j = i
        · subst e2
          rw [si_at]
          rw [List.getElem?_eraseIdx, if_neg (by omega), List.getElem?_eq_getElem hi] at ht
          rw [Option.some.inj ht]
        · rw [si_ne (Or.inr e2)]
          exact h5 j t (by omega) ht) (fun j t hj ht => by
        rw [si_ne (Or.inr (by omega))]
        exact h6 j t (by omega) ht)
      refine ⟨N', ?_, g2, (Fr.si (Or.inl rfl)).trans g3⟩
      show (if N.1 0 35 ≤ nI i then some ((), N) else gd (nI i + 1) 18 (gd (nI i) 18 (X_Model_drops_L12 n f (nI i + 1) (si N 16 (nI i).toNatClampNeg (N.1 16 (nI i + 1).toNatClampNeg))))) = _
      rw [hN, if_neg (nI_ge (by omega) (by omega)), nI_1, gd_in (vp_in_nI (by omega) (by decide)), gd_in (vp_in_nI (by omega) (by decide)), nI_clamp (by omega), nI_clamp (by omega), e]
      exact g1
  unfold X_Model_drops
  rw [hM.1, show (1 : Int32) = nI 1 from rfl, pk_sub (by omega)]
  obtain ⟨N', g1, g2, g3⟩ := key _ k n (si M 0 35 (nI (l.length - 1))) rfl (Nat.le_refl _) (by omega) (by omega) (si_at _ _ _ _) (fun j t hj ht => by
    rw [si_ne (Or.inl (by decide))]
    rw [List.getElem?_eraseIdx, if_pos hj] at ht
    exact hM.2 j t ht) (fun j t _ ht => by
    rw [si_ne (Or.inl (by decide))]
    exact hM.2 j t ht)
  exact ⟨N', g1, g2, (Fr.si (Or.inr ⟨rfl, rfl⟩)).trans g3⟩
-- place, then drop
theorem m_rem (n : Nat) (hn : 20 ≤ n) {M : Mem} {l : List Nat} {t : Nat} (hM : MkAt M l) (hr : Ro l) (h : t ∈ l) : ∃ r M', X_Model_place n (nI t) M = some (r, M) ∧ r ≠ -4 ∧ X_Model_drops n r M = some ((), M') ∧ MkAt M' (l.erase t) ∧ Fr mk M M' := by
  have h16 := hr.len
  obtain ⟨k, hk⟩ := List.getElem?_of_mem h
  have hk9 := (List.getElem?_eq_some_iff.mp hk).1
  obtain ⟨M', g1, g2, g3⟩ := m_drops n hn hM hk9 (by omega)
  exact ⟨nI k, M', m_place_yes n (by omega) hM hr (hr.2 t h) hk, i_ne4 (by omega), g1, by rw [er_idx hr.1 hk]; exact g2, g3⟩
-- the reference's rules
def MC (M : Mem) (R : Rl) : Prop := M.1 0 2 = nI R.1 ∧ M.1 0 3 = nI R.2.1 ∧ M.1 0 4 = nI R.2.2.1.length ∧ M.1 0 5 = nI R.2.2.2.1.length ∧ M.1 0 6 = nI R.2.2.2.2.length ∧
  (∀ j q, R.2.2.1[j]? = some q → M.1 3 (3 * j) = nI q.1 ∧ M.1 3 (3 * j + 1) = nI q.2.1 ∧ M.1 3 (3 * j + 2) = nI q.2.2) ∧ (∀ i h, R.2.2.2.1[i]? = some h → M.1 4 i = nI h) ∧ (∀ i h, R.2.2.2.2[i]? = some h → M.1 5 i = nI h) ∧
  (∀ h, h < 15 → M.1 6 h = nI (les h) ∧ M.1 7 h = nI (gre h))
theorem MC.fr {P : Nat → Nat → Prop} {M M' : Mem} {R : Rl} (h : MC M R) (ho : Fr P M M') (h1 : ∀ k, k ∈ [2, 3, 4, 5, 6] → ¬ P 0 k) (h2 : ∀ a k, a ∈ [3, 4, 5, 6, 7] → ¬ P a k) : MC M' R := by
  obtain ⟨a1, a2, a3, a4, a5, a6, a7, a8, a9⟩ := h
  have e : ∀ a, a ∈ [3, 4, 5, 6, 7] → ∀ k, M'.1 a k = M.1 a k := fun a ha k => (ho a k (h2 a k ha)).1
  have e0 : ∀ k, k ∈ [2, 3, 4, 5, 6] → M'.1 0 k = M.1 0 k := fun k hk => (ho 0 k (h1 k hk)).1
  refine ⟨(e0 2 (by decide)).trans a1, (e0 3 (by decide)).trans a2, (e0 4 (by decide)).trans a3, (e0 5 (by decide)).trans a4, (e0 6 (by decide)).trans a5, fun j q hq => ?_, fun i h hi => ?_, fun i h hi => ?_, fun h hh => ?_⟩
  · rw [e 3 (by decide), e 3 (by decide), e 3 (by decide)]; exact a6 j q hq
  · rw [e 4 (by decide)]; exact a7 i h hi
  · rw [e 5 (by decide)]; exact a8 i h hi
  · rw [e 6 (by decide), e 7 (by decide)]; exact a9 h hh
theorem mk_MC (k : Nat) : (k ∈ [2, 3, 4, 5, 6] → ¬ mk 0 k) := by
  intro h
  simp only [List.mem_cons, List.not_mem_nil, or_false] at h
  unfold mk
  omega
theorem mk_MC2 (a k : Nat) : (a ∈ [3, 4, 5, 6, 7] → ¬ mk a k) := by
  intro h
  simp only [List.mem_cons, List.not_mem_nil, or_false] at h
  unfold mk
  omega
theorem MC.mk {M M' : Mem} {R : Rl} (h : MC M R) (ho : Fr mk M M') : MC M' R := h.fr ho mk_MC mk_MC2
theorem m_settles_L10 (n : Nat) (hn : 20 ≤ n) {R : Rl} (hR : OkR R) (kx : Int32 → Mem → Option (Unit × Mem)) {M : Mem} {l : List Nat} (hC : MC M R) (hM : MkAt M l) (hr : Ro l) : ∀ (d j f : Nat), R.2.2.1.length - j = d → j ≤ R.2.2.1.length → d + 1 < f →
    (((R.2.2.1.drop j).find? (jIn l) = none ∧ X_Model_settles_L10 n kx f 0 (nI j) M = kx 0 M) ∨ (∃ q M', (R.2.2.1.drop j).find? (jIn l) = some q ∧ X_Model_settles_L10 n kx f 0 (nI j) M = kx 1 M' ∧ MkAt M' (joinT l q) ∧ Fr mk M M')) := by
  have hl16 := hr.len
  have hj4 := hR.2.2.2.2.1
  intro d
  induction d with
  | zero =>
    intro j f h1 h2 h3
    obtain ⟨f, rfl⟩ : ∃ g, f = g + 1 := ⟨f - 1, by omega⟩
    left
    refine ⟨by rw [List.drop_eq_nil_of_le (by omega)]; rfl, ?_⟩
    show (if M.1 0 4 ≤ nI j then kx 0 M else _) = _
    rw [hC.2.2.1, if_pos (nI_le (by omega) (by omega))]
  | succ d ih =>
    intro j f h1 h2 h3
    obtain ⟨f, rfl⟩ : ∃ g, f = g + 1 := ⟨f - 1, by omega⟩
    have hj : j < R.2.2.1.length := by omega
    have hq := hR.2.2.2.2.2.1 _ (List.getElem_mem hj)
    obtain ⟨b1, b2, b3⟩ := hC.2.2.2.2.2.1 j _ (List.getElem?_eq_getElem hj)
    rw [List.drop_eq_getElem_cons hj]
    generalize R.2.2.1[j] = q at hq b1 b2 b3
    have ih' := ih (j + 1) f (by omega) (by omega) (by omega)
    have v0 : vp_in (nI (3 * j)) 12 := vp_in_nI (by omega) (by omega)
    have v1 : vp_in (nI (3 * j + 1)) 12 := vp_in_nI (by omega) (by omega)
    have v2 : vp_in (nI (3 * j + 2)) 12 := vp_in_nI (by omega) (by omega)
    have un : X_Model_settles_L10 n kx (f + 1) 0 (nI j) M = bd (X_Model_place n (M.1 3 (3 * j)) M) fun r1 M2 => if r1 = -4 then X_Model_settles_L10 n kx f 0 (nI (j + 1)) M2 else bd (X_Model_place n (M2.1 3 (3 * j + 1)) M2) fun r5 M6 => if r5 = -4 then X_Model_settles_L10 n kx f 0 (nI (j + 1)) M6 else
        bd (X_Model_place n (M6.1 3 (3 * j)) M6) fun r7 M8 => bd (X_Model_drops n r7 M8) fun _ M10 => bd (X_Model_place n (M10.1 3 (3 * j + 1)) M10) fun r11 M12 => bd (X_Model_drops n r11 M12) fun _ M14 => bd (X_Model_adds n (M14.1 3 (3 * j + 2)) M14) fun _ M16 => X_Model_settles_L10 n kx f 1 (nI (j + 1)) M16 := by
      show (if M.1 0 4 ≤ nI j then kx 0 M else if (0 : Int32) = 0 then _ else _) = _
      rw [hC.2.2.1, if_neg (nI_ge hj (by omega)), if_pos rfl, show (3 : Int32) = nI 3 from rfl, pk_mul, nI_1, nI_1, show (2 : Int32) = nI 2 from rfl, nI_add]
      simp only [gd_in v0, gd_in v1, gd_in v2, nI_clamp (show 3 * j < 2 ^ 31 by omega), nI_clamp (show 3 * j + 1 < 2 ^ 31 by omega), nI_clamp (show 3 * j + 2 < 2 ^ 31 by omega), nm]
    rw [un]
    by_cases hx : q.1 ∈ l
    · obtain ⟨kx1, hk1⟩ := List.getElem?_of_mem hx
      have hk9 := (List.getElem?_eq_some_iff.mp hk1).1
      rw [b1, m_place_yes n (by omega) hM hr hq.1 hk1, bd_ret, if_neg (i_ne4 (by omega)), b2]
      by_cases hy : q.2.1 ∈ l
      · right
        obtain ⟨ky, hky⟩ := List.getElem?_of_mem hy
        have hky9 := (List.getElem?_eq_some_iff.mp hky).1
        obtain ⟨r1, M1, g1, -, g2, g3, g4⟩ := m_rem n hn hM hr hx
        have hC1 := hC.mk g4
        have hr1 : Ro (l.erase q.1) := hr.erase _
        have hy1 : q.2.1 ∈ l.erase q.1 := (List.mem_erase_of_ne (fun e => hq.2.2.2.1 e.symm)).mpr hy
        obtain ⟨r2, M2, k1, -, k2, k3, k4⟩ := m_rem n hn g3 hr1 hy1
        have hC2 := hC1.mk k4
        obtain ⟨M3, q1, q2, q3⟩ := m_adds n (by omega) k3 (hr1.erase _) hq.2.2.1
        have hC3 := hC2.mk q3
        have e1 : M1.1 3 (3 * j + 1) = nI q.2.1 := by rw [(g4 3 _ (mk_MC2 3 _ (by decide))).1, b2]
        have e2 : M2.1 3 (3 * j + 2) = nI q.2.2 := by rw [(k4 3 _ (mk_MC2 3 _ (by decide))).1, (g4 3 _ (mk_MC2 3 _ (by decide))).1, b3]
        refine ⟨q, M3, ?_, ?_, q2, (g4.trans k4).trans q3⟩
        · rw [List.find?_cons_of_pos]
          unfold jIn
          simp [hx, hy]
        · rw [m_place_yes n (by omega) hM hr hq.2.1 hky, bd_ret, if_neg (i_ne4 (by omega)), b1, g1, bd_ret, g2, bd_ret, e1, k1, bd_ret, k2, bd_ret, e2, q1, bd_ret]
          obtain ⟨f, rfl⟩ : ∃ g, f = g + 1 := ⟨f - 1, by omega⟩
          show (if M3.1 0 4 ≤ nI (j + 1) then kx 1 M3 else if (1 : Int32) = 0 then _ else kx 1 M3) = _
          rw [if_neg (show ¬ (1 : Int32) = 0 by decide)]
          split <;> rfl
      · rw [m_place_no n (by omega) hM hr hq.2.1 hy, bd_ret, if_pos rfl, List.find?_cons_of_neg (by unfold jIn; simp [hy])]
        exact ih'
    · rw [b1, m_place_no n (by omega) hM hr hq.1 hx, bd_ret, if_pos rfl, List.find?_cons_of_neg (by unfold jIn; simp [hx])]
      exact ih'
theorem m_settles_L2 (n : Nat) (hn : 20 ≤ n) {R : Rl} (hR : OkR R) (kx : Mem → Option (Unit × Mem)) : ∀ (d f : Nat) (M : Mem) (l : List Nat), l.length ≤ d → d + 1 < f → MC M R → MkAt M l → Ro l → ∃ M', X_Model_settles_L2 n kx f 1 M = kx M' ∧ MkAt M' (settleN R.2.2.1 d l) ∧ Fr mk M M' := by
  have hj4 := hR.2.2.2.2.1
  intro d
  induction d with
  | zero =>
    intro f M l h1 h2 hC hM hr
    obtain ⟨f, rfl⟩ : ∃ g, f = g + 2 := ⟨f - 2, by omega⟩
    have hl : l = [] := List.eq_nil_of_length_eq_zero (by omega)
    subst hl
    have un : X_Model_settles_L2 n kx (f + 2) 1 M = X_Model_settles_L10 n (fun y17 M18 => X_Model_settles_L2 n kx (f + 1) y17 M18) n 0 (nI 0) M := by
      show (if (1 : Int32) = 0 then _ else _) = _
      rw [if_neg (by decide)]
      rfl
    rcases m_settles_L10 n hn hR (fun y17 M18 => X_Model_settles_L2 n kx (f + 1) y17 M18) hC hM hr _ 0 n rfl (Nat.zero_le _) (by omega) with ⟨-, e⟩ | ⟨q, M', e, -⟩
    · refine ⟨M, ?_, hM, Fr.rf⟩
      rw [un, e]
      show (if (0 : Int32) = 0 then kx M else _) = _
      rw [if_pos rfl]
    · rw [List.drop_zero] at e
      have := List.find?_some e
      simp [jIn] at this
  | succ d ih =>
    intro f M l h1 h2 hC hM hr
    obtain ⟨f, rfl⟩ : ∃ g, f = g + 2 := ⟨f - 2, by omega⟩
    have un : X_Model_settles_L2 n kx (f + 2) 1 M = X_Model_settles_L10 n (fun y17 M18 => X_Model_settles_L2 n kx (f + 1) y17 M18) n 0 (nI 0) M := by
      show (if (1 : Int32) = 0 then _ else _) = _
      rw [if_neg (by decide)]
      rfl
    rcases m_settles_L10 n hn hR (fun y17 M18 => X_Model_settles_L2 n kx (f + 1) y17 M18) hC hM hr _ 0 n rfl (Nat.zero_le _) (by omega) with ⟨e1, e⟩ | ⟨q, M', e, e2, e3, e4⟩
    · refine ⟨M, ?_, ?_, Fr.rf⟩
      · rw [un, e]
        show (if (0 : Int32) = 0 then kx M else _) = _
        rw [if_pos rfl]
      · rw [List.drop_zero] at e1
        rw [settleN_fix e1]
        exact hM
    · rw [List.drop_zero] at e
      obtain ⟨hq, hqi⟩ := find_ok hR.2.2.2.2.2.1 e
      have := join_len hq hqi
      obtain ⟨M2, g1, g2, g3⟩ := ih (f + 1) M' (joinT l q) (by omega) (by omega) (hC.mk e4) e3 (hr.join hq)
      refine ⟨M2, by rw [un, e2]; exact g1, ?_, e4.trans g3⟩
      have es : settleN R.2.2.1 (d + 1) l = settleN R.2.2.1 d (joinT l q) := by
        show (match R.2.2.1.find? (jIn l) with | none => l | some q => settleN R.2.2.1 d (joinT l q)) = _
        rw [e]
      rw [es]
      exact g2
theorem m_settles_L117 (n : Nat) (hn : 20 ≤ n) {k : Nat} (hk : k < 100) : ∀ (d f : Nat) (M : Mem) (l : List Nat), l.length - k = d → d < f → l.length ≤ 17 → M.1 0 3 = nI k → MkAt M l → ∃ M', X_Model_settles_L117 n f M = some ((), M') ∧ MkAt M' (cutT k l) ∧ Fr mk M M' := by
  intro d
  induction d with
  | zero =>
    intro f M l h1 h2 h3 h4 hM
    obtain ⟨f, rfl⟩ : ∃ g, f = g + 1 := ⟨f - 1, by omega⟩
    refine ⟨M, ?_, ?_, Fr.rf⟩
    · show (if M.1 0 35 ≤ M.1 0 3 then _ else _) = _
      rw [hM.1, h4, if_pos (nI_le (by omega) (by omega))]
    · unfold cutT
      rw [h1]
      exact hM
  | succ d ih =>
    intro f M l h1 h2 h3 h4 hM
    obtain ⟨f, rfl⟩ : ∃ g, f = g + 1 := ⟨f - 1, by omega⟩
    obtain ⟨M1, g1, g2, g3⟩ := m_drops n hn (k := 0) hM (by omega) h3
    rw [show l.eraseIdx 0 = l.drop 1 by cases l <;> rfl] at g2
    obtain ⟨M2, k1, k2, k3⟩ := ih f M1 (l.drop 1) (by rw [List.length_drop]; omega) (by omega) (by rw [List.length_drop]; omega) (by rw [(g3 0 3 (mk_MC 3 (by decide))).1, h4]) g2
    refine ⟨M2, ?_, ?_, g3.trans k3⟩
    · show (if M.1 0 35 ≤ M.1 0 3 then _ else bd (X_Model_drops n (nI 0) M) fun _ M21 => X_Model_settles_L117 n f M21) = _
      rw [hM.1, h4, if_neg (nI_ge (by omega) (by omega)), g1, bd_ret, k1]
    · have e : cutT k (l.drop 1) = cutT k l := by
        unfold cutT
        rw [List.drop_drop, List.length_drop]
        congr 1
        omega
      rw [← e]
      exact k2
theorem m_settles (n : Nat) (hn : 20 ≤ n) {R : Rl} (hR : OkR R) {M : Mem} {l : List Nat} (hC : MC M R) (hM : MkAt M l) (hr : Ro l) : ∃ M', X_Model_settles n M = some ((), M') ∧ MkAt M' (settle R l) ∧ Fr mk M M' := by
  have h16 := hr.len
  obtain ⟨M1, g1, g2, g3⟩ := m_settles_L2 n hn hR (fun M19 => X_Model_settles_L117 n n M19) 16 n M l h16 (by omega) hC hM hr
  have hr2 := hr.settleN hR.2.2.2.2.2.1 16
  have hl2 := hr2.len
  have hh := hR.2.2.2.1
  obtain ⟨M2, k1, k2, k3⟩ := m_settles_L117 n hn (k := R.2.1) (by omega) _ n M1 (settleN R.2.2.1 16 l) rfl (by omega) (by omega) (by rw [(g3 0 3 (mk_MC 3 (by decide))).1]; exact hC.2.1) g2
  exact ⟨M2, by unfold X_Model_settles; rw [g1]; exact k1, k2, g3.trans k3⟩
end
section
/-! THE REFERENCE: hands -/
theorem m_takes (n : Nat) (hn : 20 ≤ n) {c ln b : Nat} (hc : c ≠ 16 ∧ c ≠ 0) {m : List Nat} (hm : Ro m) (hml : m.length ≤ 9) (hb : b + 10 ≤ ln) (hln : ln < 2 ^ 30) {M : Mem} {l : List Nat} (hR : RwM M c b m) (hM : MkAt M l) (hr : Ro l) : ∃ M', X_Model_takes n c ln (nI b) M = some ((), M') ∧ MkAt M' (mergeT l m) ∧ Fr mk M M' := by
  have key : ∀ (d i f : Nat) (M : Mem) (l : List Nat), m.length - i = d → i ≤ m.length → d < f → RwM M c b m → MkAt M l → Ro l → ∃ M', X_Model_takes_L2 n c ln (nI b) f (nI i) M = some ((), M') ∧ MkAt M' (mergeT l (m.drop i)) ∧ Fr mk M M' := by
    intro d
    induction d with
    | zero =>
      intro i f M l h1 h2 h3 hR hM hr
      obtain ⟨f, rfl⟩ : ∃ g, f = g + 1 := ⟨f - 1, by omega⟩
      refine ⟨M, ?_, by rw [List.drop_eq_nil_of_le (by omega)]; exact hM, Fr.rf⟩
      show gd (nI b) ln (if M.1 c (nI b).toNatClampNeg ≤ nI i then some ((), M) else _) = _
      rw [gd_in (vp_in_nI (by omega) (by omega)), nI_clamp (by omega), hR.1, if_pos (nI_le (by omega) (by omega))]
    | succ d ih =>
      intro i f M l h1 h2 h3 hR hM hr
      obtain ⟨f, rfl⟩ : ∃ g, f = g + 1 := ⟨f - 1, by omega⟩
      have hi : i < m.length := by omega
      have ht := hm.2 _ (List.getElem_mem hi)
      have e := hR.2 i _ (List.getElem?_eq_getElem hi)
      obtain ⟨M1, g1, g2, g3⟩ := m_adds n (by omega) hM hr ht
      obtain ⟨M2, k1, k2, k3⟩ := ih (i + 1) f M1 _ (by omega) (by omega) (by omega) (hR.fr g3 (fun k _ _ => by unfold mk; omega)) g2 (hr.addT ht)
      refine ⟨M2, ?_, by rw [List.drop_eq_getElem_cons hi]; exact k2, g3.trans k3⟩
      show gd (nI b) ln (if M.1 c (nI b).toNatClampNeg ≤ nI i then some ((), M) else gd ((nI b + 1) + nI i) ln (bd (X_Model_adds n (M.1 c ((nI b + 1) + nI i).toNatClampNeg) M) fun _ M2 => X_Model_takes_L2 n c ln (nI b) f (nI i + 1) M2)) = _
      rw [gd_in (vp_in_nI (by omega) (by omega)), nI_clamp (by omega), hR.1, if_neg (nI_ge (by omega) (by omega)), nI_1, nI_add, gd_in (vp_in_nI (by omega) (by omega)), nI_clamp (by omega), e, g1, bd_ret, nI_1, k1]
  obtain ⟨M', g1, g2, g3⟩ := key _ 0 n M l rfl (Nat.zero_le _) (by omega) hR hM hr
  exact ⟨M', g1, g2, g3⟩
def rg (c b w : Nat) (a k : Nat) : Prop := a = c ∧ b ≤ k ∧ k < b + w
theorem m_puts (n : Nat) (hn : 20 ≤ n) {c ln b : Nat} (hc : c ≠ 16 ∧ c ≠ 0) (hb : b + 10 ≤ ln) (hln : ln < 2 ^ 30) {M : Mem} {l : List Nat} (hM : MkAt M l) (hl : l.length ≤ 9) : ∃ M', X_Model_puts n c ln (nI b) M = some ((), M') ∧ RwM M' c b l ∧ Fr (rg c b 10) M M' := by
  have key : ∀ (d i f : Nat) (N : Mem), l.length - i = d → i ≤ l.length → d < f → MkAt N l → N.1 c b = nI l.length → (∀ j t, j < i → l[j]? = some t → N.1 c (b + 1 + j) = nI t) → ∃ M', X_Model_puts_L9 n c ln (nI b) f (nI i) N = some ((), M') ∧ RwM M' c b l ∧ Fr (rg c b 10) N M' := by
    intro d
    induction d with
    | zero =>
      intro i f N h1 h2 h3 hN h4 h5
      obtain ⟨f, rfl⟩ : ∃ g, f = g + 1 := ⟨f - 1, by omega⟩
      refine ⟨N, ?_, ⟨h4, fun j t hj => h5 j t (by have := (List.getElem?_eq_some_iff.mp hj).1; omega) hj⟩, Fr.rf⟩
      show (if N.1 0 35 ≤ nI i then _ else _) = _
      rw [hN.1, if_pos (nI_le (by omega) (by omega))]
    | succ d ih =>
      intro i f N h1 h2 h3 hN h4 h5
      obtain ⟨f, rfl⟩ : ∃ g, f = g + 1 := ⟨f - 1, by omega⟩
      have hi : i < l.length := by omega
      have e := hN.2 i _ (List.getElem?_eq_getElem hi)
      have hf : Fr (rg c b 10) N (si N c (b + 1 + i) (nI l[i])) := Fr.si ⟨rfl, by omega, by omega⟩
      obtain ⟨M', g1, g2, g3⟩ := ih (i + 1) f (si N c (b + 1 + i) (nI l[i])) (by omega) (by omega) (by omega) (hN.fr hf (by unfold rg; omega) (by unfold rg; omega)) (by rw [si_ne (Or.inr (by omega))]; exact h4) (fun j t hj ht => by
        by_cases e2 : j = i
        · subst e2
          rw [si_at]
          rw [List.getElem?_eq_getElem hi] at ht
          rw [Option.some.inj ht]
        · rw [si_ne (Or.inr (by omega))]
          exact h5 j t (by omega) ht)
      refine ⟨M', ?_, g2, hf.trans g3⟩
      show (if N.1 0 35 ≤ nI i then _ else gd (nI i) 18 (gd ((nI b + 1) + nI i) ln (X_Model_puts_L9 n c ln (nI b) f (nI i + 1) (si N c ((nI b + 1) + nI i).toNatClampNeg (N.1 16 (nI i).toNatClampNeg))))) = _
      rw [hN.1, if_neg (nI_ge (by omega) (by omega)), gd_in (vp_in_nI (by omega) (by decide)), nI_1, nI_add, gd_in (vp_in_nI (by omega) (by omega)), nI_clamp (by omega), nI_clamp (by omega), e, nI_1]
      exact g1
  have hf : Fr (rg c b 10) M (si M c b (nI l.length)) := Fr.si ⟨rfl, by omega, by omega⟩
  obtain ⟨M', g1, g2, g3⟩ := key _ 0 n (si M c b (nI l.length)) rfl (Nat.zero_le _) (by omega) (hM.fr hf (by unfold rg; omega) (by unfold rg; omega)) (si_at _ _ _ _) (fun j t hj => by omega)
  refine ⟨M', ?_, g2, hf.trans g3⟩
  unfold X_Model_puts
  rw [gd_in (vp_in_nI (by omega) (by omega)), nI_clamp (by omega), hM.1]
  exact g1
-- a layer of rows
def LyM (M : Mem) (c b : Nat) (W : Nat → List Nat) : Prop := ∀ p, p < 6 → RwM M c (b + 10 * p) (W p)
theorem LyM.fr {P : Nat → Nat → Prop} {M M' : Mem} {c b : Nat} {W : Nat → List Nat} (h : LyM M c b W) (hW : OkW W) (ho : Fr P M M') (hp : ∀ k, b ≤ k → k < b + 60 → ¬ P c k) : LyM M' c b W := fun p hp6 => (h p hp6).fr ho (fun k h1 h2 => hp k (by omega) (by have := (hW p).2; omega))
theorem LyM.eq {M : Mem} {c b : Nat} {W V : Nat → List Nat} (h : LyM M c b W) (e : ∀ p, p < 6 → V p = W p) : LyM M c b V := fun p hp => by rw [e p hp]; exact h p hp
theorem cp_step {M : Mem} {a sp b dp i : Nat} (h : a ≠ b ∨ sp + i < dp ∨ dp + i ≤ sp + i) : si (cpI M a sp b dp i) b (dp + i) ((cpI M a sp b dp i).1 a (sp + i)) = cpI M a sp b dp (i + 1) := by
  have e : (cpI M a sp b dp i).1 a (sp + i) = M.1 a (sp + i) := if_neg (by omega)
  rw [e]
  apply Prod.ext
  · funext x y
    show (if x = b ∧ y = dp + i then M.1 a (sp + i) else if x = b ∧ dp ≤ y ∧ y < dp + i then M.1 a (sp + (y - dp)) else M.1 x y) = if x = b ∧ dp ≤ y ∧ y < dp + (i + 1) then M.1 a (sp + (y - dp)) else M.1 x y
    by_cases e1 : x = b ∧ y = dp + i
    · rw [if_pos e1, if_pos ⟨e1.1, by omega, by omega⟩, e1.2, Nat.add_sub_cancel_left]
    · rw [if_neg e1]
      by_cases e2 : x = b ∧ dp ≤ y ∧ y < dp + i
      · rw [if_pos e2, if_pos ⟨e2.1, by omega, by omega⟩]
      · rw [if_neg e2, if_neg (by omega)]
  · rfl
theorem cp_0 (M : Mem) (a sp b dp : Nat) : cpI M a sp b dp 0 = M := by
  apply Prod.ext
  · funext x y
    exact if_neg (by omega)
  · rfl
theorem cp_at {M : Mem} {a sp b dp n k : Nat} (h : k < n) : (cpI M a sp b dp n).1 b (dp + k) = M.1 a (sp + k) := by
  show (if b = b ∧ dp ≤ dp + k ∧ dp + k < dp + n then M.1 a (sp + (dp + k - dp)) else _) = _
  rw [if_pos ⟨rfl, by omega, by omega⟩, Nat.add_sub_cancel_left]
theorem m_begins (n : Nat) (hn : 61 ≤ n) {L : Nat} (hL : L < 10) (M : Mem) : X_Model_begins n (nI L) M = some ((), cpI M 1 0 15 (60 * L) 60) := by
  have key : ∀ (d i f : Nat), 60 - i = d → i ≤ 60 → d < f → X_Model_begins_L2 n (nI L) f (nI i) (cpI M 1 0 15 (60 * L) i) = some ((), cpI M 1 0 15 (60 * L) 60) := by
    intro d
    induction d with
    | zero =>
      intro i f h1 h2 h3
      obtain ⟨f, rfl⟩ : ∃ g, f = g + 1 := ⟨f - 1, by omega⟩
      have e : i = 60 := by omega
      subst e
      show (if (60 : Int32) ≤ nI 60 then _ else _) = _
      rw [if_pos (by decide)]
    | succ d ih =>
      intro i f h1 h2 h3
      obtain ⟨f, rfl⟩ : ∃ g, f = g + 1 := ⟨f - 1, by omega⟩
      generalize hN : cpI M 1 0 15 (60 * L) i = N
      show (if (60 : Int32) ≤ nI i then _ else gd (nI i) 234 (gd (((60 : Int32) * nI L) + nI i) 600 (X_Model_begins_L2 n (nI L) f (nI i + 1) (si N 15 ((((60 : Int32) * nI L) + nI i).toNatClampNeg) (N.1 1 (nI i).toNatClampNeg))))) = _
      rw [if_neg (show ¬ (60 : Int32) ≤ nI i from nI_ge (b := 60) (by omega) (by decide)), gd_in (vp_in_nI (by omega) (by decide)), show (60 : Int32) = nI 60 from rfl, pk_mul, nI_add, gd_in (vp_in_nI (by omega) (by decide)), nI_clamp (by omega), nI_clamp (by omega), nI_1, ← hN]
      have := cp_step (M := M) (a := 1) (sp := 0) (b := 15) (dp := 60 * L) (i := i) (Or.inl (by decide))
      rw [Nat.zero_add] at this
      rw [this]
      exact ih (i + 1) f (by omega) (by omega) (by omega)
  have := key 60 0 n rfl (by decide) (by omega)
  rw [cp_0] at this
  exact this
theorem m_becomes (n : Nat) (hn : 61 ≤ n) {L : Nat} (hL : L < 10) (M : Mem) : X_Model_becomes n (nI L) M = some ((), cpI M 15 (60 * L) 1 0 60) := by
  have key : ∀ (d i f : Nat), 60 - i = d → i ≤ 60 → d < f → X_Model_becomes_L2 n (nI L) f (nI i) (cpI M 15 (60 * L) 1 0 i) = some ((), cpI M 15 (60 * L) 1 0 60) := by
    intro d
    induction d with
    | zero =>
      intro i f h1 h2 h3
      obtain ⟨f, rfl⟩ : ∃ g, f = g + 1 := ⟨f - 1, by omega⟩
      have e : i = 60 := by omega
      subst e
      show (if (60 : Int32) ≤ nI 60 then _ else _) = _
      rw [if_pos (by decide)]
    | succ d ih =>
      intro i f h1 h2 h3
      obtain ⟨f, rfl⟩ : ∃ g, f = g + 1 := ⟨f - 1, by omega⟩
      generalize hN : cpI M 15 (60 * L) 1 0 i = N
      show (if (60 : Int32) ≤ nI i then _ else gd (((60 : Int32) * nI L) + nI i) 600 (gd (nI i) 234 (X_Model_becomes_L2 n (nI L) f (nI i + 1) (si N 1 ((nI i).toNatClampNeg) (N.1 15 (((60 : Int32) * nI L) + nI i).toNatClampNeg))))) = _
      rw [if_neg (show ¬ (60 : Int32) ≤ nI i from nI_ge (b := 60) (by omega) (by decide)), show (60 : Int32) = nI 60 from rfl, pk_mul, nI_add, gd_in (vp_in_nI (by omega) (by decide)), gd_in (vp_in_nI (by omega) (by decide)), nI_clamp (by omega), nI_clamp (by omega), nI_1, ← hN]
      have := cp_step (M := M) (a := 15) (sp := 60 * L) (b := 1) (dp := 0) (i := i) (Or.inl (by decide))
      rw [Nat.zero_add] at this
      rw [this]
      exact ih (i + 1) f (by omega) (by omega) (by omega)
  have := key 60 0 n rfl (by decide) (by omega)
  rw [cp_0] at this
  exact this
theorem m_copies (n : Nat) (hn : 61 ≤ n) {L K : Nat} (hL : L < 10) (hK : K < L) (M : Mem) : X_Model_copies n (nI L) (nI K) M = some ((), cpI M 15 (60 * K) 15 (60 * L) 60) := by
  have key : ∀ (d i f : Nat), 60 - i = d → i ≤ 60 → d < f → X_Model_copies_L2 n (nI L) (nI K) f (nI i) (cpI M 15 (60 * K) 15 (60 * L) i) = some ((), cpI M 15 (60 * K) 15 (60 * L) 60) := by
    intro d
    induction d with
    | zero =>
      intro i f h1 h2 h3
      obtain ⟨f, rfl⟩ : ∃ g, f = g + 1 := ⟨f - 1, by omega⟩
      have e : i = 60 := by omega
      subst e
      show (if (60 : Int32) ≤ nI 60 then _ else _) = _
      rw [if_pos (by decide)]
    | succ d ih =>
      intro i f h1 h2 h3
      obtain ⟨f, rfl⟩ : ∃ g, f = g + 1 := ⟨f - 1, by omega⟩
      generalize hN : cpI M 15 (60 * K) 15 (60 * L) i = N
      show (if (60 : Int32) ≤ nI i then _ else gd (((60 : Int32) * nI K) + nI i) 600 (gd (((60 : Int32) * nI L) + nI i) 600 (X_Model_copies_L2 n (nI L) (nI K) f (nI i + 1) (si N 15 ((((60 : Int32) * nI L) + nI i).toNatClampNeg) (N.1 15 (((60 : Int32) * nI K) + nI i).toNatClampNeg))))) = _
      rw [if_neg (show ¬ (60 : Int32) ≤ nI i from nI_ge (b := 60) (by omega) (by decide)), show (60 : Int32) = nI 60 from rfl, pk_mul, pk_mul, nI_add, nI_add, gd_in (vp_in_nI (by omega) (by decide)), gd_in (vp_in_nI (by omega) (by decide)), nI_clamp (by omega), nI_clamp (by omega), nI_1, ← hN]
      rw [cp_step (Or.inr (Or.inl (by omega)))]
      exact ih (i + 1) f (by omega) (by omega) (by omega)
  have := key 60 0 n rfl (by decide) (by omega)
  rw [cp_0] at this
  exact this
theorem LyM.cp {M : Mem} {a sp b dp : Nat} {W : Nat → List Nat} (h : LyM M a sp W) (hW : OkW W) : LyM (cpI M a sp b dp 60) b dp W := fun p hp => by
  have hl := (hW p).2
  refine ⟨by rw [cp_at (by omega)]; exact (h p hp).1, fun i t hi => ?_⟩
  have h2 := (List.getElem?_eq_some_iff.mp hi).1
  rw [show dp + 10 * p + 1 + i = dp + (10 * p + 1 + i) by omega, cp_at (by omega), ← (h p hp).2 i t hi, show sp + 10 * p + 1 + i = sp + (10 * p + 1 + i) by omega]
theorem m_knowsIn (n : Nat) (hn : 20 ≤ n) {M : Mem} {L p : Nat} (hL : L < 10) (hp : p < 6) {l : List Nat} (hM : RwM M 15 (60 * L + 10 * p) l) (hr : Ro l) (hl : l.length ≤ 9) : X_Model_knowsIn n (nI L) (nI p) M = some (nI (knN l), M) := by
  have key : ∀ (d i f : Nat), l.length - i = d → i ≤ l.length → d < f → X_Model_knowsIn_L16 n (nI (60 * L + 10 * p)) M f (nI (knN (l.take i))) (nI i) = some (nI (knN l), M) := by
    intro d
    induction d with
    | zero =>
      intro i f h1 h2 h3
      obtain ⟨f, rfl⟩ : ∃ g, f = g + 1 := ⟨f - 1, by omega⟩
      show gd (nI (60 * L + 10 * p)) 600 (if M.1 15 (nI (60 * L + 10 * p)).toNatClampNeg ≤ nI i then _ else _) = _
      rw [gd_in (vp_in_nI (by omega) (by decide)), nI_clamp (by omega), hM.1, if_pos (nI_le (by omega) (by omega)), List.take_of_length_le (by omega)]
    | succ d ih =>
      intro i f h1 h2 h3
      obtain ⟨f, rfl⟩ : ∃ g, f = g + 1 := ⟨f - 1, by omega⟩
      have hi : i < l.length := by omega
      have ht := hr.2 _ (List.getElem_mem hi)
      have e := hM.2 i _ (List.getElem?_eq_getElem hi)
      show gd (nI (60 * L + 10 * p)) 600 (if M.1 15 (nI (60 * L + 10 * p)).toNatClampNeg ≤ nI i then _ else gd ((nI (60 * L + 10 * p) + 1) + nI i) 600 (X_Model_knowsIn_L16 n (nI (60 * L + 10 * p)) M f (nI (knN (l.take i)) ||| ((1 : Int32) <<< ((M.1 15 ((nI (60 * L + 10 * p) + 1) + nI i).toNatClampNeg) &&& 31))) (nI i + 1))) = _
      rw [gd_in (vp_in_nI (by omega) (by decide)), nI_clamp (by omega), hM.1, if_neg (nI_ge (by omega) (by omega)), nI_1, nI_add, gd_in (vp_in_nI (by omega) (by decide)), nI_clamp (by omega), e, i_shl1 (by omega), i_or, nI_1, ← knN_app, List.take_append_getElem hi]
      exact ih (i + 1) f (by omega) (by omega) (by omega)
  unfold X_Model_knowsIn nm
  rw [show (60 : Int32) = nI 60 from rfl, show (10 : Int32) = nI 10 from rfl, pk_mul, pk_mul, nI_add]
  exact key _ 0 n rfl (Nat.zero_le _) (by omega)
theorem b_is {k t : Nat} (hk : k < 2 ^ 31) (ht : t < 32) : ((nI k >>> (nI t &&& 31) &&& 1) : Int32) = nI (if k.testBit t then 1 else 0) := by
  rw [bit_is hk ht]
  cases k.testBit t <;> rfl
theorem m_whoIn (n : Nat) (hn : 20 ≤ n) {M : Mem} {P L t : Nat} (hP : M.1 0 2 = nI P) (hP6 : P ≤ 6) (hL : L < 10) (ht : t < 16) {W : Nat → List Nat} (hW : OkW W) (hM : LyM M 15 (60 * L) W) : X_Model_whoIn n (nI L) (nI t) M = some (nI (whoN W t P), M) := by
  have key : ∀ (d i f : Nat), P - i = d → i ≤ P → d < f → X_Model_whoIn_L5 n (nI L) (nI t) f (nI (whoN W t i)) (nI i) M = some (nI (whoN W t P), M) := by
    intro d
    induction d with
    | zero =>
      intro i f h1 h2 h3
      obtain ⟨f, rfl⟩ : ∃ g, f = g + 1 := ⟨f - 1, by omega⟩
      have e : i = P := by omega
      subst e
      show (if M.1 0 2 ≤ nI i then _ else _) = _
      rw [hP, if_pos (nI_le (by omega) (by omega))]
    | succ d ih =>
      intro i f h1 h2 h3
      obtain ⟨f, rfl⟩ : ∃ g, f = g + 1 := ⟨f - 1, by omega⟩
      have hi : i < 6 := by omega
      have hk := knN_lt (hW i).1.2
      show (if M.1 0 2 ≤ nI i then _ else bd (X_Model_knowsIn n (nI L) (nI i) M) fun r1 M2 => X_Model_whoIn_L5 n (nI L) (nI t) f (nI (whoN W t i) ||| (((r1 >>> (nI t &&& 31)) &&& 1) <<< (nI i &&& 31))) (nI i + 1) M2) = _
      rw [hP, if_neg (nI_ge (by omega) (by omega)), m_knowsIn n hn hL hi (hM i hi) (hW i).1 (hW i).2, bd_ret, b_is (by omega) (by omega), knN_bit]
      have e : nI (if decide (t ∈ W i) then 1 else 0) <<< (nI i &&& 31) = nI (if t ∈ W i then 2 ^ i else 0) := by
        by_cases h : t ∈ W i
        · rw [if_pos (by simp [h]), if_pos h]
          exact i_shl1 (by omega)
        · rw [if_neg (by simp [h]), if_neg h, i_shl (by omega) (by omega), Nat.zero_mul]
      rw [e, i_or, nI_1]
      exact ih (i + 1) f (by omega) (by omega) (by omega)
  exact key _ 0 n rfl (Nat.zero_le _) (by omega)
theorem m_anyIn (n : Nat) (hn : 20 ≤ n) {M : Mem} {P L : Nat} (hP : M.1 0 2 = nI P) (hP6 : P ≤ 6) (hL : L < 10) {W : Nat → List Nat} (hW : OkW W) (hM : LyM M 15 (60 * L) W) : X_Model_anyIn n (nI L) M = some (nI (anyN W P), M) := by
  have key : ∀ (d i f : Nat), P - i = d → i ≤ P → d < f → X_Model_anyIn_L4 n (nI L) f (nI (anyN W i)) (nI i) M = some (nI (anyN W P), M) := by
    intro d
    induction d with
    | zero =>
      intro i f h1 h2 h3
      obtain ⟨f, rfl⟩ : ∃ g, f = g + 1 := ⟨f - 1, by omega⟩
      have e : i = P := by omega
      subst e
      show (if M.1 0 2 ≤ nI i then _ else _) = _
      rw [hP, if_pos (nI_le (by omega) (by omega))]
    | succ d ih =>
      intro i f h1 h2 h3
      obtain ⟨f, rfl⟩ : ∃ g, f = g + 1 := ⟨f - 1, by omega⟩
      have hi : i < 6 := by omega
      show (if M.1 0 2 ≤ nI i then _ else bd (X_Model_knowsIn n (nI L) (nI i) M) fun r1 M2 => X_Model_anyIn_L4 n (nI L) f (nI (anyN W i) ||| r1) (nI i + 1) M2) = _
      rw [hP, if_neg (nI_ge (by omega) (by omega)), m_knowsIn n hn hL hi (hM i hi) (hW i).1 (hW i).2, bd_ret, i_or, nI_1]
      exact ih (i + 1) f (by omega) (by omega) (by omega)
  exact key _ 0 n rfl (Nat.zero_le _) (by omega)
def mh (L : Nat) (a k : Nat) : Prop := mk a k ∨ rg 15 (60 * L) 60 a k
def GlM (M : Mem) (b g : Nat) : Prop := ∀ p, p < 6 → M.1 1 (b + p) = nI (if g.testBit p then 1 else 0)
theorem mod_bit (g i : Nat) : g % 2 ^ (i + 1) = g % 2 ^ i ||| (if g.testBit i then 2 ^ i else 0) := by
  apply Nat.eq_of_testBit_eq
  intro j
  rw [Nat.testBit_or, Nat.testBit_mod_two_pow, Nat.testBit_mod_two_pow]
  by_cases e : j = i
  · subst e
    by_cases h : g.testBit j
    · simp [h]
    · simp [h]
  · have e2 : ¬ i = j := fun q => e q.symm
    have e3 : (if g.testBit i then 2 ^ i else 0).testBit j = false := by
      by_cases h : g.testBit i
      · rw [if_pos h, Nat.testBit_two_pow]; simp [e2]
      · rw [if_neg h, Nat.zero_testBit]
    rw [e3, Bool.or_false]
    congr 1
    exact decide_eq_decide.mpr (by omega)
theorem m_worn (n : Nat) (hn : 20 ≤ n) {M : Mem} {P g : Nat} (hP : M.1 0 2 = nI P) (hP6 : P ≤ 6) (hg : g < 2 ^ P) (hM : GlM M 60 g) : X_Model_worn n M = some (nI g, M) := by
  have key : ∀ (d i f : Nat), P - i = d → i ≤ P → d < f → X_Model_worn_L4 n M f (nI (g % 2 ^ i)) (nI i) = some (nI g, M) := by
    intro d
    induction d with
    | zero =>
      intro i f h1 h2 h3
      obtain ⟨f, rfl⟩ : ∃ g, f = g + 1 := ⟨f - 1, by omega⟩
      have e : i = P := by omega
      subst e
      show (if M.1 0 2 ≤ nI i then _ else _) = _
      rw [hP, if_pos (nI_le (by omega) (by omega)), Nat.mod_eq_of_lt hg]
    | succ d ih =>
      intro i f h1 h2 h3
      obtain ⟨f, rfl⟩ : ∃ g, f = g + 1 := ⟨f - 1, by omega⟩
      have hi : i < 6 := by omega
      show (if M.1 0 2 ≤ nI i then _ else gd ((60 : Int32) + nI i) 234 (X_Model_worn_L4 n M f (nI (g % 2 ^ i) ||| ((M.1 1 ((60 : Int32) + nI i).toNatClampNeg) <<< (nI i &&& 31))) (nI i + 1))) = _
      rw [hP, if_neg (nI_ge (by omega) (by omega)), show (60 : Int32) = nI 60 from rfl, nI_add, gd_in (vp_in_nI (by omega) (by decide)), nI_clamp (by omega), hM i hi]
      have e : nI (if g.testBit i then 1 else 0) <<< (nI i &&& 31) = nI (if g.testBit i then 2 ^ i else 0) := by
        by_cases h : g.testBit i
        · rw [if_pos h, if_pos h]
          exact i_shl1 (by omega)
        · rw [if_neg h, if_neg h, i_shl (by omega) (by omega), Nat.zero_mul]
      rw [e, i_or, ← mod_bit, nI_1]
      exact ih (i + 1) f (by omega) (by omega) (by omega)
  have := key _ 0 n rfl (Nat.zero_le _) (by omega)
  rw [Nat.pow_zero, Nat.mod_one] at this
  exact this
theorem m_bitsOf (n : Nat) (hn : 20 ≤ n) {k : Nat} (hk : k < 65536) (M : Mem) : X_Model_bitsOf n (nI k) M = some (nI (popN 16 k), M) := by
  have key : ∀ (d i f : Nat), 16 - i = d → i ≤ 16 → d < f → X_Model_bitsOf_L4 n (nI k) M f (nI (popN i k)) (nI i) = some (nI (popN 16 k), M) := by
    intro d
    induction d with
    | zero =>
      intro i f h1 h2 h3
      obtain ⟨f, rfl⟩ : ∃ g, f = g + 1 := ⟨f - 1, by omega⟩
      have e : i = 16 := by omega
      subst e
      show (if (16 : Int32) ≤ nI 16 then _ else _) = _
      rw [if_pos (by decide)]
    | succ d ih =>
      intro i f h1 h2 h3
      obtain ⟨f, rfl⟩ : ∃ g, f = g + 1 := ⟨f - 1, by omega⟩
      show (if (16 : Int32) ≤ nI i then _ else X_Model_bitsOf_L4 n (nI k) M f (nI (popN i k) + ((nI k >>> (nI i &&& 31)) &&& 1)) (nI i + 1)) = _
      rw [if_neg (show ¬ (16 : Int32) ≤ nI i from nI_ge (b := 16) (by omega) (by decide)), b_is (by omega) (by omega), nI_add, nI_1, Nat.add_comm (popN i k)]
      exact ih (i + 1) f (by omega) (by omega) (by omega)
  exact key 16 0 n rfl (by decide) (by omega)
theorem m_shakes (n : Nat) (hn : 20 ≤ n) {M : Mem} {R : Rl} (hR : OkR R) (hC : MC M R) {L : Nat} (hL : L < 10) {W : Nat → List Nat} (hW : OkW W) (hM : LyM M 15 (60 * L) W) {g x : Nat} (hg : g < 2 ^ 31) (hx : x < 15) :
    ∃ M', X_Model_shakes n (nI L) (nI x) (nI g) M = some ((), M') ∧ Fr (mh L) M M' ∧ LyM M' 15 (60 * L) (handF R g x W) := by
  obtain ⟨p1, p2, -, -, -⟩ := les_gre x hx
  obtain ⟨c1, c2⟩ := hC.2.2.2.2.2.2.2.2 x hx
  have v15 : vp_in (nI x) 15 := vp_in_nI hx (by decide)
  have ex : (nI x).toNatClampNeg = x := nI_clamp (by omega)
  have hun : handF R g x W = if g.testBit (les x) || g.testBit (gre x) then W else fun p => if p = les x ∨ p = gre x then settle R (mergeT (W (les x)) (W (gre x))) else W p := rfl
  simp only [X_Model_shakes, nm, gd_in v15, ex, c1, c2]
  generalize les x = a at *
  generalize gre x = b at *
  rw [b_is hg (by omega), b_is hg (by omega)]
  by_cases ha : g.testBit a
  · rw [if_pos (by rw [if_pos ha]; rfl)]
    refine ⟨M, rfl, Fr.rf, ?_⟩
    rw [hun, if_pos (by simp [ha])]
    exact hM
  · rw [if_neg (by rw [if_neg ha]; decide)]
    by_cases hb : g.testBit b
    · rw [if_pos (by rw [if_pos hb]; rfl)]
      refine ⟨M, rfl, Fr.rf, ?_⟩
      rw [hun, if_pos (by simp [hb])]
      exact hM
    · rw [if_neg (by rw [if_neg hb]; decide), hun, if_neg (by simp [ha, hb])]
      rw [show (60 : Int32) = nI 60 from rfl, show (10 : Int32) = nI 10 from rfl, pk_mul, pk_mul, pk_mul, nI_add, nI_add]
      have hA := hW a
      have hB := hW b
      have f0 : Fr mk M (si M 0 35 0) := Fr.si (Or.inr ⟨rfl, rfl⟩)
      have k0 : MkAt (si M 0 35 0) [] := ⟨si_at _ _ _ _, fun i t h => by simp at h⟩
      have hmk15 : ∀ k, ¬ mk 15 k := fun k => by unfold mk; omega
      obtain ⟨M1, g1, g2, g3⟩ := m_takes n hn (c := 15) (ln := 600) (b := 60 * L + 10 * a) (by decide) hA.1 hA.2 (by omega) (by decide) ((hM a (by omega)).fr f0 (fun k _ _ => hmk15 k)) k0 ⟨List.nodup_nil, by simp⟩
      have m0 : mergeT [] (W a) = W a := by
        have : ∀ (m l : List Nat), (l ++ m).Nodup → mergeT l m = l ++ m := by
          intro m
          induction m with
          | nil => intro l _; simp [mergeT]
          | cons t m ih =>
            intro l h
            have h1 : t ∉ l := by
              have := (List.nodup_append.mp h).2.2
              intro q
              exact this t q t List.mem_cons_self rfl
            show mergeT (addT l t) m = _
            unfold addT
            rw [if_neg h1, ih (l ++ [t]) (by simpa using h)]
            simp
        have h := this (W a) [] (by simpa using hA.1.1)
        simpa using h
      rw [m0] at g2
      obtain ⟨M2, k1, k2, k3⟩ := m_takes n hn (c := 15) (ln := 600) (b := 60 * L + 10 * b) (by decide) hB.1 hB.2 (by omega) (by decide) ((hM b (by omega)).fr (f0.trans g3) (fun k _ _ => hmk15 k)) g2 hA.1
      obtain ⟨M3, q1, q2, q3⟩ := m_settles n hn hR ((hC.mk f0).mk (g3.trans k3)) k2 (hA.1.merge hB.1.2)
      have hl9 := settle_le9 hR (mergeT (W a) (W b))
      obtain ⟨M4, t1, t2, t3⟩ := m_puts n hn (c := 15) (ln := 600) (b := 60 * L + 10 * a) (by decide) (by omega) (by decide) q2 hl9
      have q2' : MkAt M4 (settle R (mergeT (W a) (W b))) := q2.fr t3 (by unfold rg; omega) (by unfold rg; omega)
      obtain ⟨M5, u1, u2, u3⟩ := m_puts n hn (c := 15) (ln := 600) (b := 60 * L + 10 * b) (by decide) (by omega) (by decide) q2' hl9
      have fr1 : Fr mk M M3 := ((f0.trans g3).trans k3).trans q3
      refine ⟨M5, ?_, ?_, ?_⟩
      · rw [g1, bd_ret, k1, bd_ret, q1, bd_ret, t1, bd_ret, u1]
        rfl
      · refine ((fr1.mono (fun _ _ h => Or.inl h)).trans (t3.mono (fun x y h => Or.inr ?_))).trans (u3.mono (fun x y h => Or.inr ?_))
        · unfold rg at *; omega
        · unfold rg at *; omega
      · intro p hp
        dsimp only
        by_cases e : p = b
        · rw [if_pos (Or.inr e), e]
          exact u2
        · by_cases e2 : p = a
          · rw [if_pos (Or.inl e2), e2]
            exact t2.fr u3 (fun k _ _ => by unfold rg; omega)
          · rw [if_neg (by omega)]
            have := (hW p).2
            exact (((hM p hp).fr fr1 (fun k _ _ => hmk15 k)).fr t3 (fun k _ _ => by unfold rg; omega)).fr u3 (fun k _ _ => by unfold rg; omega)
theorem mh_MC {L : Nat} (k : Nat) (h : k ∈ [2, 3, 4, 5, 6]) : ¬ mh L 0 k := by
  simp only [List.mem_cons, List.not_mem_nil, or_false] at h
  unfold mh mk rg
  omega
theorem mh_MC2 {L : Nat} (a k : Nat) (h : a ∈ [3, 4, 5, 6, 7]) : ¬ mh L a k := by
  simp only [List.mem_cons, List.not_mem_nil, or_false] at h
  unfold mh mk rg
  omega
theorem MC.mh {M M' : Mem} {R : Rl} {L : Nat} (h : MC M R) (ho : Fr (mh L) M M') : MC M' R := h.fr ho mh_MC mh_MC2
theorem GlM.fr {P : Nat → Nat → Prop} {M M' : Mem} {b g : Nat} (h : GlM M b g) (ho : Fr P M M') (hp : ∀ k, b ≤ k → k < b + 6 → ¬ P 1 k) : GlM M' b g := fun p hp6 => by rw [(ho 1 (b + p) (hp _ (by omega) (by omega))).1]; exact h p hp6
theorem mh_1 {L : Nat} (k : Nat) : ¬ mh L 1 k := by unfold mh mk rg; omega
theorem m_feasts_L (n : Nat) (hn : 20 ≤ n) {R : Rl} (hR : OkR R) {g : Nat} (hg : g < 2 ^ 31) {k : Nat} (hk : k ≤ R.2.2.2.1.length) : ∀ (d i f : Nat) (M : Mem) (W : Nat → List Nat), k - i = d → i ≤ k → d < f → MC M R → OkW W → LyM M 15 0 W → ∃ M', X_Model_feasts_L7 n (nI k) (nI g) f (nI i) M = some ((), M') ∧ Fr (mh 0) M M' ∧ LyM M' 15 0 (feastF R g ((R.2.2.2.1.take k).drop i) W) := by
  have hl16 := hR.2.2.2.2.2.2.1
  intro d
  induction d with
  | zero =>
    intro i f M W h1 h2 h3 hC hW hM
    obtain ⟨f, rfl⟩ : ∃ g, f = g + 1 := ⟨f - 1, by omega⟩
    refine ⟨M, ?_, Fr.rf, ?_⟩
    · show (if nI k ≤ nI i then some ((), M) else _) = _
      rw [if_pos (nI_le (by omega) (by omega))]
    · rw [List.drop_eq_nil_of_le (by rw [List.length_take]; omega)]
      exact hM
  | succ d ih =>
    intro i f M W h1 h2 h3 hC hW hM
    obtain ⟨f, rfl⟩ : ∃ g, f = g + 1 := ⟨f - 1, by omega⟩
    have hi : i < R.2.2.2.1.length := by omega
    have e2 := hC.2.2.2.2.2.2.1 i _ (List.getElem?_eq_getElem hi)
    have hx := hR.2.2.2.2.2.2.2.1 _ (List.getElem_mem hi)
    obtain ⟨M1, g1, g2, g3⟩ := m_shakes n hn hR hC (L := 0) (by decide) hW hM hg hx.1
    obtain ⟨M2, q1, q2, q3⟩ := ih (i + 1) f M1 _ (by omega) (by omega) (by omega) (hC.mh g2) (hW.hand hR g _) g3
    refine ⟨M2, ?_, g2.trans q2, ?_⟩
    · show (if nI k ≤ nI i then some ((), M) else gd (nI i) 16 (bd (X_Model_shakes n (nI 0) (M.1 4 (nI i).toNatClampNeg) (nI g) M) fun _ M4 => X_Model_feasts_L7 n (nI k) (nI g) f (nI i + 1) M4)) = _
      rw [if_neg (nI_ge (by omega) (by omega)), gd_in (vp_in_nI (by omega) (by decide)), nI_clamp (by omega), e2, g1, bd_ret, nI_1]
      exact q1
    · have hd : (R.2.2.2.1.take k).drop i = R.2.2.2.1[i] :: (R.2.2.2.1.take k).drop (i + 1) := by
        rw [List.drop_eq_getElem_cons (by rw [List.length_take]; omega)]
        simp
      rw [hd]
      exact q3
theorem m_aDay (n : Nat) (hn : 20 ≤ n) {R : Rl} (hR : OkR R) {g : Nat} (hg : g < 2 ^ R.1) {M : Mem} {W : Nat → List Nat} (hC : MC M R) (hG : GlM M 60 g) (hW : OkW W) (hM : LyM M 15 0 W) : ∃ M', X_Model_aDay n (nI 0) M = some ((), M') ∧ Fr (mh 0) M M' ∧ LyM M' 15 0 (feastF R g R.2.2.2.2 W) := by
  have hl8 := hR.2.2.2.2.2.2.2.2.1
  have hg31 : g < 2 ^ 31 := Nat.lt_of_lt_of_le hg (Nat.pow_le_pow_right (by decide) (by have := hR.2.1; omega))
  have key : ∀ (d i f : Nat) (M : Mem) (W : Nat → List Nat), R.2.2.2.2.length - i = d → i ≤ R.2.2.2.2.length → d < f → MC M R → GlM M 60 g → OkW W → LyM M 15 0 W → ∃ M', X_Model_aDay_L2 n (nI 0) f (nI i) M = some ((), M') ∧ Fr (mh 0) M M' ∧ LyM M' 15 0 (feastF R g (R.2.2.2.2.drop i) W) := by
    intro d
    induction d with
    | zero =>
      intro i f M W h1 h2 h3 hC hG hW hM
      obtain ⟨f, rfl⟩ : ∃ g, f = g + 1 := ⟨f - 1, by omega⟩
      refine ⟨M, ?_, Fr.rf, ?_⟩
      · show (if M.1 0 6 ≤ nI i then some ((), M) else _) = _
        rw [hC.2.2.2.2.1, if_pos (nI_le (by omega) (by omega))]
      · rw [List.drop_eq_nil_of_le (by omega)]
        exact hM
    | succ d ih =>
      intro i f M W h1 h2 h3 hC hG hW hM
      obtain ⟨f, rfl⟩ : ∃ g, f = g + 1 := ⟨f - 1, by omega⟩
      have hi : i < R.2.2.2.2.length := by omega
      have e2 := hC.2.2.2.2.2.2.2.1 i _ (List.getElem?_eq_getElem hi)
      have hx := hR.2.2.2.2.2.2.2.2.2 _ (List.getElem_mem hi)
      obtain ⟨M1, g1, g2, g3⟩ := m_shakes n hn hR hC (L := 0) (by decide) hW hM hg31 hx.1
      obtain ⟨M2, q1, q2, q3⟩ := ih (i + 1) f M1 _ (by omega) (by omega) (by omega) (hC.mh g2) (hG.fr g2 (fun k _ _ => mh_1 k)) (hW.hand hR g _) g3
      refine ⟨M2, ?_, g2.trans q2, ?_⟩
      · show (if M.1 0 6 ≤ nI i then some ((), M) else gd (nI i) 8 (bd (X_Model_worn n M) fun r1 M2 => bd (X_Model_shakes n (nI 0) (M.1 5 (nI i).toNatClampNeg) r1 M2) fun _ M4 => X_Model_aDay_L2 n (nI 0) f (nI i + 1) M4)) = _
        rw [hC.2.2.2.2.1, if_neg (nI_ge (by omega) (by omega)), gd_in (vp_in_nI (by omega) (by decide)), nI_clamp (by omega), m_worn n hn hC.1 hR.2.1 hg hG, bd_ret, e2, g1, bd_ret, nI_1]
        exact q1
      · rw [List.drop_eq_getElem_cons hi]
        exact q3
  exact key _ 0 n M W rfl (Nat.zero_le _) (by omega) hC hG hW hM
-- the pair of two
def prN (a b : Nat) : Nat := if a ≤ b then b * (b - 1) / 2 + a else a * (a - 1) / 2 + b
theorem pr_ok : ∀ a, a < 6 → ∀ b, b < 6 → a ≠ b → prN a b < 15 ∧ les (prN a b) = min a b ∧ gre (prN a b) = max a b := by decide +kernel
theorem x_pairOf (n : Nat) {a b : Nat} (ha : a < 6) (hb : b < 6) (h : a ≠ b) (M : Mem) : X_ShakeHands_pairOf n (nI a) (nI b) M = some (nI (prN a b), M) := by
  have : ∀ a, a < 6 → ∀ b, b < 6 → a ≠ b → ((((if nI a < nI b then nI b else nI a) * ((if nI a < nI b then nI b else nI a) - 1)) / 2 : Int32) + (if nI b < nI a then nI b else nI a)) = nI (prN a b) := by decide +kernel
  unfold X_ShakeHands_pairOf nm
  dsimp only
  rw [if_neg (by decide), this a ha b hb h]
theorem m_pairOf (n : Nat) {a b : Nat} (ha : a < 6) (hb : b < 6) (h : a ≠ b) (M : Mem) : X_Model_pairOf n (nI a) (nI b) M = some (nI (prN a b), M) := by
  have : ∀ a, a < 6 → ∀ b, b < 6 → a ≠ b → (if nI b ≤ nI a then (nI a * (nI a - 1)) / 2 + nI b else (nI b * (nI b - 1)) / 2 + nI a : Int32) = nI (prN a b) := by decide +kernel
  have h2 := this a ha b hb h
  unfold X_Model_pairOf
  by_cases e : nI b ≤ nI a
  · rw [if_pos e] at h2
    rw [if_pos e, if_neg (by decide), h2]
  · rw [if_neg e] at h2
    rw [if_neg e, if_neg (by decide), h2]
end
section
/-! THE ABSTRACT STATE; what both memories have of it -/
abbrev Mi : Type := (Nat → List Nat) × Nat × Nat × (Nat → Nat)
abbrev Mi.W (m : Mi) : Nat → List Nat := Prod.fst m
abbrev Mi.gl (m : Mi) : Nat := (Prod.snd m).1
abbrev Mi.sn (m : Mi) : Nat := (Prod.snd m).2.1
abbrev Mi.sg (m : Mi) : Nat → Nat := (Prod.snd m).2.2
abbrev Ab : Type := Rl × Mi × (Nat → Mi) × Nat × List Nat × Nat × Nat × (Nat → Option (Nat × Nat)) × (Nat → Nat → Int32)
abbrev Ab.R (S : Ab) : Rl := Prod.fst S
abbrev Ab.A (S : Ab) : Mi := (Prod.snd S).1
abbrev Ab.I (S : Ab) : Nat → Mi := (Prod.snd S).2.1
abbrev Ab.kp (S : Ab) : Nat := (Prod.snd S).2.2.1
abbrev Ab.tp (S : Ab) : List Nat := (Prod.snd S).2.2.2.1
abbrev Ab.ft (S : Ab) : Nat := (Prod.snd S).2.2.2.2.1
abbrev Ab.tn (S : Ab) : Nat := (Prod.snd S).2.2.2.2.2.1
abbrev Ab.sh (S : Ab) : Nat → Option (Nat × Nat) := (Prod.snd S).2.2.2.2.2.2.1
abbrev Ab.ce (S : Ab) : Nat → Nat → Int32 := (Prod.snd S).2.2.2.2.2.2.2
def OkMi (P : Nat) (m : Mi) : Prop := OkW m.W ∧ (∀ p, P ≤ p → m.W p = []) ∧ m.gl < 2 ^ P ∧ m.sn < 2 ^ P ∧ ∀ p, m.sg p < 65536
def Ok (S : Ab) : Prop :=
  (OkR S.R) ∧
  (OkMi S.R.1 S.A) ∧
  (∀ k, k < 2 → S.kp.testBit k = true → OkMi S.R.1 (S.I k)) ∧
  (S.kp < 4) ∧
  (S.tp.length ≤ 320) ∧
  (∀ x ∈ S.tp, x < 256) ∧
  (S.ft < 64) ∧
  (S.tn < 4) ∧
  (∀ k l z, S.sh k = some (l, z) → l < 3 ∧ z ≤ 40)
theorem Ok.hR {S : Ab} (h : Ok S) : OkR S.R := h.1
theorem Ok.hA {S : Ab} (h : Ok S) : OkMi S.R.1 S.A := h.2.1
theorem Ok.hI {S : Ab} (h : Ok S) : ∀ k, k < 2 → S.kp.testBit k = true → OkMi S.R.1 (S.I k) := h.2.2.1
theorem Ok.hk {S : Ab} (h : Ok S) : S.kp < 4 := h.2.2.2.1
theorem Ok.ht {S : Ab} (h : Ok S) : S.tp.length ≤ 320 := h.2.2.2.2.1
theorem Ok.hb {S : Ab} (h : Ok S) : ∀ x ∈ S.tp, x < 256 := h.2.2.2.2.2.1
theorem Ok.hf {S : Ab} (h : Ok S) : S.ft < 64 := h.2.2.2.2.2.2.1
theorem Ok.hn {S : Ab} (h : Ok S) : S.tn < 4 := h.2.2.2.2.2.2.2.1
theorem Ok.hs {S : Ab} (h : Ok S) : ∀ k l z, S.sh k = some (l, z) → l < 3 ∧ z ≤ 40 := h.2.2.2.2.2.2.2.2
def XMi (M : Mem) (o : Nat) (m : Mi) : Prop := M.1 o 1 = nI m.gl ∧ M.1 o 2 = nI m.sn ∧ rowsAt M (o + 1) m.W ∧ ∀ p, p < 6 → m.sn.testBit p = true → M.1 (o + 2) p = nI (m.sg p)
def sB (x : Nat) : Int32 := (nI x).toInt8.toInt32
def XSh (M : Mem) (k : Nat) (ce : Nat → Int32) : Option (Nat × Nat) → Prop
  | none => M.1 (41 + 2 * k) 0 = 0
  | some (l, z) => M.1 (41 + 2 * k) 0 = 1 ∧ M.1 (41 + 2 * k) 1 = nI z ∧ M.1 (41 + 2 * k) 2 = nI l ∧ ∀ i, i < 40 → M.1 (42 + 2 * k) i = ce i
def XA (M : Mem) (S : Ab) : Prop :=
  (XC M S.R) ∧
  (XMi M 16 S.A) ∧
  (∀ k, k < 2 → S.kp.testBit k = true → XMi M (20 + 3 * k) (S.I k)) ∧
  (M.1 0 9 = nI S.kp) ∧
  (M.1 0 10 = nI S.tn) ∧
  (M.1 1 1 = nI S.tp.length) ∧
  (∀ i x, S.tp[i]? = some x → M.1 2 i = sB x) ∧
  (M.1 3 3 = nI (S.ft % 8)) ∧
  (∀ k, k < 4 → XSh M k (S.ce k) (S.sh k))
theorem XA.c {M : Mem} {S : Ab} (h : XA M S) : XC M S.R := h.1
theorem XA.a {M : Mem} {S : Ab} (h : XA M S) : XMi M 16 S.A := h.2.1
theorem XA.i {M : Mem} {S : Ab} (h : XA M S) : ∀ k, k < 2 → S.kp.testBit k = true → XMi M (20 + 3 * k) (S.I k) := h.2.2.1
theorem XA.kp {M : Mem} {S : Ab} (h : XA M S) : M.1 0 9 = nI S.kp := h.2.2.2.1
theorem XA.tn {M : Mem} {S : Ab} (h : XA M S) : M.1 0 10 = nI S.tn := h.2.2.2.2.1
theorem XA.tl {M : Mem} {S : Ab} (h : XA M S) : M.1 1 1 = nI S.tp.length := h.2.2.2.2.2.1
theorem XA.tb {M : Mem} {S : Ab} (h : XA M S) : ∀ i x, S.tp[i]? = some x → M.1 2 i = sB x := h.2.2.2.2.2.2.1
theorem XA.ft {M : Mem} {S : Ab} (h : XA M S) : M.1 3 3 = nI (S.ft % 8) := h.2.2.2.2.2.2.2.1
theorem XA.sh {M : Mem} {S : Ab} (h : XA M S) : ∀ k, k < 4 → XSh M k (S.ce k) (S.sh k) := h.2.2.2.2.2.2.2.2
def MMi (M : Mem) (b : Nat) (m : Mi) : Prop := LyM M 1 b m.W ∧ GlM M (b + 60) m.gl ∧ GlM M (b + 66) m.sn ∧ ∀ p, p < 6 → m.sn.testBit p = true → M.1 1 (b + 72 + p) = nI (m.sg p)
def MSh (M : Mem) (k : Nat) (ce : Nat → Int32) : Option (Nat × Nat) → Prop
  | none => M.1 23 k = -4
  | some (l, z) => M.1 23 k = nI l ∧ M.1 24 k = nI z ∧ ∀ i, i < 40 → M.1 25 (40 * k + i) = ce i
def MA (M : Mem) (S : Ab) : Prop :=
  (MC M S.R) ∧
  (MMi M 0 S.A) ∧
  (∀ k, k < 2 → S.kp.testBit k = true → MMi M (78 * (k + 1)) (S.I k)) ∧
  (∀ k, k < 2 → M.1 2 k = nI (if S.kp.testBit k then 1 else 0)) ∧
  (M.1 0 54 = nI S.tn) ∧
  (M.1 0 26 = nI S.tp.length) ∧
  (∀ i x, S.tp[i]? = some x → M.1 14 i = nI x) ∧
  (M.1 0 31 = nI (S.ft / 8)) ∧
  (∀ k, k < 4 → MSh M k (S.ce k) (S.sh k))
theorem MA.c {M : Mem} {S : Ab} (h : MA M S) : MC M S.R := h.1
theorem MA.a {M : Mem} {S : Ab} (h : MA M S) : MMi M 0 S.A := h.2.1
theorem MA.i {M : Mem} {S : Ab} (h : MA M S) : ∀ k, k < 2 → S.kp.testBit k = true → MMi M (78 * (k + 1)) (S.I k) := h.2.2.1
theorem MA.kp {M : Mem} {S : Ab} (h : MA M S) : ∀ k, k < 2 → M.1 2 k = nI (if S.kp.testBit k then 1 else 0) := h.2.2.2.1
theorem MA.tn {M : Mem} {S : Ab} (h : MA M S) : M.1 0 54 = nI S.tn := h.2.2.2.2.1
theorem MA.tl {M : Mem} {S : Ab} (h : MA M S) : M.1 0 26 = nI S.tp.length := h.2.2.2.2.2.1
theorem MA.tb {M : Mem} {S : Ab} (h : MA M S) : ∀ i x, S.tp[i]? = some x → M.1 14 i = nI x := h.2.2.2.2.2.2.1
theorem MA.ft {M : Mem} {S : Ab} (h : MA M S) : M.1 0 31 = nI (S.ft / 8) := h.2.2.2.2.2.2.2.1
theorem MA.sh {M : Mem} {S : Ab} (h : MA M S) : ∀ k, k < 4 → MSh M k (S.ce k) (S.sh k) := h.2.2.2.2.2.2.2.2
def xS : List Nat := [4, 5, 6, 7, 8, 9, 10, 15, 26, 27, 28, 29, 30, 31, 32, 33, 34, 35, 36, 37, 38, 39, 49]
theorem xS_in {a : Nat} (h : a ∈ xS) : (4 ≤ a ∧ a ≤ 10) ∨ a = 15 ∨ (26 ≤ a ∧ a ≤ 39) ∨ a = 49 := by
  simp only [xS, List.mem_cons, List.not_mem_nil, or_false] at h
  omega
theorem XMi.off {S : List Nat} {M M' : Mem} {o : Nat} {m : Mi} (h : XMi M o m) (ho : Off S M M') (h1 : o ∉ S) (h2 : o + 1 ∉ S) (h3 : o + 2 ∉ S) : XMi M' o m := by
  obtain ⟨a1, a2, a3, a4⟩ := h
  refine ⟨by rw [(ho o h1).1]; exact a1, by rw [(ho o h1).1]; exact a2, a3.off ho h2, fun p hp hs => by rw [(ho _ h3).1]; exact a4 p hp hs⟩
theorem XSh.off {S : List Nat} {M M' : Mem} {k : Nat} {ce : Nat → Int32} {x : Option (Nat × Nat)} (h : XSh M k ce x) (ho : Off S M M') (h1 : 41 + 2 * k ∉ S) (h2 : 42 + 2 * k ∉ S) : XSh M' k ce x := by
  cases x with
  | none => exact (congrFun (ho _ h1).1 0).trans h
  | some q =>
    obtain ⟨a1, a2, a3, a4⟩ := h
    exact ⟨(congrFun (ho _ h1).1 0).trans a1, (congrFun (ho _ h1).1 1).trans a2, (congrFun (ho _ h1).1 2).trans a3, fun i hi => (congrFun (ho _ h2).1 i).trans (a4 i hi)⟩
theorem XA.off {M M' : Mem} {S : Ab} (h : XA M S) (ho : Off xS M M') : XA M' S :=
  ⟨h.c.off ho (by decide),
  h.a.off ho (by decide) (by decide) (by decide),
  fun k hk hs => (h.i k hk hs).off ho (fun q => by have := xS_in q; omega) (fun q => by have := xS_in q; omega) (fun q => by have := xS_in q; omega),
  (congrFun (ho 0 (by decide)).1 9).trans h.kp,
  (congrFun (ho 0 (by decide)).1 10).trans h.tn,
  (congrFun (ho 1 (by decide)).1 1).trans h.tl,
  fun i x hx => (congrFun (ho 2 (by decide)).1 i).trans (h.tb i x hx),
  (congrFun (ho 3 (by decide)).1 3).trans h.ft,
  fun k hk => (h.sh k hk).off ho (fun q => by have := xS_in q; omega) (fun q => by have := xS_in q; omega)⟩
def mS (a k : Nat) : Prop := (8 ≤ a ∧ a ≤ 13) ∨ (15 ≤ a ∧ a ≤ 22) ∨ (a = 0 ∧ ¬ (k = 2 ∨ k = 3 ∨ k = 4 ∨ k = 5 ∨ k = 6 ∨ k = 26 ∨ k = 31 ∨ k = 54))
theorem mh_mS {L a k : Nat} (h : mh L a k) : mS a k := by
  unfold mh mk rg at h
  unfold mS
  omega
theorem MMi.fr {P : Nat → Nat → Prop} {M M' : Mem} {b : Nat} {m : Mi} (h : MMi M b m) (hW : OkW m.W) (ho : Fr P M M') (hp : ∀ k, b ≤ k → k < b + 78 → ¬ P 1 k) : MMi M' b m := by
  obtain ⟨a1, a2, a3, a4⟩ := h
  refine ⟨a1.fr hW ho (fun k h1 h2 => hp k h1 (by omega)), a2.fr ho (fun k h1 h2 => hp k (by omega) (by omega)), a3.fr ho (fun k h1 h2 => hp k (by omega) (by omega)), fun p hp6 hs => ?_⟩
  rw [(ho 1 _ (hp _ (by omega) (by omega))).1]
  exact a4 p hp6 hs
theorem MSh.fr {P : Nat → Nat → Prop} {M M' : Mem} {k : Nat} {ce : Nat → Int32} {x : Option (Nat × Nat)} (h : MSh M k ce x) (ho : Fr P M M') (hp : ∀ a j, 23 ≤ a → a ≤ 25 → ¬ P a j) : MSh M' k ce x := by
  cases x with
  | none => exact (ho 23 k (hp _ _ (by decide) (by decide))).1.trans h
  | some q =>
    obtain ⟨a1, a2, a3⟩ := h
    exact ⟨(ho 23 k (hp _ _ (by decide) (by decide))).1.trans a1, (ho 24 k (hp _ _ (by decide) (by decide))).1.trans a2, fun i hi => (ho 25 _ (hp _ _ (by decide) (by decide))).1.trans (a3 i hi)⟩
theorem MA.fr {M M' : Mem} {S : Ab} (hS : Ok S) (h : MA M S) (ho : Fr mS M M') : MA M' S :=
  ⟨h.c.fr ho (fun k hk => by simp only [List.mem_cons, List.not_mem_nil, or_false] at hk; unfold mS; omega) (fun a k ha => by simp only [List.mem_cons, List.not_mem_nil, or_false] at ha; unfold mS; omega),
  h.a.fr hS.hA.1 ho (fun k _ _ => by unfold mS; omega),
  fun k hk hs => (h.i k hk hs).fr (hS.hI k hk hs).1 ho (fun k _ _ => by unfold mS; omega),
  fun k hk => by rw [(ho 2 k (by unfold mS; omega)).1]; exact h.kp k hk,
  by rw [(ho 0 54 (by unfold mS; omega)).1]; exact h.tn,
  by rw [(ho 0 26 (by unfold mS; omega)).1]; exact h.tl,
  fun i x hx => by rw [(ho 14 i (by unfold mS; omega)).1]; exact h.tb i x hx,
  by rw [(ho 0 31 (by unfold mS; omega)).1]; exact h.ft,
  fun k hk => (h.sh k hk).fr ho (fun a j _ _ => by unfold mS; omega)⟩
def fuel : Nat := 1048576
def Rel (Mx Mm : Mem) : Prop := ∃ S, Ok S ∧ XA Mx S ∧ MA Mm S
def Sm (f g : Mem → Option (Int32 × Mem)) : Prop := ∀ Mx Mm, Rel Mx Mm → ∃ r Mx2 Mm2, f Mx = some (r, Mx2) ∧ g Mm = some (r, Mm2) ∧ Rel Mx2 Mm2
-- questions
def Qx (f : Mem → Option (Int32 × Mem)) (q : Ab → Int32) : Prop := ∀ M S, Ok S → XA M S → ∃ M', f M = some (q S, M') ∧ Off xS M M'
def Qm (f : Mem → Option (Int32 × Mem)) (q : Ab → Int32) : Prop := ∀ M S, Ok S → MA M S → ∃ M', f M = some (q S, M') ∧ Fr mS M M'
-- S.ft holds two numbers: S.ft % 8 is the class's FAULT, S.ft / 8 the reference's (they differ at the tenth thing: REPORT.md, STATEMENT 1)
def Sw (f g : Mem → Option (Int32 × Mem)) : Prop := ∀ Mx Mm, Rel Mx Mm → ∃ r r' Mx2 Mm2, f Mx = some (r, Mx2) ∧ g Mm = some (r', Mm2) ∧ Rel Mx2 Mm2
theorem Sm_q {f g : Mem → Option (Int32 × Mem)} {q : Ab → Int32} (hx : Qx f q) (hm : Qm g q) : Sm f g := by
  intro Mx Mm ⟨S, h, h1, h2⟩
  obtain ⟨M1, g1, g2⟩ := hx Mx S h h1
  obtain ⟨M2, k1, k2⟩ := hm Mm S h h2
  exact ⟨q S, M1, M2, g1, k1, S, h, h1.off g2, h2.fr h k2⟩
-- deeds
def Ux (f : Mem → Option (Int32 × Mem)) (u : Ab → Int32 × Ab) : Prop := ∀ M S, Ok S → XA M S → ∃ M', f M = some ((u S).1, M') ∧ XA M' (u S).2
def Um (f : Mem → Option (Int32 × Mem)) (u : Ab → Int32 × Ab) : Prop := ∀ M S, Ok S → MA M S → ∃ M', f M = some ((u S).1, M') ∧ MA M' (u S).2
theorem Sm_u {f g : Mem → Option (Int32 × Mem)} {u : Ab → Int32 × Ab} (hx : Ux f u) (hm : Um g u) (hk : ∀ S, Ok S → Ok (u S).2) : Sm f g := by
  intro Mx Mm ⟨S, h, h1, h2⟩
  obtain ⟨M1, g1, g2⟩ := hx Mx S h h1
  obtain ⟨M2, k1, k2⟩ := hm Mm S h h2
  exact ⟨(u S).1, M1, M2, g1, k1, (u S).2, hk S h, g2, k2⟩
-- a number that is one of the first P
def vN (p : Int32) (P : Nat) : Bool := decide (0 ≤ p) && decide (p < nI P)
def pN (p : Int32) : Nat := p.toNatClampNeg
theorem vN_y {p : Int32} {P : Nat} (hP : P < 2 ^ 31) (h : vN p P = true) : pN p < P ∧ p = nI (pN p) := by
  unfold vN at h
  simp only [Bool.and_eq_true, decide_eq_true_eq] at h
  rcases i_cases p with h1 | ⟨k, h1, h2⟩
  · exact absurd (Int32.lt_of_le_of_lt h.1 h1) (by decide)
  · subst h2
    unfold pN
    rw [nI_clamp h1]
    exact ⟨(nI_ltI h1 hP).mp h.2, rfl⟩
theorem vN_k {k P : Nat} (hP : P < 2 ^ 31) (hk : k < 2 ^ 31) : vN (nI k) P = decide (k < P) := by
  unfold vN
  rw [show decide (0 ≤ nI k) = true by simpa using nI_pos' hk, Bool.true_and]
  exact decide_eq_decide.mpr (nI_ltI hk hP)
theorem vN_n {p : Int32} {P : Nat} (h : vN p P ≠ true) : p < 0 ∨ nI P ≤ p := by
  by_cases h0 : (0 : Int32) ≤ p
  · right
    by_cases h1 : p < nI P
    · exact absurd (by unfold vN; simp [h0, h1]) h
    · exact Int32.not_lt.mp h1
  · left
    exact Int32.not_le.mp h0
theorem x_in {P : Nat} {p : Int32} {α : Type} (a b : α) : (if p < 0 then a else if nI P ≤ p then a else b) = if vN p P then b else a := by
  by_cases h : vN p P = true
  · rw [if_pos h]
    unfold vN at h
    simp only [Bool.and_eq_true, decide_eq_true_eq] at h
    rw [if_neg (Int32.not_lt.mpr h.1), if_neg (Int32.not_le.mpr h.2)]
  · rw [if_neg h]
    rcases vN_n h with h1 | h1
    · rw [if_pos h1]
    · by_cases h2 : p < 0
      · rw [if_pos h2]
      · rw [if_neg h2, if_pos h1]
theorem m_inV (n : Nat) {P : Nat} (hP : P < 2 ^ 31) (p : Int32) (M : Mem) : X_Model_in n p.toInt64 0 (nI P - 1).toInt64 M = some (if vN p P then 1 else 0, M) := by
  by_cases h : vN p P = true
  · obtain ⟨h1, h2⟩ := vN_y hP h
    rw [if_pos h]
    have := m_inY n hP h1 M
    rw [← h2] at this
    rw [show nI P - 1 = nI (P - 1) from pk_sub (b := 1) (by omega)]
    exact this
  · rw [if_neg h]
    refine m_inN n hP (fun ⟨k, h1, h2⟩ => h ?_) M
    rw [h2, vN_k hP (by omega)]
    simpa using h1
end
section
/-! CALLS: the first ones -/
theorem fu : 1000 ≤ fuel := by decide
theorem x_isOne (n : Nat) {M : Mem} {P : Nat} (h : M.1 11 0 = nI P) (p : Int32) : X_ShakeHands_isOne n p M = some (if vN p P then 1 else 0, M) := by
  unfold X_ShakeHands_isOne
  rw [h, x_in]
  split <;> rfl
theorem x_isThing (n : Nat) (p : Int32) (M : Mem) : X_ShakeHands_isThing n p M = some (if vN p 16 then 1 else 0, M) := by
  unfold X_ShakeHands_isThing
  rw [show (16 : Int32) = nI 16 from rfl, x_in]
  split <;> rfl
theorem zr_b (b : Bool) (M : Mem) : zr (if b then 1 else 0) M = some (if b then 1 else 0, M) := by cases b <;> rfl
theorem m_isOne (n : Nat) {M : Mem} {P : Nat} (hP : P < 2 ^ 31) (h : M.1 0 2 = nI P) (p : Int32) : X_Model_isOne n p M = some (if vN p P then 1 else 0, M) := by
  unfold X_Model_isOne
  rw [h, m_inV n hP p, bd_ret, zr_b]
theorem m_isThing (n : Nat) (p : Int32) (M : Mem) : X_Model_isThing n p M = some (if vN p 16 then 1 else 0, M) := by
  unfold X_Model_isThing
  have := m_inV n (P := 16) (by decide) p M
  rw [show (nI 16 - 1 : Int32).toInt64 = 15 by decide] at this
  rw [this, bd_ret, zr_b]
theorem i10 : ¬ (1 : Int32) = 0 := by decide
theorem Ok.p6 {S : Ab} (h : Ok S) : S.R.1 ≤ 6 := h.hR.2.1
theorem Ok.p31 {S : Ab} (h : Ok S) : S.R.1 < 2 ^ 31 := by have := h.p6; omega
theorem Ok.pw {S : Ab} (h : Ok S) : 2 ^ S.R.1 ≤ 64 := Nat.pow_le_pow_right (n := 2) (by decide) h.p6
theorem Ok.gl {S : Ab} (h : Ok S) : S.A.gl < 64 := Nat.lt_of_lt_of_le h.hA.2.2.1 h.pw
theorem Ok.sn {S : Ab} (h : Ok S) : S.A.sn < 64 := Nat.lt_of_lt_of_le h.hA.2.2.2.1 h.pw
-- begin: the rows of now in layer 0
def m0 (M : Mem) : Mem := cpI M 1 0 15 (60 * 0) 60
theorem m0_b (M : Mem) : X_Model_begins fuel (nI 0) M = some ((), m0 M) := m_begins fuel (by decide) (by decide) M
theorem m0_fr (M : Mem) : Fr (mh 0) M (m0 M) := Fr.cpI (fun k h1 h2 => Or.inr ⟨rfl, h1, by omega⟩)
theorem m0_ly {M : Mem} {S : Ab} (hS : Ok S) (h : MA M S) : LyM (m0 M) 15 (60 * 0) S.A.W := LyM.cp h.a.1 hS.hA.1
theorem mh_S {L : Nat} {M M' : Mem} (h : Fr (mh L) M M') : Fr mS M M' := h.mono (fun _ _ => mh_mS)
theorem m_knowsNow {M : Mem} {S : Ab} (hS : Ok S) (h : MA M S) {p : Nat} (hp : p < S.R.1) : X_Model_knowsNow fuel (nI p) M = some (nI (knN (S.A.W p)), m0 M) := by
  unfold X_Model_knowsNow
  have h6 := hS.p6
  rw [show (0 : Int32) = nI 0 from rfl, m0_b, bd_ret, m_knowsIn fuel (by decide) (by decide) (by omega) (m0_ly hS h p (by omega)) (hS.hA.1 p).1 (hS.hA.1 p).2, bd_ret]
theorem m_knowsIt {M : Mem} {S : Ab} (hS : Ok S) (h : MA M S) {p t : Nat} (hp : p < S.R.1) (ht : t < 16) : X_Model_knowsIt fuel (nI p) (nI t) M = some (if t ∈ S.A.W p then 1 else 0, m0 M) := by
  unfold X_Model_knowsIt
  have hk := knN_lt (hS.hA.1 p).1.2
  rw [m_knowsNow hS h hp, bd_ret, b_is (by omega) (by omega), knN_bit]
  by_cases e : t ∈ S.A.W p
  · rw [if_pos e, if_pos (by simp [e]; rfl)]
  · rw [if_neg e, if_neg (by simp [e]; decide)]
theorem whoN_end {W : Nat → List Nat} {P : Nat} (h : ∀ p, P ≤ p → W p = []) (t : Nat) : ∀ d, whoN W t (P + d) = whoN W t P
  | 0 => rfl
  | d + 1 => by
    show whoN W t (P + d) ||| (if t ∈ W (P + d) then 2 ^ (P + d) else 0) = _
    rw [whoN_end h t d, h (P + d) (by omega), if_neg (by simp), Nat.or_zero]
theorem anyN_end {W : Nat → List Nat} {P : Nat} (h : ∀ p, P ≤ p → W p = []) : ∀ d, anyN W (P + d) = anyN W P
  | 0 => rfl
  | d + 1 => by
    show anyN W (P + d) ||| knN (W (P + d)) = _
    rw [anyN_end h d, h (P + d) (by omega)]
    exact Nat.or_zero _
theorem whoN_6 {W : Nat → List Nat} {P : Nat} (hP : P ≤ 6) (h : ∀ p, P ≤ p → W p = []) (t : Nat) : whoN W t 6 = whoN W t P := by
  have := whoN_end h t (6 - P)
  rwa [show P + (6 - P) = 6 by omega] at this
theorem anyN_6 {W : Nat → List Nat} {P : Nat} (hP : P ≤ 6) (h : ∀ p, P ≤ p → W p = []) : anyN W 6 = anyN W P := by
  have := anyN_end h (6 - P)
  rwa [show P + (6 - P) = 6 by omega] at this
theorem anyN_lt {W : Nat → List Nat} (hW : OkW W) : ∀ k, anyN W k < 65536
  | 0 => by show 0 < 65536; decide
  | k + 1 => Nat.or_lt_two_pow (n := 16) (anyN_lt hW k) (knN_lt (hW k).1.2)
theorem minds_known (n : Nat) (hn : 7 ≤ n) {M : Mem} {rows : Nat} {W : Nat → List Nat} (hW : OkW W) (hM : rowsAt M rows W) : X_Minds_known n rows M = some (nI (anyN W 6), M) := by
  have key : ∀ (d i f : Nat) (a : Nat), 6 - i = d → i ≤ 6 → d < f → a < 2 ^ 52 → a / 2 ^ 36 = anyN W i → X_Minds_known_L4 n rows M f (lN a) (nI i) = some (nI (anyN W 6), M) := by
    intro d
    induction d with
    | zero =>
      intro i f a h1 h2 h3 h4 h5
      obtain ⟨f, rfl⟩ : ∃ g, f = g + 1 := ⟨f - 1, by omega⟩
      have e : i = 6 := by omega
      subst e
      show (if (6 : Int32) ≤ nI 6 then _ else _) = _
      rw [if_pos (by decide), show (36 : Int32) = nI 36 from rfl, l_ushr (by omega) (by decide), h5, l_to]
    | succ d ih =>
      intro i f a h1 h2 h3 h4 h5
      obtain ⟨f, rfl⟩ : ∃ g, f = g + 1 := ⟨f - 1, by omega⟩
      have hi : i < 6 := by omega
      show (if (6 : Int32) ≤ nI i then _ else gd (nI i) 6 (X_Minds_known_L4 n rows M f (lN a ||| (M.2 rows (nI i).toNatClampNeg)) (nI i + 1))) = _
      have he := encN_lt (hW i).1 (hW i).2
      rw [if_neg (show ¬ (6 : Int32) ≤ nI i from nI_ge (b := 6) hi (by decide)), gd_in (vp_in_nI hi (by decide)), nI_clamp (by omega), hM i hi, nI_1]
      unfold enc
      rw [l_or]
      refine ih (i + 1) f _ (by omega) (by omega) (by omega) (Nat.or_lt_two_pow h4 he) ?_
      rw [or_div, h5]
      have h1 := pk36 (hW i).1 (hW i).2
      have e : encN (W i) / 2 ^ 36 = knN (W i) := by unfold encN; omega
      rw [e]
      rfl
  exact key 6 0 n 0 rfl (by decide) (by omega) (by decide) rfl
-- fault, torn, rule, hand, join
theorem sim_fault : Sw (fun M => X_ShakeHands_fault fuel M) (fun M => X_Model_fault fuel M) := by
  intro Mx Mm hR
  have hR0 := hR
  obtain ⟨S, hS, hx, hm⟩ := hR
  exact ⟨_, _, Mx, Mm, rfl, rfl, hR0⟩
theorem sim_torn : Sm (fun M => X_ShakeHands_torn fuel M) (fun M => X_Model_torn fuel M) := by
  refine Sm_q (q := fun S => nI S.tn) (fun M S hS hM => ⟨M, ?_, Off.rf⟩) (fun M S hS hM => ⟨M, ?_, Fr.rf⟩)
  · show some (M.1 0 10, M) = _
    rw [hM.tn]
  · show some (M.1 0 54, M) = _
    rw [hM.tn]
theorem sim_rule (a0 : Int32) : Sm (fun M => X_ShakeHands_rule fuel a0 M) (fun M => X_Model_rule fuel a0 M) := by
  refine Sm_q (q := fun S => if a0 = 0 then nI S.R.1 else if a0 = 1 then nI S.R.2.1 else if a0 = 2 then nI S.R.2.2.1.length else if a0 = 3 then nI S.R.2.2.2.1.length else if a0 = 4 then nI S.R.2.2.2.2.length else if a0 = 5 then nI (popN 16 S.A.gl) else -1) (fun M S hS hM => ⟨M, ?_, Off.rf⟩) (fun M S hS hM => ⟨M, ?_, Fr.rf⟩)
  · dsimp only
    unfold X_ShakeHands_rule
    have hg := hS.gl
    rw [hM.c.1, hM.c.2.1, hM.c.2.2.1, hM.c.2.2.2.1, hM.c.2.2.2.2.1, hM.a.1, bitCount_eq _ (by omega), bd_ret]
    by_cases h0 : a0 = 0
    · rw [if_pos h0, if_pos h0]
    rw [if_neg h0, if_neg h0]
    by_cases h1 : a0 = 1
    · rw [if_pos h1, if_pos h1]
    rw [if_neg h1, if_neg h1]
    by_cases h2 : a0 = 2
    · rw [if_pos h2, if_pos h2]
    rw [if_neg h2, if_neg h2]
    by_cases h3 : a0 = 3
    · rw [if_pos h3, if_pos h3]
    rw [if_neg h3, if_neg h3]
    by_cases h4 : a0 = 4
    · rw [if_pos h4, if_pos h4]
    rw [if_neg h4, if_neg h4]
    by_cases h5 : a0 = 5
    · rw [if_pos h5, if_pos h5]
    rw [if_neg h5, if_neg h5]
  · dsimp only
    unfold X_Model_rule
    have hg := hS.gl
    rw [hM.c.1, hM.c.2.1, hM.c.2.2.1, hM.c.2.2.2.1, hM.c.2.2.2.2.1, m_worn fuel (by decide) hM.c.1 hS.p6 hS.hA.2.2.1 hM.a.2.1, bd_ret, m_bitsOf fuel (by decide) (by omega), bd_ret]
    by_cases h0 : a0 = 0
    · rw [if_pos h0, if_pos h0]
    rw [if_neg h0, if_neg h0]
    by_cases h1 : a0 = 1
    · rw [if_pos h1, if_pos h1]
    rw [if_neg h1, if_neg h1]
    by_cases h2 : a0 = 2
    · rw [if_pos h2, if_pos h2]
    rw [if_neg h2, if_neg h2]
    by_cases h3 : a0 = 3
    · rw [if_pos h3, if_pos h3]
    rw [if_neg h3, if_neg h3]
    by_cases h4 : a0 = 4
    · rw [if_pos h4, if_pos h4]
    rw [if_neg h4, if_neg h4]
    by_cases h5 : a0 = 5
    · rw [if_pos h5, if_pos h5]
    rw [if_neg h5, if_neg h5]
theorem at_len {l : List Nat} {f : Nat → Int32} (h : ∀ i x, l[i]? = some x → f i = nI x) {i : Nat} (hi : i < l.length) : f i = nI (l.getD i 0) := by
  rw [h i _ (List.getElem?_eq_getElem hi), List.getD_eq_getElem?_getD, List.getElem?_eq_getElem hi]
  rfl
theorem sim_hand (a0 : Int32) (a1 : Int32) : Sm (fun M => X_ShakeHands_hand fuel a0 a1 M) (fun M => X_Model_hand fuel a0 a1 M) := by
  refine Sm_q (q := fun S => if a1 = 0 then (if vN a0 S.R.2.2.2.1.length then nI (S.R.2.2.2.1.getD (pN a0) 0) else -1) else (if vN a0 S.R.2.2.2.2.length then nI (S.R.2.2.2.2.getD (pN a0) 0) else -1)) (fun M S hS hM => ⟨M, ?_, Off.rf⟩) (fun M S hS hM => ⟨M, ?_, Fr.rf⟩)
  · dsimp only
    have l1 := hS.hR.2.2.2.2.2.2.1
    have l2 := hS.hR.2.2.2.2.2.2.2.2.1
    have un : X_ShakeHands_hand fuel a0 a1 M = if a1 = 0 then (if vN a0 S.R.2.2.2.1.length then gd a0 16 (some (M.1 13 a0.toNatClampNeg, M)) else some (-1, M)) else (if vN a0 S.R.2.2.2.2.length then gd a0 8 (some (M.1 14 a0.toNatClampNeg, M)) else some (-1, M)) := by
      unfold X_ShakeHands_hand nm
      dsimp only
      rw [hM.c.2.2.2.1, hM.c.2.2.2.2.1]
      by_cases h : a1 = 0
      · rw [if_pos h, if_pos h, if_pos h, ← x_in]
        by_cases h0 : a0 < 0
        · rw [if_pos h0, if_pos h0]
        · rw [if_neg h0, if_neg h0]
          by_cases h2 : a0 < nI S.R.2.2.2.1.length
          · rw [if_pos h2, if_neg (Int32.not_le.mpr h2)]
          · rw [if_neg h2, if_pos (Int32.not_lt.mp h2)]
      · rw [if_neg h, if_neg h, if_neg h, ← x_in]
        by_cases h0 : a0 < 0
        · rw [if_pos h0, if_pos h0]
        · rw [if_neg h0, if_neg h0]
          by_cases h2 : a0 < nI S.R.2.2.2.2.length
          · rw [if_pos h2, if_neg (Int32.not_le.mpr h2)]
          · rw [if_neg h2, if_pos (Int32.not_lt.mp h2)]
    rw [un]
    split
    · split
      · next h =>
        obtain ⟨h1, h2⟩ := vN_y (by omega) h
        rw [h2, gd_in (vp_in_nI (by omega) (by decide)), nI_clamp (by omega), at_len hM.c.2.2.2.2.2.2.1 h1, ← h2]
      · rfl
    · split
      · next h =>
        obtain ⟨h1, h2⟩ := vN_y (by omega) h
        rw [h2, gd_in (vp_in_nI (by omega) (by decide)), nI_clamp (by omega), at_len hM.c.2.2.2.2.2.2.2 h1, ← h2]
      · rfl
  · dsimp only
    have l1 := hS.hR.2.2.2.2.2.2.1
    have l2 := hS.hR.2.2.2.2.2.2.2.2.1
    unfold X_Model_hand nm
    dsimp only
    rw [hM.c.2.2.2.1, hM.c.2.2.2.2.1]
    split
    · next h0 =>
      rw [m_inV fuel (by omega), bd_ret]
      by_cases h : vN a0 S.R.2.2.2.1.length = true
      · obtain ⟨h1, h2⟩ := vN_y (by omega) h
        rw [if_pos h, if_pos h, if_neg i10, h2, gd_in (vp_in_nI (by omega) (by decide)), nI_clamp (by omega), at_len hM.c.2.2.2.2.2.2.1 h1, ← h2]
      · rw [if_neg h, if_neg h, if_pos rfl]
    · next h0 =>
      rw [m_inV fuel (by omega), bd_ret]
      by_cases h : vN a0 S.R.2.2.2.2.length = true
      · obtain ⟨h1, h2⟩ := vN_y (by omega) h
        rw [if_pos h, if_pos h, if_neg i10, h2, gd_in (vp_in_nI (by omega) (by decide)), nI_clamp (by omega), at_len hM.c.2.2.2.2.2.2.2.1 h1, ← h2]
      · rw [if_neg h, if_neg h, if_pos rfl]
end
section
/-! CALLS: who knows what -/
def Ab.setA (S : Ab) (m : Mi) : Ab := (S.1, m, S.2.2)
def xA : List Nat := [16, 17, 18, 4, 5, 6, 7, 8, 9, 10, 15, 26, 27, 28, 29, 30, 31, 32, 33, 34, 35, 36, 37, 38, 39, 49]
theorem xA_in {a : Nat} (h : a ∈ xA) : (4 ≤ a ∧ a ≤ 10) ∨ a = 15 ∨ (26 ≤ a ∧ a ≤ 39) ∨ a = 49 ∨ (16 ≤ a ∧ a ≤ 18) := by
  simp only [xA, List.mem_cons, List.not_mem_nil, or_false] at h
  omega
theorem xS_xA {a : Nat} (h : a ∈ xS) : a ∈ xA := by
  simp only [xS, List.mem_cons, List.not_mem_nil, or_false] at h
  simp only [xA, List.mem_cons, List.not_mem_nil, or_false]
  omega
theorem XA.newA {M M' : Mem} {S : Ab} {m : Mi} (h : XA M S) (ho : Off xA M M') (ha : XMi M' 16 m) : XA M' (S.setA m) :=
  ⟨h.c.off ho (by decide), ha, fun k hk hs => (h.i k hk hs).off ho (fun q => by have := xA_in q; omega) (fun q => by have := xA_in q; omega) (fun q => by have := xA_in q; omega),
  (congrFun (ho 0 (by decide)).1 9).trans h.kp, (congrFun (ho 0 (by decide)).1 10).trans h.tn, (congrFun (ho 1 (by decide)).1 1).trans h.tl,
  fun i x hx => (congrFun (ho 2 (by decide)).1 i).trans (h.tb i x hx), (congrFun (ho 3 (by decide)).1 3).trans h.ft,
  fun k hk => (h.sh k hk).off ho (fun q => by have := xA_in q; omega) (fun q => by have := xA_in q; omega)⟩
def mA (a k : Nat) : Prop := mS a k ∨ (a = 1 ∧ k < 78)
theorem MA.newA {M M' : Mem} {S : Ab} {m : Mi} (hS : Ok S) (h : MA M S) (ho : Fr mA M M') (ha : MMi M' 0 m) : MA M' (S.setA m) :=
  ⟨h.c.fr ho (fun k hk => by simp only [List.mem_cons, List.not_mem_nil, or_false] at hk; unfold mA mS; omega) (fun a k ha => by simp only [List.mem_cons, List.not_mem_nil, or_false] at ha; unfold mA mS; omega), ha,
  fun k hk hs => (h.i k hk hs).fr (hS.hI k hk hs).1 ho (fun k _ _ => by unfold mA mS; omega),
  fun k hk => by rw [(ho 2 k (by unfold mA mS; omega)).1]; exact h.kp k hk,
  by rw [(ho 0 54 (by unfold mA mS; omega)).1]; exact h.tn,
  by rw [(ho 0 26 (by unfold mA mS; omega)).1]; exact h.tl,
  fun i x hx => by rw [(ho 14 i (by unfold mA mS; omega)).1]; exact h.tb i x hx,
  by rw [(ho 0 31 (by unfold mA mS; omega)).1]; exact h.ft,
  fun k hk => (h.sh k hk).fr ho (fun a j _ _ => by unfold mA mS; omega)⟩
theorem Ok.newA {S : Ab} {m : Mi} (h : Ok S) (hm : OkMi S.R.1 m) : Ok (S.setA m) := ⟨h.hR, hm, h.hI, h.hk, h.ht, h.hb, h.hf, h.hn, h.hs⟩
def Mi.setW (m : Mi) (W : Nat → List Nat) : Mi := (W, m.2)
theorem XA.newW {M M' : Mem} {S : Ab} {W : Nat → List Nat} (h : XA M S) (ho : Off [15, 17] M M') (hr : rowsAt M' 17 W) : XA M' (S.setA (S.A.setW W)) := by
  refine h.newA (ho.mono (by decide)) ⟨?_, ?_, hr, fun p hp hs => ?_⟩
  · rw [(ho 16 (by decide)).1]; exact h.a.1
  · rw [(ho 16 (by decide)).1]; exact h.a.2.1
  · rw [(ho 18 (by decide)).1]; exact h.a.2.2.2 p hp hs
theorem MA.newW {M M' : Mem} {S : Ab} {W : Nat → List Nat} (hS : Ok S) (h : MA M S) (ho : Fr (fun a k => mS a k ∨ rg 1 0 60 a k) M M') (hr : LyM M' 1 0 W) : MA M' (S.setA (S.A.setW W)) := by
  refine h.newA hS (ho.mono (fun a k q => q.elim Or.inl (fun r => Or.inr ⟨r.1, by have := r.2; omega⟩))) ⟨hr, h.a.2.1.fr ho (fun k _ _ => by unfold mS rg; omega), h.a.2.2.1.fr ho (fun k _ _ => by unfold mS rg; omega), fun p hp hs => ?_⟩
  rw [(ho 1 _ (by unfold mS rg; omega)).1]
  exact h.a.2.2.2 p hp hs
theorem sim_join (a0 : Int32) (a1 : Int32) : Sm (fun M => X_ShakeHands_join fuel a0 a1 M) (fun M => X_Model_join fuel a0 a1 M) := by
  refine Sm_q (q := fun S => if vN a0 S.R.2.2.1.length then (if vN a1 3 then nI (let q := S.R.2.2.1.getD (pN a0) (0, 0, 0); [q.1, q.2.1, q.2.2].getD (pN a1) 0) else -1) else -1) (fun M S hS hM => ⟨M, ?_, Off.rf⟩) (fun M S hS hM => ⟨M, ?_, Fr.rf⟩)
  · dsimp only
    have l1 := hS.hR.2.2.2.2.1
    have un : X_ShakeHands_join fuel a0 a1 M = if vN a0 S.R.2.2.1.length then (if vN a1 3 then gd (((3 : Int32) * a0) + a1) 12 (some ((M.1 12 (((3 : Int32) * a0) + a1).toNatClampNeg), M)) else some (-1, M)) else some (-1, M) := by
      unfold X_ShakeHands_join
      rw [hM.c.2.2.1, x_in, show (3 : Nat) = 2 + 1 from rfl]
      by_cases h : vN a0 S.R.2.2.1.length = true
      · rw [if_pos h, if_pos h, ← x_in]
        by_cases h0 : a1 < 0
        · rw [if_pos h0, if_pos h0]
        · rw [if_neg h0, if_neg h0]
          by_cases h2 : a1 ≤ 2
          · have : ¬ nI (2 + 1) ≤ a1 := by
              rw [Int32.le_iff_toInt_le] at *
              have e1 : (nI (2 + 1)).toInt = 3 := rfl
              have e2 : (2 : Int32).toInt = 2 := rfl
              omega
            rw [if_pos h2, if_neg this]
          · have : nI (2 + 1) ≤ a1 := by
              rw [Int32.le_iff_toInt_le] at *
              have e1 : (nI (2 + 1)).toInt = 3 := rfl
              have e2 : (2 : Int32).toInt = 2 := rfl
              omega
            rw [if_neg h2, if_pos this]
      · rw [if_neg h, if_neg h]
    rw [un]
    split
    · next h =>
      obtain ⟨h1, h2⟩ := vN_y (by omega) h
      split
      · next h' =>
        obtain ⟨h3, h4⟩ := vN_y (by omega) h'
        obtain ⟨b1, b2, b3⟩ := hM.c.2.2.2.2.2.1 _ _ (List.getElem?_eq_getElem h1)
        have hg : S.R.2.2.1.getD (pN a0) (0, 0, 0) = S.R.2.2.1[pN a0] := by rw [List.getD_eq_getElem?_getD, List.getElem?_eq_getElem h1]; rfl
        rw [hg]
        generalize S.R.2.2.1[pN a0] = q at *
        generalize pN a0 = j at *
        generalize pN a1 = i at *
        subst h2 h4
        rw [show (3 : Int32) = nI 3 from rfl, pk_mul, nI_add, gd_in (vp_in_nI (by omega) (by decide)), nI_clamp (by omega)]
        match i, h3 with
        | 0, _ => rw [Nat.add_zero, b1]; rfl
        | 1, _ => rw [b2]; rfl
        | 2, _ => rw [b3]; rfl
      · rfl
    · rfl
  · dsimp only
    have l1 := hS.hR.2.2.2.2.1
    unfold X_Model_join
    have e3 := m_inV fuel (P := 3) (by decide) a1 M
    rw [show (nI 3 - 1 : Int32).toInt64 = 2 by decide] at e3
    rw [hM.c.2.2.1, m_inV fuel (by omega), bd_ret, e3, bd_ret]
    by_cases h : vN a0 S.R.2.2.1.length = true
    · rw [if_pos h, if_pos h, if_neg i10]
      obtain ⟨h1, h2⟩ := vN_y (by omega) h
      by_cases h' : vN a1 3 = true
      · rw [if_pos h', if_pos h', if_neg i10]
        obtain ⟨h3, h4⟩ := vN_y (by omega) h'
        obtain ⟨b1, b2, b3⟩ := hM.c.2.2.2.2.2.1 _ _ (List.getElem?_eq_getElem h1)
        have hg : S.R.2.2.1.getD (pN a0) (0, 0, 0) = S.R.2.2.1[pN a0] := by rw [List.getD_eq_getElem?_getD, List.getElem?_eq_getElem h1]; rfl
        rw [hg]
        generalize S.R.2.2.1[pN a0] = q at *
        generalize pN a0 = j at *
        generalize pN a1 = i at *
        subst h2 h4
        rw [show (3 : Int32) = nI 3 from rfl, pk_mul, nI_add, gd_in (vp_in_nI (by omega) (by decide)), nI_clamp (by omega)]
        match i, h3 with
        | 0, _ => rw [Nat.add_zero, b1]; rfl
        | 1, _ => rw [b2]; rfl
        | 2, _ => rw [b3]; rfl
      · rw [if_neg h', if_neg h', if_pos rfl]
    · rw [if_neg h, if_neg h, if_pos rfl]
theorem sim_knows (a0 : Int32) : Sm (fun M => X_ShakeHands_knows fuel a0 M) (fun M => X_Model_knows fuel a0 M) := by
  refine Sm_q (q := fun S => if vN a0 S.R.1 then nI (knN (S.A.W (pN a0))) else -1) (fun M S hS hM => ⟨M, ?_, Off.rf⟩) (fun M S hS hM => ?_)
  · dsimp only
    unfold X_ShakeHands_knows
    rw [x_isOne fuel hM.c.1, bd_ret]
    by_cases h : vN a0 S.R.1 = true
    · obtain ⟨h1, h2⟩ := vN_y hS.p31 h
      have h6 := hS.p6
      rw [if_pos h, if_pos h, if_neg i10]
      generalize pN a0 = p at *
      subst h2
      rw [gd_in (vp_in_nI (by omega) (by decide)), nI_clamp (by omega), hM.a.2.2.1 p (by omega), row_known fuel (hS.hA.1 p).1 (hS.hA.1 p).2, bd_ret]
    · rw [if_neg h, if_neg h, if_pos rfl]
  · dsimp only
    unfold X_Model_knows
    rw [m_isOne fuel hS.p31 hM.c.1, bd_ret]
    by_cases h : vN a0 S.R.1 = true
    · obtain ⟨h1, h2⟩ := vN_y hS.p31 h
      rw [if_pos h, if_pos h, if_neg i10]
      generalize pN a0 = p at *
      subst h2
      rw [m_knowsNow hS hM h1, bd_ret]
      exact ⟨_, rfl, mh_S (m0_fr M)⟩
    · rw [if_neg h, if_neg h, if_pos rfl]
      exact ⟨_, rfl, Fr.rf⟩
theorem sim_row (a0 : Int32) (a1 : Int32) : Sm (fun M => X_ShakeHands_row fuel a0 a1 M) (fun M => X_Model_row fuel a0 a1 M) := by
  refine Sm_q (q := fun S => if vN a0 S.R.1 then (if 0 ≤ a1 then (if nI (S.A.W (pN a0)).length ≤ a1 then -4 else nI ((S.A.W (pN a0)).getD (pN a1) 0)) else -1) else -1) (fun M S hS hM => ⟨M, ?_, Off.rf⟩) (fun M S hS hM => ⟨M, ?_, Fr.rf⟩)
  · dsimp only
    unfold X_ShakeHands_row
    rw [x_isOne fuel hM.c.1, bd_ret]
    by_cases h : vN a0 S.R.1 = true
    · obtain ⟨h1, h2⟩ := vN_y hS.p31 h
      have h6 := hS.p6
      rw [if_pos h, if_pos h, if_neg i10]
      generalize pN a0 = p at *
      subst h2
      have hW := hS.hA.1 p
      split
      · next h3 =>
        rw [gd_in (vp_in_nI (by omega) (by decide)), nI_clamp (by omega), hM.a.2.2.1 p (by omega)]
        unfold nm
        dsimp only
        rw [row_size fuel hW.1 hW.2, bd_ret]
        split
        · rfl
        · next h4 =>
          have hv : vN a1 (S.A.W p).length = true := by
            unfold vN
            simp only [Bool.and_eq_true, decide_eq_true_eq]
            exact ⟨h3, Int32.not_le.mp h4⟩
          obtain ⟨h5, h7⟩ := vN_y (by omega) hv
          generalize pN a1 = i at *
          subst h7
          rw [row_thing fuel hW.1 hW.2 h5, bd_ret, List.getD_eq_getElem?_getD, List.getElem?_eq_getElem h5]
          rfl
      · rfl
    · rw [if_neg h, if_neg h, if_pos rfl]
  · dsimp only
    unfold X_Model_row
    rw [m_isOne fuel hS.p31 hM.c.1, bd_ret]
    by_cases h : vN a0 S.R.1 = true
    · obtain ⟨h1, h2⟩ := vN_y hS.p31 h
      have h6 := hS.p6
      rw [if_pos h, if_pos h, if_neg i10]
      generalize pN a0 = p at *
      subst h2
      have hW := hS.hA.1 p
      have hr := hM.a.1 p (by omega)
      rw [Nat.zero_add] at hr
      split
      · next h3 =>
        rw [show (10 : Int32) = nI 10 from rfl, pk_mul, gd_in (vp_in_nI (by omega) (by decide)), nI_clamp (by omega), hr.1]
        split
        · rfl
        · next h4 =>
          have hv : vN a1 (S.A.W p).length = true := by
            unfold vN
            simp only [Bool.and_eq_true, decide_eq_true_eq]
            exact ⟨h3, Int32.not_le.mp h4⟩
          obtain ⟨h5, h7⟩ := vN_y (by omega) hv
          generalize pN a1 = i at *
          subst h7
          rw [nI_1, nI_add, gd_in (vp_in_nI (by omega) (by decide)), nI_clamp (by omega), hr.2 i _ (List.getElem?_eq_getElem h5), List.getD_eq_getElem?_getD, List.getElem?_eq_getElem h5]
          rfl
      · rfl
    · rw [if_neg h, if_neg h, if_pos rfl]
theorem m_whoNow {M : Mem} {S : Ab} (hS : Ok S) (h : MA M S) {t : Nat} (ht : t < 16) : X_Model_whoNow fuel (nI t) M = some (nI (whoN S.A.W t S.R.1), m0 M) := by
  unfold X_Model_whoNow
  have hc : MC (m0 M) S.R := h.c.mh (m0_fr M)
  rw [show (0 : Int32) = nI 0 from rfl, m0_b, bd_ret, m_whoIn fuel (by decide) hc.1 hS.p6 (by decide) ht hS.hA.1 (m0_ly hS h), bd_ret]
theorem x_whoNow {M : Mem} {S : Ab} (hS : Ok S) (h : XA M S) {t : Nat} (ht : t < 16) : X_Minds_knowers fuel 17 (nI t) M = some (nI (whoN S.A.W t S.R.1), M) := by
  rw [minds_knowers fuel (by decide) hS.hA.1 h.a.2.2.1 ht, whoN_6 hS.p6 hS.hA.2.1]
theorem sim_who (a0 : Int32) : Sm (fun M => X_ShakeHands_who fuel a0 M) (fun M => X_Model_who fuel a0 M) := by
  refine Sm_q (q := fun S => if vN a0 16 then nI (whoN S.A.W (pN a0) S.R.1) else -1) (fun M S hS hM => ⟨M, ?_, Off.rf⟩) (fun M S hS hM => ?_)
  · dsimp only
    unfold X_ShakeHands_who
    rw [x_isThing, bd_ret]
    by_cases h : vN a0 16 = true
    · obtain ⟨h1, h2⟩ := vN_y (by decide) h
      rw [if_pos h, if_pos h, if_neg i10]
      generalize pN a0 = t at *
      subst h2
      rw [x_whoNow hS hM h1, bd_ret]
    · rw [if_neg h, if_neg h, if_pos rfl]
  · dsimp only
    unfold X_Model_who
    rw [m_isThing, bd_ret]
    by_cases h : vN a0 16 = true
    · obtain ⟨h1, h2⟩ := vN_y (by decide) h
      rw [if_pos h, if_pos h, if_neg i10]
      generalize pN a0 = t at *
      subst h2
      rw [m_whoNow hS hM h1, bd_ret]
      exact ⟨_, rfl, mh_S (m0_fr M)⟩
    · rw [if_neg h, if_neg h, if_pos rfl]
      exact ⟨_, rfl, Fr.rf⟩
end
section
/-! CALLS: learn, forget, glove, shake, feast, days -/
def updW (W : Nat → List Nat) (p : Nat) (l : List Nat) : Nat → List Nat := fun q => if q = p then l else W q
theorem OkMi.setW {P : Nat} {m : Mi} {W : Nat → List Nat} (h : OkMi P m) (hW : OkW W) (he : ∀ p, P ≤ p → W p = []) : OkMi P (m.setW W) := ⟨hW, he, h.2.2⟩
theorem OkW.upd {W : Nat → List Nat} (h : OkW W) (p : Nat) {l : List Nat} (hl : Ro l) (h9 : l.length ≤ 9) : OkW (updW W p l) := fun q => by
  unfold updW
  split
  · exact ⟨hl, h9⟩
  · exact h q
theorem updW_end {W : Nat → List Nat} {P p : Nat} {l : List Nat} (h : ∀ q, P ≤ q → W q = []) (hp : p < P) : ∀ q, P ≤ q → updW W p l q = [] := fun q hq => by
  unfold updW
  rw [if_neg (by omega)]
  exact h q hq
theorem rowsAt.upd {M : Mem} {rows : Nat} {W : Nat → List Nat} (h : rowsAt M rows W) (p : Nat) (l : List Nat) : rowsAt (sl M rows p (enc l)) rows (updW W p l) := fun q hq => by
  unfold updW
  show (if rows = rows ∧ q = p then enc l else M.2 rows q) = _
  by_cases e : q = p
  · rw [if_pos ⟨rfl, e⟩, if_pos e]
  · rw [if_neg (fun x => e x.2), if_neg e]
    exact h q hq
theorem x_knowsNow {M : Mem} {S : Ab} (hS : Ok S) (h : XA M S) {p t : Nat} (hp : p < S.R.1) (ht : t < 16) : X_ShakeHands_knowsNow fuel (nI p) (nI t) M = some (if t ∈ S.A.W p then 1 else 0, M) := by
  have h6 := hS.p6
  unfold X_ShakeHands_knowsNow
  rw [gd_in (vp_in_nI (by omega) (by decide)), nI_clamp (by omega), h.a.2.2.1 p (by omega), row_knowsIt fuel (hS.hA.1 p).1 (hS.hA.1 p).2 ht, bd_ret]
  split <;> rfl
-- one row of now is made anew
def lrnU (p t : Nat) (S : Ab) : Int32 × Ab := let l := settle S.R (addT (S.A.W p) t); (nI l.length, S.setA (S.A.setW (updW S.A.W p l)))
theorem m_row1 {M : Mem} {S : Ab} (hM : MA M S) {p : Nat} (hp : p < 6) : RwM M 1 (10 * p) (S.A.W p) := by
  have := hM.a.1 p hp
  rwa [Nat.zero_add] at this
theorem m_take1 {M : Mem} {S : Ab} (hS : Ok S) (hM : MA M S) {N : Mem} {p : Nat} (hp : p < 6) (hN : Fr (mh 0) M N) : ∃ M', X_Model_takes fuel 1 234 ((10 : Int32) * nI p) (si N 0 35 0) = some ((), M') ∧ MkAt M' (S.A.W p) ∧ Fr (mh 0) M M' := by
  have hmk1 : ∀ k, ¬ mk 1 k := fun k => by unfold mk; omega
  have f0 : Fr mk N (si N 0 35 0) := Fr.si (Or.inr ⟨rfl, rfl⟩)
  have k0 : MkAt (si N 0 35 0) [] := ⟨si_at _ _ _ _, fun i t h => by simp at h⟩
  have hW := hS.hA.1 p
  obtain ⟨M1, g1, g2, g3⟩ := m_takes fuel (by decide) (c := 1) (ln := 234) (b := 10 * p) (by decide) hW.1 hW.2 (by omega) (by decide) (((m_row1 hM hp).fr hN (fun k _ _ => mh_1 k)).fr f0 (fun k _ _ => hmk1 k)) k0 ⟨List.nodup_nil, by simp⟩
  have m0 : mergeT [] (S.A.W p) = S.A.W p := by
    have : ∀ (m l : List Nat), (l ++ m).Nodup → mergeT l m = l ++ m := by
      intro m
      induction m with
      | nil => intro l _; simp [mergeT]
      | cons t m ih =>
        intro l h
        have h1 : t ∉ l := by
          have := (List.nodup_append.mp h).2.2
          intro q
          exact this t q t List.mem_cons_self rfl
        show mergeT (addT l t) m = _
        unfold addT
        rw [if_neg h1, ih (l ++ [t]) (by simpa using h)]
        simp
    have h := this (S.A.W p) [] (by simpa using hW.1.1)
    simpa using h
  rw [m0] at g2
  refine ⟨M1, ?_, g2, hN.trans ((f0.trans g3).mono (fun _ _ h => Or.inl h))⟩
  rw [show (10 : Int32) = nI 10 from rfl, pk_mul]
  exact g1
theorem m_put1 {M N : Mem} {S : Ab} (hS : Ok S) (hM : MA M S) {p : Nat} (hp : p < S.R.1) {l : List Nat} (hN : Fr (mh 0) M N) (hk : MkAt N l) (hl : Ro l) (h9 : l.length ≤ 9) : ∃ M', X_Model_puts fuel 1 234 ((10 : Int32) * nI p) N = some ((), M') ∧ M'.1 0 35 = nI l.length ∧ MA M' (S.setA (S.A.setW (updW S.A.W p l))) := by
  have h6 := hS.p6
  obtain ⟨M1, g1, g2, g3⟩ := m_puts fuel (by decide) (c := 1) (ln := 234) (b := 10 * p) (by decide) (by omega) (by decide) hk h9
  refine ⟨M1, ?_, by rw [(g3 0 35 (by unfold rg; omega)).1]; exact hk.1, ?_⟩
  · rw [show (10 : Int32) = nI 10 from rfl, pk_mul]
    exact g1
  · refine hM.newW hS ((hN.mono (fun _ _ h => Or.inl (mh_mS h))).trans (g3.mono (fun _ _ h => Or.inr ?_))) (fun q hq => ?_)
    · unfold rg at *; omega
    · unfold updW
      rw [Nat.zero_add]
      by_cases e : q = p
      · rw [if_pos e, e]; exact g2
      · rw [if_neg e]
        have := (hS.hA.1 q).2
        exact ((m_row1 hM hq).fr hN (fun k _ _ => mh_1 k)).fr g3 (fun k _ _ => by unfold rg; omega)
theorem sim_learn (a0 : Int32) (a1 : Int32) : Sm (fun M => X_ShakeHands_learn fuel a0 a1 M) (fun M => X_Model_learn fuel a0 a1 M) := by
  refine Sm_u (u := fun S => if vN a0 S.R.1 then (if vN a1 16 then (if pN a1 ∈ S.A.W (pN a0) then (-2, S) else lrnU (pN a0) (pN a1) S) else (-1, S)) else (-1, S)) (fun M S hS hM => ?_) (fun M S hS hM => ?_) (fun S hS => ?_)
  · dsimp only
    unfold X_ShakeHands_learn
    rw [x_isOne fuel hM.c.1, bd_ret]
    by_cases h : vN a0 S.R.1 = true
    · obtain ⟨h1, h2⟩ := vN_y hS.p31 h
      have h6 := hS.p6
      rw [if_pos h, if_pos h, if_neg i10, x_isThing, bd_ret]
      by_cases h' : vN a1 16 = true
      · obtain ⟨h3, h4⟩ := vN_y (by decide) h'
        rw [if_pos h', if_pos h', if_neg i10]
        generalize pN a0 = p at *
        generalize pN a1 = t at *
        subst h2 h4
        have hW := hS.hA.1 p
        rw [x_knowsNow hS hM h1 h3, bd_ret]
        by_cases e : t ∈ S.A.W p
        · rw [if_pos e, if_pos e, if_neg i10]
          exact ⟨M, rfl, hM⟩
        · rw [if_neg e, if_neg e, if_pos rfl]
          have hv : vp_in (nI p) 6 := vp_in_nI (by omega) (by decide)
          have hl : Ro (settle S.R (addT (S.A.W p) t)) := (hW.1.addT h3).settle hS.hR
          have hl9 := settle_le9 hS.hR (addT (S.A.W p) t)
          simp only [gd_in hv, nm]
          rw [nI_clamp (by omega), hM.a.2.2.1 p (by omega), circ_taught fuel (by decide) hS.hR hM.c hW.1 hW.2 h3, bd_ret]
          have e2 : (sl (stR M 15 (settle S.R (addT (S.A.W p) t))) 17 p (enc (settle S.R (addT (S.A.W p) t)))).2 17 p = enc (settle S.R (addT (S.A.W p) t)) := if_pos ⟨rfl, rfl⟩
          rw [e2, row_size fuel hl hl9, bd_ret]
          refine ⟨_, rfl, hM.newW ((Off.stR (by decide)).trans (Off.sl (by decide))) ?_⟩
          exact rowsAt.upd (hM.a.2.2.1.off (Off.stR (S := [15]) (by decide)) (by decide)) p _
      · rw [if_neg h', if_neg h', if_pos rfl]
        exact ⟨M, rfl, hM⟩
    · rw [if_neg h, if_neg h, if_pos rfl]
      exact ⟨M, rfl, hM⟩
  · dsimp only
    unfold X_Model_learn
    rw [m_isOne fuel hS.p31 hM.c.1, bd_ret]
    by_cases h : vN a0 S.R.1 = true
    · obtain ⟨h1, h2⟩ := vN_y hS.p31 h
      have h6 := hS.p6
      rw [if_pos h, if_pos h, if_neg i10, m_isThing, bd_ret]
      by_cases h' : vN a1 16 = true
      · obtain ⟨h3, h4⟩ := vN_y (by decide) h'
        rw [if_pos h', if_pos h', if_neg i10]
        generalize pN a0 = p at *
        generalize pN a1 = t at *
        subst h2 h4
        have hW := hS.hA.1 p
        rw [m_knowsIt hS hM h1 h3, bd_ret]
        by_cases e : t ∈ S.A.W p
        · rw [if_pos e, if_pos e, if_neg i10]
          exact ⟨_, rfl, hM.fr hS (mh_S (m0_fr M))⟩
        · rw [if_neg e, if_neg e, if_pos rfl]
          simp only [nm]
          obtain ⟨M1, g1, g2, g3⟩ := m_take1 hS hM (p := p) (by omega) (m0_fr M)
          obtain ⟨M2, k1, k2, k3⟩ := m_adds fuel (by decide) g2 hW.1 h3
          have f2 : Fr (mh 0) M M2 := g3.trans (k3.mono (fun _ _ h => Or.inl h))
          obtain ⟨M3, q1, q2, q3⟩ := m_settles fuel (by decide) hS.hR (hM.c.mh f2) k2 (hW.1.addT h3)
          have f3 : Fr (mh 0) M M3 := f2.trans (q3.mono (fun _ _ h => Or.inl h))
          obtain ⟨M4, t1, t2, t3⟩ := m_put1 hS hM h1 f3 q2 ((hW.1.addT h3).settle hS.hR) (settle_le9 hS.hR _)
          rw [g1, bd_ret, k1, bd_ret, q1, bd_ret, t1, bd_ret, t2]
          exact ⟨M4, rfl, t3⟩
      · rw [if_neg h', if_neg h', if_pos rfl]
        exact ⟨M, rfl, hM⟩
    · rw [if_neg h, if_neg h, if_pos rfl]
      exact ⟨M, rfl, hM⟩
  · split
    · next h =>
      obtain ⟨h1, h2⟩ := vN_y hS.p31 h
      split
      · next h' =>
        obtain ⟨h3, h4⟩ := vN_y (by decide) h'
        split
        · exact hS
        · exact hS.newA (hS.hA.setW (hS.hA.1.upd _ (((hS.hA.1 _).1.addT h3).settle hS.hR) (settle_le9 hS.hR _)) (updW_end hS.hA.2.1 h1))
      · exact hS
    · exact hS
def fgtU (p t : Nat) (S : Ab) : Int32 × Ab := let l := (S.A.W p).erase t; (nI l.length, S.setA (S.A.setW (updW S.A.W p l)))
theorem sim_forget (a0 : Int32) (a1 : Int32) : Sm (fun M => X_ShakeHands_forget fuel a0 a1 M) (fun M => X_Model_forget fuel a0 a1 M) := by
  refine Sm_u (u := fun S => if vN a0 S.R.1 then (if vN a1 16 then (if pN a1 ∈ S.A.W (pN a0) then fgtU (pN a0) (pN a1) S else (-4, S)) else (-1, S)) else (-1, S)) (fun M S hS hM => ?_) (fun M S hS hM => ?_) (fun S hS => ?_)
  · dsimp only
    unfold X_ShakeHands_forget
    rw [x_isOne fuel hM.c.1, bd_ret]
    by_cases h : vN a0 S.R.1 = true
    · obtain ⟨h1, h2⟩ := vN_y hS.p31 h
      have h6 := hS.p6
      rw [if_pos h, if_pos h, if_neg i10, x_isThing, bd_ret]
      by_cases h' : vN a1 16 = true
      · obtain ⟨h3, h4⟩ := vN_y (by decide) h'
        rw [if_pos h', if_pos h', if_neg i10]
        generalize pN a0 = p at *
        generalize pN a1 = t at *
        subst h2 h4
        have hW := hS.hA.1 p
        rw [x_knowsNow hS hM h1 h3, bd_ret]
        by_cases e : t ∈ S.A.W p
        · rw [if_pos e, if_pos e, if_neg i10]
          have hv : vp_in (nI p) 6 := vp_in_nI (by omega) (by decide)
          have hl9 : ((S.A.W p).erase t).length ≤ 9 := Nat.le_trans List.length_erase_le hW.2
          simp only [gd_in hv, nm]
          rw [nI_clamp (by omega), hM.a.2.2.1 p (by omega), circ_without fuel (by decide) hW.1 hW.2 e, bd_ret]
          have e2 : (sl (stR M 15 ((S.A.W p).erase t)) 17 p (enc ((S.A.W p).erase t))).2 17 p = enc ((S.A.W p).erase t) := if_pos ⟨rfl, rfl⟩
          rw [e2, row_size fuel (hW.1.erase t) hl9, bd_ret]
          refine ⟨_, rfl, hM.newW ((Off.stR (by decide)).trans (Off.sl (by decide))) ?_⟩
          exact rowsAt.upd (hM.a.2.2.1.off (Off.stR (S := [15]) (by decide)) (by decide)) p _
        · rw [if_neg e, if_neg e, if_pos rfl]
          exact ⟨M, rfl, hM⟩
      · rw [if_neg h', if_neg h', if_pos rfl]
        exact ⟨M, rfl, hM⟩
    · rw [if_neg h, if_neg h, if_pos rfl]
      exact ⟨M, rfl, hM⟩
  · dsimp only
    unfold X_Model_forget
    rw [m_isOne fuel hS.p31 hM.c.1, bd_ret]
    by_cases h : vN a0 S.R.1 = true
    · obtain ⟨h1, h2⟩ := vN_y hS.p31 h
      have h6 := hS.p6
      rw [if_pos h, if_pos h, if_neg i10, m_isThing, bd_ret]
      by_cases h' : vN a1 16 = true
      · obtain ⟨h3, h4⟩ := vN_y (by decide) h'
        rw [if_pos h', if_pos h', if_neg i10]
        generalize pN a0 = p at *
        generalize pN a1 = t at *
        subst h2 h4
        have hW := hS.hA.1 p
        rw [m_knowsIt hS hM h1 h3, bd_ret]
        by_cases e : t ∈ S.A.W p
        · rw [if_pos e, if_pos e, if_neg i10]
          simp only [nm]
          obtain ⟨M1, g1, g2, g3⟩ := m_take1 hS hM (p := p) (by omega) (m0_fr M)
          obtain ⟨r, M2, k0, -, k1, k2, k3⟩ := m_rem fuel (by decide) g2 hW.1 e
          have f2 : Fr (mh 0) M M2 := g3.trans (k3.mono (fun _ _ h => Or.inl h))
          obtain ⟨M4, t1, t2, t3⟩ := m_put1 hS hM h1 f2 k2 (hW.1.erase t) (Nat.le_trans List.length_erase_le hW.2)
          rw [g1, bd_ret, k0, bd_ret, k1, bd_ret, t1, bd_ret, t2]
          exact ⟨M4, rfl, t3⟩
        · rw [if_neg e, if_neg e, if_pos rfl]
          exact ⟨_, rfl, hM.fr hS (mh_S (m0_fr M))⟩
      · rw [if_neg h', if_neg h', if_pos rfl]
        exact ⟨M, rfl, hM⟩
    · rw [if_neg h, if_neg h, if_pos rfl]
      exact ⟨M, rfl, hM⟩
  · split
    · next h =>
      obtain ⟨h1, h2⟩ := vN_y hS.p31 h
      split
      · next h' =>
        split
        · exact hS.newA (hS.hA.setW (hS.hA.1.upd _ ((hS.hA.1 _).1.erase _) (Nat.le_trans List.length_erase_le (hS.hA.1 _).2)) (updW_end hS.hA.2.1 h1))
        · exact hS
      · exact hS
    · exact hS
end
section
/-! CALLS: glove, saw, blind, shake, feast, days -/
def clN (k t : Nat) : Nat := if k.testBit t then k ^^^ 2 ^ t else k
theorem clN_bit (k t i : Nat) : (clN k t).testBit i = (k.testBit i && decide (i ≠ t)) := by
  unfold clN
  by_cases e : i = t
  · subst e
    by_cases h : k.testBit i
    · rw [if_pos h, Nat.testBit_xor, Nat.testBit_two_pow]; simp [h]
    · rw [if_neg h]; simp [h]
  · have e2 : ¬ t = i := fun q => e q.symm
    by_cases h : k.testBit t
    · rw [if_pos h, Nat.testBit_xor, Nat.testBit_two_pow]; simp [e, e2]
    · rw [if_neg h]; simp [e]
theorem lt_bits {k P : Nat} (h : ∀ i, P ≤ i → k.testBit i = false) : k < 2 ^ P := Nat.lt_pow_two_of_testBit _ h
theorem clN_lt {k t P : Nat} (h : k < 2 ^ P) : clN k t < 2 ^ P := lt_bits (fun i hi => by
  rw [clN_bit, Nat.testBit_lt_two_pow (Nat.lt_of_lt_of_le h (Nat.pow_le_pow_right (by decide) hi))]
  rfl)
theorem i_m1 : (-1 : Int32) = nI (2 ^ 32 - 1) := by decide
theorem i_com {m : Nat} (a : Nat) (h : m < 2 ^ 32) : nI a &&& (nI m ^^^ (-1)) = nI (a &&& (m ^^^ (2 ^ 32 - 1))) := by rw [i_m1, i_xor, i_and]
theorem com_bit {m i : Nat} (h : i < 32) : (m ^^^ (2 ^ 32 - 1)).testBit i = !m.testBit i := by
  rw [Nat.testBit_xor, Nat.testBit_two_pow_sub_one]
  cases m.testBit i <;> simp [h]
theorem i_clr {k t : Nat} (ht : t < 32) (hk : k < 2 ^ 32) : nI k &&& (((1 : Int32) <<< (nI t &&& 31)) ^^^ (-1)) = nI (clN k t) := by
  rw [i_shl1 ht, i_com k (Nat.pow_lt_pow_right (by decide) ht)]
  congr 1
  apply Nat.eq_of_testBit_eq
  intro i
  rw [Nat.testBit_and, clN_bit]
  by_cases h : i < 32
  · rw [com_bit h, Nat.testBit_two_pow]
    by_cases e : i = t
    · subst e; simp
    · have e2 : ¬ t = i := fun q => e q.symm
      simp [e, e2]
  · rw [Nat.testBit_lt_two_pow (Nat.lt_of_lt_of_le hk (Nat.pow_le_pow_right (by decide) (by omega)))]
    rfl
theorem or_bit (k t i : Nat) : (k ||| 2 ^ t).testBit i = (k.testBit i || decide (t = i)) := by rw [Nat.testBit_or, Nat.testBit_two_pow]
theorem or_lt {k t P : Nat} (h : k < 2 ^ P) (ht : t < P) : k ||| 2 ^ t < 2 ^ P := Nat.or_lt_two_pow h (Nat.pow_lt_pow_right (by decide) ht)
theorem b_iu {k t : Nat} (hk : k < 2 ^ 32) (ht : t < 32) : (((nI k).toUInt32 >>> ((nI t).toUInt32 &&& Int32.toUInt32 31)).toInt32 &&& 1) = nI (if k.testBit t then 1 else 0) := by
  rw [bit_iu hk ht]
  cases k.testBit t <;> rfl
theorem GlM.set {M : Mem} {b g p g' : Nat} {v : Int32} (h : GlM M b g) (hv : v = nI (if g'.testBit p then 1 else 0)) (hg : ∀ i, i ≠ p → g'.testBit i = g.testBit i) : GlM (si M 1 (b + p) v) b g' := fun q hq => by
  by_cases e : q = p
  · rw [e, si_at, hv]
  · rw [si_ne (Or.inr (by omega)), hg q e]
    exact h q hq
def glvU (p : Nat) (v : Int32) (S : Ab) : Int32 × Ab := (nI (if S.A.gl.testBit p then 1 else 0), S.setA (S.A.W, (if v = 0 then clN S.A.gl p else S.A.gl ||| 2 ^ p), S.A.2.2))
theorem sim_glove (a0 : Int32) (a1 : Int32) : Sm (fun M => X_ShakeHands_glove fuel a0 a1 M) (fun M => X_Model_glove fuel a0 a1 M) := by
  refine Sm_u (u := fun S => if vN a0 S.R.1 then glvU (pN a0) a1 S else (-1, S)) (fun M S hS hM => ?_) (fun M S hS hM => ?_) (fun S hS => ?_)
  · dsimp only
    unfold X_ShakeHands_glove
    rw [x_isOne fuel hM.c.1, bd_ret]
    by_cases h : vN a0 S.R.1 = true
    · obtain ⟨h1, h2⟩ := vN_y hS.p31 h
      have h6 := hS.p6
      have hg := hS.gl
      rw [if_pos h, if_pos h, if_neg i10]
      generalize pN a0 = p at *
      subst h2
      simp only [nm]
      rw [hM.a.1, b_iu (by omega) (by omega), i_clr (by omega) (by omega), i_shl1 (by omega), i_or]
      unfold glvU
      have key : ∀ g', XA (si M 16 1 (nI g')) (S.setA (S.A.W, g', S.A.2.2)) := fun g' => by
        refine hM.newA (Off.si (by decide)) ⟨si_at _ _ _ _, ?_, ?_, ?_⟩
        · rw [si_ne (Or.inr (by decide))]; exact hM.a.2.1
        · exact hM.a.2.2.1
        · intro q hq hs
          rw [si_ne (Or.inl (by decide))]
          exact hM.a.2.2.2 q hq hs
      by_cases e : a1 = 0
      · rw [if_pos e, if_pos e]
        exact ⟨_, rfl, key _⟩
      · rw [if_neg e, if_neg e]
        exact ⟨_, rfl, key _⟩
    · rw [if_neg h, if_neg h, if_pos rfl]
      exact ⟨M, rfl, hM⟩
  · dsimp only
    unfold X_Model_glove
    rw [m_isOne fuel hS.p31 hM.c.1, bd_ret]
    by_cases h : vN a0 S.R.1 = true
    · obtain ⟨h1, h2⟩ := vN_y hS.p31 h
      have h6 := hS.p6
      have hg := hS.gl
      rw [if_pos h, if_pos h, if_neg i10]
      generalize pN a0 = p at *
      subst h2
      have e60 := hM.a.2.1 p (by omega)
      rw [show 0 + 60 + p = 60 + p by omega] at e60
      rw [show (60 : Int32) = nI 60 from rfl, nI_add, gd_in (vp_in_nI (by omega) (by decide)), nI_clamp (by omega)]
      unfold nm X_Model_flag
      dsimp only
      have hv : vp_in (nI (60 + p)) 234 := vp_in_nI (by omega) (by decide)
      have key : ∀ (v : Int32) g', v = nI (if g'.testBit p then 1 else 0) → (∀ i, i ≠ p → g'.testBit i = S.A.gl.testBit i) → MA (si M 1 (60 + p) v) (S.setA (S.A.W, g', S.A.2.2)) := fun v g' e1 e2 => by
        have fr : Fr (rg 1 60 6) M (si M 1 (60 + p) v) := Fr.si ⟨rfl, by omega, by omega⟩
        refine hM.newA hS (fr.mono (fun a k q => Or.inr ⟨q.1, by have := q.2; omega⟩)) ⟨hM.a.1.fr hS.hA.1 fr (fun k _ _ => by unfold rg; omega), ?_, hM.a.2.2.1.fr fr (fun k _ _ => by unfold rg; omega), fun q hq hs => ?_⟩
        · have := hM.a.2.1.set e1 e2
          rwa [show 0 + 60 + p = 60 + p by omega] at this
        · rw [si_ne (Or.inr (by omega))]
          exact hM.a.2.2.2 q hq hs
      unfold glvU
      by_cases e : a1 = 0
      · rw [if_pos e, bd_ret, gd_in hv, e60, if_pos e]
        exact ⟨_, rfl, key 0 _ (by rw [clN_bit]; simp; rfl) (fun i hi => by rw [clN_bit]; simp [hi])⟩
      · rw [if_neg e, bd_ret, gd_in hv, e60, if_neg e]
        exact ⟨_, rfl, key 1 _ (by rw [or_bit]; simp; rfl) (fun i hi => by rw [or_bit]; simp [show ¬ p = i from fun q => hi q.symm])⟩
    · rw [if_neg h, if_neg h, if_pos rfl]
      exact ⟨M, rfl, hM⟩
  · split
    · next h =>
      obtain ⟨h1, h2⟩ := vN_y hS.p31 h
      refine hS.newA ⟨hS.hA.1, hS.hA.2.1, ?_, hS.hA.2.2.2⟩
      show (if a1 = 0 then clN S.A.gl (pN a0) else S.A.gl ||| 2 ^ pN a0) < _
      split
      · exact clN_lt hS.hA.2.2.1
      · exact or_lt hS.hA.2.2.1 h1
    · exact hS
theorem pop_mod (g : Nat) : ∀ P d, g < 2 ^ P → popN (P + d) g = popN P g
  | P, 0, _ => rfl
  | P, d + 1, h => by
    show (if g.testBit (P + d) then 1 else 0) + popN (P + d) g = _
    rw [Nat.testBit_lt_two_pow (Nat.lt_of_lt_of_le h (Nat.pow_le_pow_right (by decide) (by omega))), pop_mod g P d h]
    simp
theorem pop_16 {g P : Nat} (h : g < 2 ^ P) (hP : P ≤ 16) : popN 16 g = popN P g := by
  have := pop_mod g P (16 - P) h
  rwa [show P + (16 - P) = 16 by omega] at this
theorem m_seen {M : Mem} {P g : Nat} (hP : M.1 0 2 = nI P) (hP6 : P ≤ 6) (hg : g < 2 ^ P) (hM : GlM M 66 g) : X_Model_seen fuel M = some (nI (popN 16 g), M) := by
  have key : ∀ (d i f : Nat), P - i = d → i ≤ P → d < f → X_Model_seen_L4 fuel M f (nI (popN i g)) (nI i) = some (nI (popN P g), M) := by
    intro d
    induction d with
    | zero =>
      intro i f h1 h2 h3
      obtain ⟨f, rfl⟩ : ∃ g, f = g + 1 := ⟨f - 1, by omega⟩
      have e : i = P := by omega
      subst e
      show (if M.1 0 2 ≤ nI i then _ else _) = _
      rw [hP, if_pos (nI_le (by omega) (by omega))]
    | succ d ih =>
      intro i f h1 h2 h3
      obtain ⟨f, rfl⟩ : ∃ g, f = g + 1 := ⟨f - 1, by omega⟩
      have hi : i < 6 := by omega
      show (if M.1 0 2 ≤ nI i then _ else gd ((66 : Int32) + nI i) 234 (X_Model_seen_L4 fuel M f (nI (popN i g) + (M.1 1 ((66 : Int32) + nI i).toNatClampNeg)) (nI i + 1))) = _
      rw [hP, if_neg (nI_ge (by omega) (by omega)), show (66 : Int32) = nI 66 from rfl, nI_add, gd_in (vp_in_nI (by omega) (by decide)), nI_clamp (by omega), hM i hi, nI_add, nI_1, Nat.add_comm (popN i g)]
      exact ih (i + 1) f (by omega) (by omega) (by omega)
  rw [pop_16 hg (by omega)]
  exact key _ 0 fuel rfl (Nat.zero_le _) (by have := fu; omega)
theorem v64 (p : Int32) : vN p 65536 = (decide (0 ≤ p) && decide (p < 65536)) := rfl
def sawU (p : Nat) (x : Nat) (S : Ab) : Int32 × Ab := (nI (popN 16 (S.A.sn ||| 2 ^ p)), S.setA (S.A.W, S.A.gl, S.A.sn ||| 2 ^ p, fun q => if q = p then x else S.A.sg q))
theorem sim_saw (a0 : Int32) (a1 : Int32) : Sm (fun M => X_ShakeHands_saw fuel a0 a1 M) (fun M => X_Model_saw fuel a0 a1 M) := by
  refine Sm_u (u := fun S => if vN a0 S.R.1 then (if vN a1 65536 then sawU (pN a0) (pN a1) S else (-1, S)) else (-1, S)) (fun M S hS hM => ?_) (fun M S hS hM => ?_) (fun S hS => ?_)
  · dsimp only
    unfold X_ShakeHands_saw
    rw [x_isOne fuel hM.c.1, bd_ret]
    by_cases h : vN a0 S.R.1 = true
    · obtain ⟨h1, h2⟩ := vN_y hS.p31 h
      have h6 := hS.p6
      have hg := hS.sn
      rw [if_pos h, if_pos h, if_neg i10]
      by_cases h' : vN a1 65536 = true
      · obtain ⟨h3, h4⟩ := vN_y (by decide) h'
        rw [if_pos h']
        unfold vN at h'
        simp only [Bool.and_eq_true, decide_eq_true_eq] at h'
        rw [if_neg (Int32.not_lt.mpr h'.1), if_pos (show a1 < 65536 from h'.2)]
        generalize pN a0 = p at *
        generalize pN a1 = x at *
        subst h2 h4
        rw [gd_in (vp_in_nI (by omega) (by decide)), nI_clamp (by omega), hM.a.2.1, i_shl1 (by omega), i_or]
        simp only [nm]
        have e : (si (si M 16 2 (nI (S.A.sn ||| 2 ^ p))) 18 p (nI x)).1 16 2 = nI (S.A.sn ||| 2 ^ p) := by rw [si_ne (Or.inl (by decide)), si_at]
        have hl := or_lt (t := p) hS.hA.2.2.2.1 h1
        have hw := hS.pw
        rw [e, bitCount_eq _ (by omega), bd_ret]
        refine ⟨_, rfl, hM.newA ((Off.si (by decide)).trans (Off.si (by decide))) ⟨?_, e, ?_, ?_⟩⟩
        · rw [si_ne (Or.inl (by decide)), si_ne (Or.inr (by decide))]; exact hM.a.1
        · exact hM.a.2.2.1
        · intro q hq hs
          show _ = nI (if q = p then x else S.A.sg q)
          by_cases e2 : q = p
          · rw [if_pos e2, e2]; exact si_at _ _ _ _
          · rw [if_neg e2, si_ne (Or.inr e2), si_ne (Or.inl (by decide))]
            refine hM.a.2.2.2 q hq ?_
            have hs' : (S.A.sn ||| 2 ^ p).testBit q = true := hs
            rw [or_bit] at hs'
            simpa [show ¬ p = q from fun z => e2 z.symm] using hs'
      · rw [if_neg h']
        rcases vN_n h' with h3 | h3
        · rw [if_pos h3]; exact ⟨M, rfl, hM⟩
        · rw [if_neg (show ¬ a1 < 65536 from Int32.not_lt.mpr h3)]
          by_cases h5 : a1 < 0
          · rw [if_pos h5]; exact ⟨M, rfl, hM⟩
          · rw [if_neg h5]; exact ⟨M, rfl, hM⟩
    · rw [if_neg h, if_neg h, if_pos rfl]
      exact ⟨M, rfl, hM⟩
  · dsimp only
    unfold X_Model_saw
    have e3 := m_inV fuel (P := 65536) (by decide) a1 M
    rw [show (nI 65536 - 1 : Int32).toInt64 = 65535 by decide] at e3
    rw [m_isOne fuel hS.p31 hM.c.1, bd_ret, e3, bd_ret]
    by_cases h : vN a0 S.R.1 = true
    · obtain ⟨h1, h2⟩ := vN_y hS.p31 h
      have h6 := hS.p6
      have hg := hS.sn
      rw [if_pos h, if_pos h, if_neg i10]
      by_cases h' : vN a1 65536 = true
      · obtain ⟨h3, h4⟩ := vN_y (by decide) h'
        rw [if_pos h', if_pos h', if_neg i10]
        generalize pN a0 = p at *
        generalize pN a1 = x at *
        subst h2 h4
        rw [show (66 : Int32) = nI 66 from rfl, show (72 : Int32) = nI 72 from rfl, nI_add, nI_add, gd_in (vp_in_nI (by omega) (by decide)), gd_in (vp_in_nI (by omega) (by decide)), nI_clamp (by omega), nI_clamp (by omega)]
        simp only [nm]
        have fr : Fr (rg 1 66 12) M (si (si M 1 (66 + p) 1) 1 (72 + p) (nI x)) := (Fr.si ⟨rfl, by omega, by omega⟩).trans (Fr.si ⟨rfl, by omega, by omega⟩)
        have hG : GlM (si (si M 1 (66 + p) 1) 1 (72 + p) (nI x)) 66 (S.A.sn ||| 2 ^ p) := by
          have h66 := hM.a.2.2.1
          rw [Nat.zero_add] at h66
          have := h66.set (p := p) (g' := S.A.sn ||| 2 ^ p) (v := 1) (by rw [or_bit]; simp; rfl) (fun i hi => by rw [or_bit]; simp [show ¬ p = i from fun q => hi q.symm])
          exact this.fr (P := rg 1 72 6) (Fr.si ⟨rfl, by omega, by omega⟩) (fun k _ _ => by unfold rg; omega)
        have hl := or_lt (t := p) hS.hA.2.2.2.1 h1
        have e2 : (si (si M 1 (66 + p) 1) 1 (72 + p) (nI x)).1 0 2 = nI S.R.1 := by rw [(fr 0 2 (by unfold rg; omega)).1]; exact hM.c.1
        rw [m_seen e2 h6 hl hG, bd_ret]
        refine ⟨_, rfl, hM.newA hS (fr.mono (fun a k q => Or.inr ⟨q.1, by have := q.2; omega⟩)) ⟨hM.a.1.fr hS.hA.1 fr (fun k _ _ => by unfold rg; omega), hM.a.2.1.fr fr (fun k _ _ => by unfold rg; omega), hG, fun q hq hs => ?_⟩⟩
        show _ = nI (if q = p then x else S.A.sg q)
        rw [show 0 + 72 + q = 72 + q by omega]
        by_cases e2 : q = p
        · rw [if_pos e2, e2]; exact si_at _ _ _ _
        · rw [if_neg e2, si_ne (Or.inr (by omega)), si_ne (Or.inr (by omega))]
          have := hM.a.2.2.2 q hq (by
            have hs' : (S.A.sn ||| 2 ^ p).testBit q = true := hs
            rw [or_bit] at hs'
            simpa [show ¬ p = q from fun z => e2 z.symm] using hs')
          rwa [show 0 + 72 + q = 72 + q by omega] at this
      · rw [if_neg h', if_neg h', if_pos rfl]
        exact ⟨M, rfl, hM⟩
    · rw [if_neg h, if_neg h, if_pos rfl]
      exact ⟨M, rfl, hM⟩
  · split
    · next h =>
      obtain ⟨h1, h2⟩ := vN_y hS.p31 h
      split
      · next h' =>
        obtain ⟨h3, h4⟩ := vN_y (by decide) h'
        refine hS.newA ⟨hS.hA.1, hS.hA.2.1, hS.hA.2.2.1, or_lt hS.hA.2.2.2.1 h1, fun q => ?_⟩
        show (if q = pN a0 then pN a1 else S.A.sg q) < 65536
        split
        · exact h3
        · exact hS.hA.2.2.2.2 q
      · exact hS
    · exact hS
end
section
/-! CALLS: blind, shake, feast, after, lost, told, days, lives -/
theorem sim_blind : Sm (fun M => X_ShakeHands_blind fuel M) (fun M => X_Model_blind fuel M) := by
  refine Sm_u (u := fun S => (nI (popN 16 S.A.sn), S.setA (S.A.W, S.A.gl, 0, S.A.sg))) (fun M S hS hM => ?_) (fun M S hS hM => ?_) (fun S hS => ?_)
  · dsimp only
    have hg := hS.sn
    unfold X_ShakeHands_blind
    rw [hM.a.2.1, bitCount_eq _ (by omega), bd_ret]
    refine ⟨_, rfl, hM.newA (Off.si (by decide)) ⟨?_, si_at _ _ _ _, ?_, ?_⟩⟩
    · rw [si_ne (Or.inr (by decide))]; exact hM.a.1
    · exact hM.a.2.2.1
    · intro q hq hs
      exact absurd (show (0 : Nat).testBit q = true from hs) (by simp)
  · dsimp only
    have hg := hS.sn
    unfold X_Model_blind
    have h66 := hM.a.2.2.1
    rw [Nat.zero_add] at h66
    rw [m_seen hM.c.1 hS.p6 hS.hA.2.2.2.1 h66, bd_ret]
    have key : ∀ (d i f : Nat) (N : Mem), 6 - i = d → i ≤ 6 → d < f → (∀ q, q < i → N.1 1 (66 + q) = 0) → ∃ M', X_Model_blind_L7 fuel (nI (popN 16 S.A.sn)) f (nI i) N = some (nI (popN 16 S.A.sn), M') ∧ Fr (rg 1 66 12) N M' ∧ ∀ q, q < 6 → M'.1 1 (66 + q) = 0 := by
      intro d
      induction d with
      | zero =>
        intro i f N h1 h2 h3 hN
        obtain ⟨f, rfl⟩ : ∃ g, f = g + 1 := ⟨f - 1, by omega⟩
        have e : i = 6 := by omega
        subst e
        refine ⟨N, ?_, Fr.rf, hN⟩
        show (if (6 : Int32) ≤ nI 6 then _ else _) = _
        rw [if_pos (by decide)]
      | succ d ih =>
        intro i f N h1 h2 h3 hN
        obtain ⟨f, rfl⟩ : ∃ g, f = g + 1 := ⟨f - 1, by omega⟩
        obtain ⟨M', g1, g2, g3⟩ := ih (i + 1) f (si (si N 1 (66 + i) 0) 1 (72 + i) 0) (by omega) (by omega) (by omega) (fun q hq => by
          rw [si_ne (Or.inr (by omega))]
          by_cases e : q = i
          · rw [e]; exact si_at _ _ _ _
          · rw [si_ne (Or.inr (by omega))]; exact hN q (by omega))
        refine ⟨M', ?_, ((Fr.si ⟨rfl, by omega, by omega⟩).trans (Fr.si ⟨rfl, by omega, by omega⟩)).trans g2, g3⟩
        show (if (6 : Int32) ≤ nI i then _ else gd ((66 : Int32) + nI i) 234 (gd ((72 : Int32) + nI i) 234 (X_Model_blind_L7 fuel (nI (popN 16 S.A.sn)) f (nI i + 1) (si (si N 1 (((66 : Int32) + nI i).toNatClampNeg) 0) 1 (((72 : Int32) + nI i).toNatClampNeg) 0)))) = _
        rw [if_neg (show ¬ (6 : Int32) ≤ nI i from nI_ge (b := 6) (by omega) (by decide)), show (66 : Int32) = nI 66 from rfl, show (72 : Int32) = nI 72 from rfl, nI_add, nI_add, gd_in (vp_in_nI (by omega) (by decide)), gd_in (vp_in_nI (by omega) (by decide)), nI_clamp (by omega), nI_clamp (by omega), nI_1]
        exact g1
    obtain ⟨M', g1, g2, g3⟩ := key 6 0 fuel M rfl (by decide) (by decide) (fun q hq => by omega)
    refine ⟨M', g1, hM.newA hS (g2.mono (fun a k q => Or.inr ⟨q.1, by have := q.2; omega⟩)) ⟨hM.a.1.fr hS.hA.1 g2 (fun k _ _ => by unfold rg; omega), hM.a.2.1.fr g2 (fun k _ _ => by unfold rg; omega), fun q hq => ?_, fun q hq hs => ?_⟩⟩
    · rw [show 0 + 66 + q = 66 + q by omega, g3 q hq]
      show _ = nI (if (0 : Nat).testBit q then 1 else 0)
      simp
      rfl
    · exact absurd (show (0 : Nat).testBit q = true from hs) (by simp)
  · refine hS.newA ⟨hS.hA.1, hS.hA.2.1, hS.hA.2.2.1, ?_, hS.hA.2.2.2.2⟩
    exact Nat.two_pow_pos _
theorem handF_end {R : Rl} {g x P : Nat} {W : Nat → List Nat} (hx : x < 15) (hP : gre x < P) (h : ∀ p, P ≤ p → W p = []) : ∀ p, P ≤ p → handF R g x W p = [] := by
  intro p hp
  have := (les_gre x hx).1
  unfold handF
  split
  · exact h p hp
  · dsimp only
    rw [if_neg (by omega)]
    exact h p hp
theorem feastF_end {R : Rl} {g P : Nat} : ∀ (hs : List Nat) {W : Nat → List Nat}, (∀ h ∈ hs, h < 15 ∧ gre h < P) → (∀ p, P ≤ p → W p = []) → ∀ p, P ≤ p → feastF R g hs W p = []
  | [], _, _, h => h
  | x :: hs, _, hh, h => feastF_end hs (fun y hy => hh y (List.mem_cons_of_mem _ hy)) (handF_end (hh x List.mem_cons_self).1 (hh x List.mem_cons_self).2 h)
theorem m_fin {M N : Mem} {S : Ab} (hS : Ok S) (hM : MA M S) (hN : Fr (mh 0) M N) {V : Nat → List Nat} (hV : OkW V) (h : LyM N 15 (60 * 0) V) : MA (cpI N 15 (60 * 0) 1 0 60) (S.setA (S.A.setW V)) := by
  refine hM.newW hS ((hN.mono (fun _ _ h => Or.inl (mh_mS h))).trans (Fr.cpI (fun k h1 h2 => Or.inr ⟨rfl, h1, h2⟩))) (h.cp hV)
theorem m_shakesNow {M : Mem} {S : Ab} (hS : Ok S) (hM : MA M S) {x : Nat} (hx : x < 15) : ∃ M', X_Model_shakesNow fuel (nI x) M = some ((), M') ∧ MA M' (S.setA (S.A.setW (handF S.R S.A.gl x S.A.W))) ∧ LyM M' 1 0 (handF S.R S.A.gl x S.A.W) := by
  have hg := hS.gl
  unfold X_Model_shakesNow
  have hc : MC (m0 M) S.R := hM.c.mh (m0_fr M)
  have hG : GlM (m0 M) 60 S.A.gl := by
    have := hM.a.2.1
    rw [Nat.zero_add] at this
    exact this.fr (m0_fr M) (fun k _ _ => mh_1 k)
  obtain ⟨M1, g1, g2, g3⟩ := m_shakes fuel (by decide) hS.hR hc (L := 0) (by decide) hS.hA.1 (m0_ly hS hM) (show S.A.gl < 2 ^ 31 by omega) hx
  rw [show (0 : Int32) = nI 0 from rfl, m0_b, bd_ret, m_worn fuel (by decide) hc.1 hS.p6 hS.hA.2.2.1 hG, bd_ret, g1, bd_ret, m_becomes fuel (by decide) (by decide), bd_ret]
  have hW' := hS.hA.1.hand hS.hR S.A.gl x
  exact ⟨_, rfl, m_fin hS hM ((m0_fr M).trans g2) hW' g3, g3.cp hW'⟩
theorem x_areTwo {M : Mem} {P : Nat} (h : M.1 11 0 = nI P) (a b : Int32) : X_ShakeHands_areTwo fuel a b M = some (if vN a P && vN b P && decide (a ≠ b) then 1 else 0, M) := by
  unfold X_ShakeHands_areTwo
  rw [x_isOne fuel h, bd_ret]
  by_cases h1 : vN a P = true
  · rw [if_pos h1, if_neg i10, x_isOne fuel h, bd_ret]
    by_cases h2 : vN b P = true
    · rw [if_pos h2, if_neg i10]
      by_cases h3 : a = b
      · rw [if_pos h3]; simp [h3]
      · rw [if_neg h3]; simp [h1, h2, h3]
    · rw [if_neg h2, if_pos rfl]; simp [h2]
  · rw [if_neg h1, if_pos rfl]; simp [h1]
theorem m_areTwo {M : Mem} {P : Nat} (hP : P < 2 ^ 31) (h : M.1 0 2 = nI P) (a b : Int32) : X_Model_areTwo fuel a b M = some (if vN a P && vN b P && decide (a ≠ b) then 1 else 0, M) := by
  unfold X_Model_areTwo
  rw [m_isOne fuel hP h, bd_ret]
  by_cases h1 : vN a P = true
  · rw [if_pos h1, if_neg i10, m_isOne fuel hP h, bd_ret]
    by_cases h2 : vN b P = true
    · rw [if_pos h2, if_neg i10]
      by_cases h3 : a = b
      · rw [if_pos h3]; simp [h3]
      · rw [if_neg h3]; simp [h1, h2, h3]
    · rw [if_neg h2, if_pos rfl]; simp [h2]
  · rw [if_neg h1, if_pos rfl]; simp [h1]
def two (a b : Int32) (P : Nat) : Bool := vN a P && vN b P && decide (a ≠ b)
theorem two_y {a b : Int32} {P : Nat} (hP : P < 2 ^ 31) (h : two a b P = true) : pN a < P ∧ pN b < P ∧ pN a ≠ pN b ∧ a = nI (pN a) ∧ b = nI (pN b) := by
  unfold two at h
  simp only [Bool.and_eq_true, decide_eq_true_eq] at h
  obtain ⟨h1, h2⟩ := vN_y hP h.1.1
  obtain ⟨h3, h4⟩ := vN_y hP h.1.2
  exact ⟨h1, h3, fun q => h.2 (by rw [h2, h4, q]), h2, h4⟩
def shkU (a b : Nat) (S : Ab) : Int32 × Ab := if S.A.gl.testBit a || S.A.gl.testBit b then (-4, S) else (nI (handF S.R S.A.gl (prN a b) S.A.W a).length, S.setA (S.A.setW (handF S.R S.A.gl (prN a b) S.A.W)))
theorem pr_P {a b P : Nat} (ha : a < P) (hb : b < P) (hP : P ≤ 6) (h : a ≠ b) : prN a b < 15 ∧ gre (prN a b) < P := by
  obtain ⟨h1, -, h3⟩ := pr_ok a (by omega) b (by omega) h
  refine ⟨h1, ?_⟩
  rw [h3]
  exact Nat.max_lt.mpr ⟨ha, hb⟩
theorem sim_shake (a0 : Int32) (a1 : Int32) : Sm (fun M => X_ShakeHands_shake fuel a0 a1 M) (fun M => X_Model_shake fuel a0 a1 M) := by
  refine Sm_u (u := fun S => if two a0 a1 S.R.1 then shkU (pN a0) (pN a1) S else (-1, S)) (fun M S hS hM => ?_) (fun M S hS hM => ?_) (fun S hS => ?_)
  · dsimp only
    unfold X_ShakeHands_shake
    rw [x_areTwo hM.c.1, bd_ret]
    by_cases h : two a0 a1 S.R.1 = true
    · obtain ⟨h1, h2, h3, h4, h5⟩ := two_y hS.p31 h
      have h6 := hS.p6
      have hg := hS.gl
      rw [if_pos h]
      unfold two at h
      rw [if_pos h, if_neg i10]
      generalize pN a0 = a at *
      generalize pN a1 = b at *
      subst h4 h5
      obtain ⟨hp, hp2⟩ := pr_P h1 h2 h6 h3
      rw [hM.a.1, bit_or2 (by omega) (by omega) (by omega)]
      unfold shkU
      by_cases e : (S.A.gl.testBit a || S.A.gl.testBit b) = true
      · rw [if_pos e, if_pos e, if_neg i10]
        exact ⟨M, rfl, hM⟩
      · rw [if_neg e, if_neg e, if_pos rfl, x_pairOf fuel (by omega) (by omega) h3, bd_ret]
        obtain ⟨r, M', g1, g2, g3, -⟩ := circ_meet fuel (by decide) hS.hR hM.c (rows := 17) (by decide) hS.hA.1 hM.a.2.2.1 (show S.A.gl < 2 ^ 31 by omega) hp
        have hW' := hS.hA.1.hand hS.hR S.A.gl (prN a b) a
        rw [g1, bd_ret, gd_in (vp_in_nI (by omega) (by decide)), nI_clamp (by omega), g3 a (by omega), row_size fuel hW'.1 hW'.2, bd_ret]
        exact ⟨M', rfl, hM.newW g2 g3⟩
    · rw [if_neg h]
      unfold two at h
      rw [if_neg h, if_pos rfl]
      exact ⟨M, rfl, hM⟩
  · dsimp only
    unfold X_Model_shake
    rw [m_areTwo hS.p31 hM.c.1, bd_ret]
    by_cases h : two a0 a1 S.R.1 = true
    · obtain ⟨h1, h2, h3, h4, h5⟩ := two_y hS.p31 h
      have h6 := hS.p6
      have hg := hS.gl
      rw [if_pos h]
      unfold two at h
      rw [if_pos h, if_neg i10]
      generalize pN a0 = a at *
      generalize pN a1 = b at *
      subst h4 h5
      obtain ⟨hp, hp2⟩ := pr_P h1 h2 h6 h3
      have ga := hM.a.2.1 a (by omega)
      have gb := hM.a.2.1 b (by omega)
      rw [Nat.zero_add] at ga gb
      rw [show (60 : Int32) = nI 60 from rfl, nI_add, nI_add, gd_in (vp_in_nI (by omega) (by decide)), nI_clamp (by omega), nI_clamp (by omega), ga, gb]
      unfold shkU
      have hb1 : ∀ c : Bool, nI (if c then 1 else 0) = 1 ↔ c = true := fun c => by cases c <;> decide
      by_cases e : S.A.gl.testBit a = true
      · rw [if_pos ((hb1 _).mpr e), if_pos (by simp [e])]
        exact ⟨M, rfl, hM⟩
      · rw [if_neg (fun q => e ((hb1 _).mp q)), gd_in (vp_in_nI (by omega) (by decide))]
        by_cases e2 : S.A.gl.testBit b = true
        · rw [if_pos ((hb1 _).mpr e2), if_pos (by simp [e2])]
          exact ⟨M, rfl, hM⟩
        · rw [if_neg (fun q => e2 ((hb1 _).mp q)), if_neg (by simp [e, e2]), m_pairOf fuel (by omega) (by omega) h3, bd_ret]
          obtain ⟨M', g1, g2, g3⟩ := m_shakesNow hS hM hp
          have := (g3 a (by omega)).1
          rw [Nat.zero_add] at this
          rw [g1, bd_ret, show (10 : Int32) = nI 10 from rfl, pk_mul, gd_in (vp_in_nI (by omega) (by decide)), nI_clamp (by omega), this]
          exact ⟨M', rfl, g2⟩
    · rw [if_neg h]
      unfold two at h
      rw [if_neg h, if_pos rfl]
      exact ⟨M, rfl, hM⟩
  · split
    · next h =>
      obtain ⟨h1, h2, h3, h4, h5⟩ := two_y hS.p31 h
      unfold shkU
      split
      · exact hS
      · obtain ⟨hp, hp2⟩ := pr_P h1 h2 hS.p6 h3
        exact hS.newA (hS.hA.setW (hS.hA.1.hand hS.hR _ _) (handF_end hp hp2 hS.hA.2.1))
    · exact hS
end
section
/-! CALLS: feast, after, lost, told, days, lives -/
theorem x_isFeast {M : Mem} {k : Nat} (hk : k < 100) (h : M.1 11 5 = nI k) (p : Int32) : X_ShakeHands_isFeastPart fuel p M = some (if vN p (k + 1) then 1 else 0, M) := by
  unfold X_ShakeHands_isFeastPart
  rw [h]
  have e : nI k < p ↔ nI (k + 1) ≤ p := by
    rw [Int32.lt_iff_toInt_lt, Int32.le_iff_toInt_le, nI_toInt (by omega), nI_toInt (by omega)]
    omega
  by_cases h1 : nI k < p
  · have h2 := e.mp h1
    have h3 := x_in (P := k + 1) (p := p) (some ((0 : Int32), M)) (some ((1 : Int32), M))
    rw [if_pos h2] at h3
    rw [if_pos h1, h3]
    split <;> rfl
  · have h2 : ¬ nI (k + 1) ≤ p := fun q => h1 (e.mpr q)
    have h3 := x_in (P := k + 1) (p := p) (some ((0 : Int32), M)) (some ((1 : Int32), M))
    rw [if_neg h2] at h3
    rw [if_neg h1, h3]
    split <;> rfl
theorem Ok.hl {S : Ab} (h : Ok S) : S.R.2.2.2.1.length ≤ 16 := h.hR.2.2.2.2.2.2.1
theorem m_isFeast {M : Mem} {S : Ab} (hS : Ok S) (h : MA M S) (p : Int32) : X_Model_in fuel p.toInt64 0 ((M.1 0 5 : Int32).toInt64) M = some (if vN p (S.R.2.2.2.1.length + 1) then 1 else 0, M) := by
  have h16 := hS.hl
  have := m_inV fuel (P := S.R.2.2.2.1.length + 1) (by omega) p M
  rw [show nI (S.R.2.2.2.1.length + 1) - 1 = nI S.R.2.2.2.1.length from pk_sub (b := 1) (by omega)] at this
  rw [h.c.2.2.2.1]
  exact this
theorem m_worn0 {M N : Mem} {S : Ab} (hS : Ok S) (h : MA M S) (hN : Fr (mh 0) M N) : X_Model_worn fuel N = some (nI S.A.gl, N) := by
  have hG : GlM N 60 S.A.gl := by
    have := h.a.2.1
    rw [Nat.zero_add] at this
    exact this.fr hN (fun k _ _ => mh_1 k)
  exact m_worn fuel (by decide) (h.c.mh hN).1 hS.p6 hS.hA.2.2.1 hG
theorem m_feasts {M N : Mem} {S : Ab} (hS : Ok S) (h : MA M S) (hN : Fr (mh 0) M N) {g : Nat} (hg : g < 2 ^ 31) {k : Nat} (hk : k ≤ S.R.2.2.2.1.length) : ∃ M', X_Model_feasts fuel (nI k) (nI g) N = some ((), M') ∧ Fr (mh 0) M M' ∧ LyM M' 15 (60 * 0) (feastF S.R g (S.R.2.2.2.1.take k) S.A.W) := by
  have h16 := hS.hl
  unfold X_Model_feasts
  rw [show (0 : Int32) = nI 0 from rfl, m0_b, bd_ret]
  have f1 : Fr (mh 0) M (m0 N) := hN.trans (m0_fr N)
  have hly : LyM (m0 N) 15 0 S.A.W := (h.a.1.fr hS.hA.1 hN (fun k _ _ => mh_1 k)).cp hS.hA.1
  obtain ⟨M1, g1, g2, g3⟩ := m_feasts_L fuel (by decide) hS.hR hg hk k 0 fuel (m0 N) S.A.W rfl (Nat.zero_le _) (by have := fu; omega) (h.c.mh f1) hS.hA.1 hly
  exact ⟨M1, g1, f1.trans g2, g3⟩
theorem m_anyNow {M : Mem} {S : Ab} (hS : Ok S) (h : MA M S) : X_Model_anyNow fuel M = some (nI (anyN S.A.W S.R.1), m0 M) := by
  unfold X_Model_anyNow
  have hc : MC (m0 M) S.R := h.c.mh (m0_fr M)
  rw [show (0 : Int32) = nI 0 from rfl, m0_b, bd_ret, m_anyIn fuel (by decide) hc.1 hS.p6 (by decide) hS.hA.1 (m0_ly hS h), bd_ret]
theorem x_known {M : Mem} {S : Ab} (hS : Ok S) (h : XA M S) : X_Minds_known fuel 17 M = some (nI (anyN S.A.W S.R.1), M) := by
  rw [minds_known fuel (by decide) hS.hA.1 h.a.2.2.1, anyN_6 hS.p6 hS.hA.2.1]
theorem OkW.feastEnd {S : Ab} (hS : Ok S) (g k : Nat) : OkW (feastF S.R g (S.R.2.2.2.1.take k) S.A.W) ∧ ∀ p, S.R.1 ≤ p → feastF S.R g (S.R.2.2.2.1.take k) S.A.W p = [] :=
  ⟨OkW.feast hS.hR _ hS.hA.1, feastF_end _ (fun x hx => hS.hR.2.2.2.2.2.2.2.1 x (List.mem_of_mem_take hx)) hS.hA.2.1⟩
def fstU (k : Nat) (S : Ab) : Int32 × Ab := let V := feastF S.R S.A.gl (S.R.2.2.2.1.take k) S.A.W; (nI (anyN S.A.W S.R.1) &&& (nI (anyN V S.R.1) ^^^ (-1)), S.setA (S.A.setW V))
theorem sim_feast (a0 : Int32) : Sm (fun M => X_ShakeHands_feast fuel a0 M) (fun M => X_Model_feast fuel a0 M) := by
  refine Sm_u (u := fun S => if vN a0 (S.R.2.2.2.1.length + 1) then fstU (pN a0) S else (-1, S)) (fun M S hS hM => ?_) (fun M S hS hM => ?_) (fun S hS => ?_)
  · dsimp only
    have h16 := hS.hl
    have hg := hS.gl
    unfold X_ShakeHands_feast
    rw [x_isFeast (by omega) hM.c.2.2.2.1, bd_ret]
    by_cases h : vN a0 (S.R.2.2.2.1.length + 1) = true
    · obtain ⟨h1, h2⟩ := vN_y (by omega) h
      rw [if_pos h, if_pos h, if_neg i10]
      generalize pN a0 = k at *
      subst h2
      obtain ⟨M', g1, g2, g3⟩ := circ_celebrate fuel (by decide) hS.hR (rows := 17) (by decide) (show S.A.gl < 2 ^ 31 by omega) (k := k) (by omega) hM.c hS.hA.1 hM.a.2.2.1
      obtain ⟨w1, w2⟩ := OkW.feastEnd hS S.A.gl k
      rw [x_known hS hM, bd_ret, hM.a.1, g1, bd_ret, minds_known fuel (by decide) w1 g3, anyN_6 hS.p6 w2, bd_ret]
      exact ⟨M', rfl, hM.newW g2 g3⟩
    · rw [if_neg h, if_neg h, if_pos rfl]
      exact ⟨M, rfl, hM⟩
  · dsimp only
    have h16 := hS.hl
    have hg := hS.gl
    unfold X_Model_feast
    rw [m_isFeast hS hM, bd_ret]
    by_cases h : vN a0 (S.R.2.2.2.1.length + 1) = true
    · obtain ⟨h1, h2⟩ := vN_y (by omega) h
      rw [if_pos h, if_pos h, if_neg i10]
      generalize pN a0 = k at *
      subst h2
      obtain ⟨M', g1, g2, g3⟩ := m_feasts hS hM (m0_fr M) (show S.A.gl < 2 ^ 31 by omega) (k := k) (by omega)
      obtain ⟨w1, w2⟩ := OkW.feastEnd hS S.A.gl k
      have hf := m_fin hS hM g2 w1 g3
      have hly : LyM (cpI M' 15 (60 * 0) 1 0 60) 15 (60 * 0) (feastF S.R S.A.gl (S.R.2.2.2.1.take k) S.A.W) := g3.fr w1 (P := rg 1 0 60) (Fr.cpI (fun k h1 h2 => ⟨rfl, h1, h2⟩)) (fun k _ _ => by unfold rg; omega)
      have h0 := hf.c.1
      rw [m_anyNow hS hM, bd_ret, m_worn0 hS hM (m0_fr M), bd_ret, g1, bd_ret, show (0 : Int32) = nI 0 from rfl, m_becomes fuel (by decide) (by decide), bd_ret, m_anyIn fuel (by decide) h0 hS.p6 (by decide) w1 hly, bd_ret]
      exact ⟨_, rfl, hf⟩
    · rw [if_neg h, if_neg h, if_pos rfl]
      exact ⟨M, rfl, hM⟩
  · split
    · next h =>
      obtain ⟨w1, w2⟩ := OkW.feastEnd hS S.A.gl (pN a0)
      exact hS.newA (hS.hA.setW w1 w2)
    · exact hS
theorem x_trial {M : Mem} {W : Nat → List Nat} (h : rowsAt M 17 W) : X_ShakeHands_takeTrial fuel M = some ((), cpL M 17 0 49 0 6) ∧ rowsAt (cpL M 17 0 49 0 6) 49 W ∧ Off [49] M (cpL M 17 0 49 0 6) := by
  refine ⟨?_, fun p hp => ?_, Off.cpL (by decide)⟩
  · unfold X_ShakeHands_takeTrial gc
    rw [if_neg (by decide)]
    rfl
  · show (if 49 = 49 ∧ 0 ≤ p ∧ p < 0 + 6 then M.2 17 (0 + (p - 0)) else _) = _
    rw [if_pos ⟨rfl, by omega, by omega⟩, Nat.zero_add, Nat.sub_zero]
    exact h p hp
theorem xS_of {L : List Nat} {M M' : Mem} (h : Off L M M') (hl : ∀ a ∈ L, a ∈ xS) : Off xS M M' := h.mono hl
theorem sim_after (a0 : Int32) (a1 : Int32) : Sm (fun M => X_ShakeHands_after fuel a0 a1 M) (fun M => X_Model_after fuel a0 a1 M) := by
  refine Sm_q (q := fun S => if vN a0 (S.R.2.2.2.1.length + 1) then (if vN a1 S.R.1 then nI (knN (feastF S.R S.A.gl (S.R.2.2.2.1.take (pN a0)) S.A.W (pN a1))) else -1) else -1) (fun M S hS hM => ?_) (fun M S hS hM => ?_)
  · dsimp only
    have h16 := hS.hl
    have hg := hS.gl
    have h6 := hS.p6
    unfold X_ShakeHands_after
    rw [x_isFeast (by omega) hM.c.2.2.2.1, bd_ret]
    by_cases h : vN a0 (S.R.2.2.2.1.length + 1) = true
    · obtain ⟨h1, h2⟩ := vN_y (by omega) h
      rw [if_pos h, if_pos h, if_neg i10, x_isOne fuel hM.c.1, bd_ret]
      by_cases h' : vN a1 S.R.1 = true
      · obtain ⟨h3, h4⟩ := vN_y (by omega) h'
        rw [if_pos h', if_pos h', if_neg i10]
        generalize pN a0 = k at *
        generalize pN a1 = p at *
        subst h2 h4
        obtain ⟨t1, t2, t3⟩ := x_trial hM.a.2.2.1
        have hM1 := hM.off (xS_of t3 (by decide))
        obtain ⟨M', g1, g2, g3⟩ := circ_celebrate fuel (by decide) hS.hR (rows := 49) (by decide) (show S.A.gl < 2 ^ 31 by omega) (k := k) (by omega) hM1.c hS.hA.1 t2
        obtain ⟨w1, w2⟩ := OkW.feastEnd hS S.A.gl k
        rw [t1, bd_ret, hM1.a.1, g1, bd_ret, gd_in (vp_in_nI (by omega) (by decide)), nI_clamp (by omega), g3 p (by omega), row_known fuel (w1 p).1 (w1 p).2, bd_ret]
        exact ⟨M', rfl, xS_of (t3.mono (S' := [15, 49]) (by decide) |>.trans g2) (by decide)⟩
      · rw [if_neg h', if_neg h', if_pos rfl]
        exact ⟨M, rfl, Off.rf⟩
    · rw [if_neg h, if_neg h, if_pos rfl]
      exact ⟨M, rfl, Off.rf⟩
  · dsimp only
    have h16 := hS.hl
    have hg := hS.gl
    have h6 := hS.p6
    unfold X_Model_after
    rw [m_isFeast hS hM, bd_ret]
    by_cases h : vN a0 (S.R.2.2.2.1.length + 1) = true
    · obtain ⟨h1, h2⟩ := vN_y (by omega) h
      rw [if_pos h, if_pos h, if_neg i10, m_isOne fuel hS.p31 hM.c.1, bd_ret]
      by_cases h' : vN a1 S.R.1 = true
      · obtain ⟨h3, h4⟩ := vN_y (by omega) h'
        rw [if_pos h', if_pos h', if_neg i10]
        generalize pN a0 = k at *
        generalize pN a1 = p at *
        subst h2 h4
        obtain ⟨M', g1, g2, g3⟩ := m_feasts hS hM (Fr.rf (P := mh 0)) (show S.A.gl < 2 ^ 31 by omega) (k := k) (by omega)
        obtain ⟨w1, w2⟩ := OkW.feastEnd hS S.A.gl k
        rw [m_worn0 hS hM (Fr.rf (P := mh 0)), bd_ret, g1, bd_ret, show (0 : Int32) = nI 0 from rfl, m_knowsIn fuel (by decide) (by decide) (by omega) (g3 p (by omega)) (w1 p).1 (w1 p).2, bd_ret]
        exact ⟨M', rfl, mh_S g2⟩
      · rw [if_neg h', if_neg h', if_pos rfl]
        exact ⟨M, rfl, Fr.rf⟩
    · rw [if_neg h, if_neg h, if_pos rfl]
      exact ⟨M, rfl, Fr.rf⟩
-- hand by hand
def lstF (R : Rl) (g t : Nat) : List Nat → Nat → (Nat → List Nat) → Int32
  | [], _, _ => -4
  | h :: hs, i, W => if whoN (handF R g h W) t R.1 = 0 then nI i else lstF R g t hs (i + 1) (handF R g h W)
def tldF (R : Rl) (g p t : Nat) : List Nat → Nat → (Nat → List Nat) → Int32
  | [], _, _ => -4
  | h :: hs, i, W => if t ∈ handF R g h W p then nI i else tldF R g p t hs (i + 1) (handF R g h W)
theorem who0 {W : Nat → List Nat} {t P : Nat} (hP : P ≤ 6) : nI (whoN W t P) = 0 ↔ whoN W t P = 0 := by
  have h1 := whoN_lt W t P
  have h2 : 2 ^ P ≤ 2 ^ 6 := Nat.pow_le_pow_right (by decide) hP
  exact nI_eq (b := 0) (by omega) (by decide)
theorem sim_lost (a0 : Int32) : Sm (fun M => X_ShakeHands_lost fuel a0 M) (fun M => X_Model_lost fuel a0 M) := by
  refine Sm_q (q := fun S => if vN a0 16 then (if whoN S.A.W (pN a0) S.R.1 = 0 then -2 else lstF S.R S.A.gl (pN a0) S.R.2.2.2.1 0 S.A.W) else -1) (fun M S hS hM => ?_) (fun M S hS hM => ?_)
  · dsimp only
    have h16 := hS.hl
    have hg := hS.gl
    have h6 := hS.p6
    unfold X_ShakeHands_lost
    rw [x_isThing, bd_ret]
    by_cases h : vN a0 16 = true
    · obtain ⟨h1, h2⟩ := vN_y (by decide) h
      rw [if_pos h, if_pos h, if_neg i10]
      generalize pN a0 = t at *
      subst h2
      rw [x_whoNow hS hM h1, bd_ret]
      by_cases e : whoN S.A.W t S.R.1 = 0
      · rw [if_pos ((who0 h6).mpr e), if_pos e]
        exact ⟨M, rfl, Off.rf⟩
      · rw [if_neg (fun q => e ((who0 h6).mp q)), if_neg e]
        obtain ⟨t1, t2, t3⟩ := x_trial hM.a.2.2.1
        rw [t1, bd_ret]
        have key : ∀ (d i f : Nat) (N : Mem) (W : Nat → List Nat), S.R.2.2.2.1.length - i = d → i ≤ S.R.2.2.2.1.length → d < f → XA N S → rowsAt N 49 W → OkW W → (∀ p, S.R.1 ≤ p → W p = []) → ∃ M', X_ShakeHands_lost_L32 fuel (nI t) f (nI i) N = some (lstF S.R S.A.gl t (S.R.2.2.2.1.drop i) i W, M') ∧ Off xS N M' := by
          intro d
          induction d with
          | zero =>
            intro i f N W g1 g2 g3 hN hr hW hE
            obtain ⟨f, rfl⟩ : ∃ g, f = g + 1 := ⟨f - 1, by omega⟩
            refine ⟨N, ?_, Off.rf⟩
            show (if N.1 11 5 ≤ nI i then _ else _) = _
            rw [hN.c.2.2.2.1, if_pos (nI_le (by omega) (by omega)), List.drop_eq_nil_of_le (by omega)]
            rfl
          | succ d ih =>
            intro i f N W g1 g2 g3 hN hr hW hE
            obtain ⟨f, rfl⟩ : ∃ g, f = g + 1 := ⟨f - 1, by omega⟩
            have hi : i < S.R.2.2.2.1.length := by omega
            have e2 := hN.c.2.2.2.2.2.2.1 i _ (List.getElem?_eq_getElem hi)
            have hx := hS.hR.2.2.2.2.2.2.2.1 _ (List.getElem_mem hi)
            obtain ⟨r, M1, k1, k2, k3, -⟩ := circ_meet fuel (by decide) hS.hR hN.c (rows := 49) (by decide) hW hr (show S.A.gl < 2 ^ 31 by omega) hx.1
            have hW' := hW.hand hS.hR S.A.gl S.R.2.2.2.1[i]
            have hE' := handF_end (R := S.R) (g := S.A.gl) hx.1 hx.2 hE
            have k4 : Off xS N M1 := xS_of k2 (by decide)
            have un : X_ShakeHands_lost_L32 fuel (nI t) (f + 1) (nI i) N = if whoN (handF S.R S.A.gl S.R.2.2.2.1[i] W) t S.R.1 = 0 then some (nI i, M1) else X_ShakeHands_lost_L32 fuel (nI t) f (nI (i + 1)) M1 := by
              show (if N.1 11 5 ≤ nI i then _ else gd (nI i) 16 (bd (X_Circle_meet fuel 49 (N.1 16 1) (N.1 13 (nI i).toNatClampNeg) N) fun r7 M8 => bd (X_Minds_knowers fuel 49 (nI t) M8) fun r9 M10 => (if r9 = 0 then some (nI i, M10) else X_ShakeHands_lost_L32 fuel (nI t) f (nI i + 1) M10))) = _
              rw [hN.c.2.2.2.1, if_neg (nI_ge (by omega) (by omega)), gd_in (vp_in_nI (by omega) (by decide)), nI_clamp (by omega), e2, hN.a.1, k1, bd_ret, minds_knowers fuel (by decide) hW' k3 h1, whoN_6 h6 hE', bd_ret, nI_1]
              by_cases e3 : whoN (handF S.R S.A.gl S.R.2.2.2.1[i] W) t S.R.1 = 0
              · rw [if_pos ((who0 h6).mpr e3), if_pos e3]
              · rw [if_neg (fun q => e3 ((who0 h6).mp q)), if_neg e3]
            rw [un, List.drop_eq_getElem_cons hi]
            unfold lstF
            by_cases e3 : whoN (handF S.R S.A.gl S.R.2.2.2.1[i] W) t S.R.1 = 0
            · rw [if_pos e3, if_pos e3]
              exact ⟨M1, rfl, k4⟩
            · rw [if_neg e3, if_neg e3]
              obtain ⟨M2, q1, q2⟩ := ih (i + 1) f M1 _ (by omega) (by omega) (by omega) (hN.off k4) k3 hW' hE'
              exact ⟨M2, q1, k4.trans q2⟩
        obtain ⟨M', q1, q2⟩ := key _ 0 fuel (cpL M 17 0 49 0 6) S.A.W rfl (Nat.zero_le _) (by have := fu; omega) (hM.off (xS_of t3 (by decide))) t2 hS.hA.1 hS.hA.2.1
        exact ⟨M', q1, (xS_of t3 (by decide)).trans q2⟩
    · rw [if_neg h, if_neg h, if_pos rfl]
      exact ⟨M, rfl, Off.rf⟩
  · dsimp only
    have h16 := hS.hl
    have hg := hS.gl
    have h6 := hS.p6
    unfold X_Model_lost
    rw [m_isThing, bd_ret]
    by_cases h : vN a0 16 = true
    · obtain ⟨h1, h2⟩ := vN_y (by decide) h
      rw [if_pos h, if_pos h, if_neg i10]
      generalize pN a0 = t at *
      subst h2
      rw [m_whoNow hS hM h1, bd_ret]
      by_cases e : whoN S.A.W t S.R.1 = 0
      · rw [if_pos ((who0 h6).mpr e), if_pos e]
        exact ⟨_, rfl, mh_S (m0_fr M)⟩
      · rw [if_neg (fun q => e ((who0 h6).mp q)), if_neg e]
        have key : ∀ (d i f : Nat) (N : Mem) (W : Nat → List Nat), S.R.2.2.2.1.length - i = d → i ≤ S.R.2.2.2.1.length → d < f → Fr (mh 0) M N → LyM N 15 (60 * 0) W → OkW W → ∃ M', X_Model_lost_L22 fuel (nI t) f (nI i) N = some (lstF S.R S.A.gl t (S.R.2.2.2.1.drop i) i W, M') ∧ Fr (mh 0) N M' := by
          intro d
          induction d with
          | zero =>
            intro i f N W g1 g2 g3 hN hr hW
            obtain ⟨f, rfl⟩ : ∃ g, f = g + 1 := ⟨f - 1, by omega⟩
            refine ⟨N, ?_, Fr.rf⟩
            show (if N.1 0 5 ≤ nI i then _ else _) = _
            rw [(hM.c.mh hN).2.2.2.1, if_pos (nI_le (by omega) (by omega)), List.drop_eq_nil_of_le (by omega)]
            rfl
          | succ d ih =>
            intro i f N W g1 g2 g3 hN hr hW
            obtain ⟨f, rfl⟩ : ∃ g, f = g + 1 := ⟨f - 1, by omega⟩
            have hi : i < S.R.2.2.2.1.length := by omega
            have hc := hM.c.mh hN
            have e2 := hc.2.2.2.2.2.2.1 i _ (List.getElem?_eq_getElem hi)
            have hx := hS.hR.2.2.2.2.2.2.2.1 _ (List.getElem_mem hi)
            obtain ⟨M1, k1, k2, k3⟩ := m_shakes fuel (by decide) hS.hR hc (L := 0) (by decide) hW hr (show S.A.gl < 2 ^ 31 by omega) hx.1
            have hW' := hW.hand hS.hR S.A.gl S.R.2.2.2.1[i]
            have un : X_Model_lost_L22 fuel (nI t) (f + 1) (nI i) N = if whoN (handF S.R S.A.gl S.R.2.2.2.1[i] W) t S.R.1 = 0 then some (nI i, M1) else X_Model_lost_L22 fuel (nI t) f (nI (i + 1)) M1 := by
              show (if N.1 0 5 ≤ nI i then _ else gd (nI i) 16 (bd (X_Model_worn fuel N) fun r5 M6 => bd (X_Model_shakes fuel (nI 0) (N.1 4 (nI i).toNatClampNeg) r5 M6) fun _ M8 => bd (X_Model_whoIn fuel (nI 0) (nI t) M8) fun r9 M10 => (if r9 = 0 then some (nI i, M10) else X_Model_lost_L22 fuel (nI t) f (nI i + 1) M10))) = _
              rw [hc.2.2.2.1, if_neg (nI_ge (by omega) (by omega)), gd_in (vp_in_nI (by omega) (by decide)), nI_clamp (by omega), e2, m_worn0 hS hM hN, bd_ret, k1, bd_ret, m_whoIn fuel (by decide) (hc.mh k2).1 h6 (by decide) h1 hW' k3, bd_ret, nI_1]
              by_cases e3 : whoN (handF S.R S.A.gl S.R.2.2.2.1[i] W) t S.R.1 = 0
              · rw [if_pos ((who0 h6).mpr e3), if_pos e3]
              · rw [if_neg (fun q => e3 ((who0 h6).mp q)), if_neg e3]
            rw [un, List.drop_eq_getElem_cons hi]
            unfold lstF
            by_cases e3 : whoN (handF S.R S.A.gl S.R.2.2.2.1[i] W) t S.R.1 = 0
            · rw [if_pos e3, if_pos e3]
              exact ⟨M1, rfl, k2⟩
            · rw [if_neg e3, if_neg e3]
              obtain ⟨M2, q1, q2⟩ := ih (i + 1) f M1 _ (by omega) (by omega) (by omega) (hN.trans k2) k3 hW'
              exact ⟨M2, q1, k2.trans q2⟩
        obtain ⟨M', q1, q2⟩ := key _ 0 fuel (m0 M) S.A.W rfl (Nat.zero_le _) (by have := fu; omega) (m0_fr M) (m0_ly hS hM) hS.hA.1
        exact ⟨M', q1, mh_S ((m0_fr M).trans q2)⟩
    · rw [if_neg h, if_neg h, if_pos rfl]
      exact ⟨M, rfl, Fr.rf⟩
end
section
/-! CALLS: told, days, lives -/
theorem sim_told (a0 : Int32) (a1 : Int32) : Sm (fun M => X_ShakeHands_told fuel a0 a1 M) (fun M => X_Model_told fuel a0 a1 M) := by
  refine Sm_q (q := fun S => if vN a0 S.R.1 then (if vN a1 16 then (if pN a1 ∈ S.A.W (pN a0) then -2 else tldF S.R S.A.gl (pN a0) (pN a1) S.R.2.2.2.1 0 S.A.W) else -1) else -1) (fun M S hS hM => ?_) (fun M S hS hM => ?_)
  · dsimp only
    have h16 := hS.hl
    have hg := hS.gl
    have h6 := hS.p6
    unfold X_ShakeHands_told
    rw [x_isOne fuel hM.c.1, bd_ret]
    by_cases h : vN a0 S.R.1 = true
    · obtain ⟨h1, h2⟩ := vN_y hS.p31 h
      rw [if_pos h, if_pos h, if_neg i10, x_isThing, bd_ret]
      by_cases h' : vN a1 16 = true
      · obtain ⟨h3, h4⟩ := vN_y (by decide) h'
        rw [if_pos h', if_pos h', if_neg i10]
        generalize pN a0 = p at *
        generalize pN a1 = t at *
        subst h2 h4
        rw [x_knowsNow hS hM h1 h3, bd_ret]
        by_cases e : t ∈ S.A.W p
        · rw [if_pos e, if_pos e, if_neg i10]
          exact ⟨M, rfl, Off.rf⟩
        · rw [if_neg e, if_neg e, if_pos rfl]
          obtain ⟨t1, t2, t3⟩ := x_trial hM.a.2.2.1
          rw [t1, bd_ret]
          have key : ∀ (d i f : Nat) (N : Mem) (W : Nat → List Nat), S.R.2.2.2.1.length - i = d → i ≤ S.R.2.2.2.1.length → d < f → XA N S → rowsAt N 49 W → OkW W → ∃ M', X_ShakeHands_told_L35 fuel (nI p) (nI t) f (nI i) N = some (tldF S.R S.A.gl p t (S.R.2.2.2.1.drop i) i W, M') ∧ Off xS N M' := by
            intro d
            induction d with
            | zero =>
              intro i f N W g1 g2 g3 hN hr hW
              obtain ⟨f, rfl⟩ : ∃ g, f = g + 1 := ⟨f - 1, by omega⟩
              refine ⟨N, ?_, Off.rf⟩
              show (if N.1 11 5 ≤ nI i then _ else _) = _
              rw [hN.c.2.2.2.1, if_pos (nI_le (by omega) (by omega)), List.drop_eq_nil_of_le (by omega)]
              rfl
            | succ d ih =>
              intro i f N W g1 g2 g3 hN hr hW
              obtain ⟨f, rfl⟩ : ∃ g, f = g + 1 := ⟨f - 1, by omega⟩
              have hi : i < S.R.2.2.2.1.length := by omega
              have e2 := hN.c.2.2.2.2.2.2.1 i _ (List.getElem?_eq_getElem hi)
              have hx := hS.hR.2.2.2.2.2.2.2.1 _ (List.getElem_mem hi)
              obtain ⟨r, M1, k1, k2, k3, -⟩ := circ_meet fuel (by decide) hS.hR hN.c (rows := 49) (by decide) hW hr (show S.A.gl < 2 ^ 31 by omega) hx.1
              have hW' := hW.hand hS.hR S.A.gl S.R.2.2.2.1[i]
              have k4 : Off xS N M1 := xS_of k2 (by decide)
              have un : X_ShakeHands_told_L35 fuel (nI p) (nI t) (f + 1) (nI i) N = if t ∈ handF S.R S.A.gl S.R.2.2.2.1[i] W p then some (nI i, M1) else X_ShakeHands_told_L35 fuel (nI p) (nI t) f (nI (i + 1)) M1 := by
                show (if N.1 11 5 ≤ nI i then _ else gd (nI i) 16 (bd (X_Circle_meet fuel 49 (N.1 16 1) (N.1 13 (nI i).toNatClampNeg) N) fun r9 M10 => gd (nI p) 6 (bd (X_Row_knowsIt fuel (M10.2 49 (nI p).toNatClampNeg) (nI t) M10) fun r11 M12 => (if r11 = 0 then X_ShakeHands_told_L35 fuel (nI p) (nI t) f (nI i + 1) M12 else some (nI i, M12))))) = _
                rw [hN.c.2.2.2.1, if_neg (nI_ge (by omega) (by omega)), gd_in (vp_in_nI (by omega) (by decide)), nI_clamp (by omega), e2, hN.a.1, k1, bd_ret, gd_in (vp_in_nI (by omega) (by decide)), nI_clamp (by omega), k3 p (by omega), row_knowsIt fuel (hW' p).1 (hW' p).2 h3, bd_ret, nI_1]
                by_cases e3 : t ∈ handF S.R S.A.gl S.R.2.2.2.1[i] W p
                · rw [if_pos e3, if_pos e3, if_neg i10]
                · rw [if_neg e3, if_neg e3, if_pos rfl]
              rw [un, List.drop_eq_getElem_cons hi]
              unfold tldF
              by_cases e3 : t ∈ handF S.R S.A.gl S.R.2.2.2.1[i] W p
              · rw [if_pos e3, if_pos e3]
                exact ⟨M1, rfl, k4⟩
              · rw [if_neg e3, if_neg e3]
                obtain ⟨M2, q1, q2⟩ := ih (i + 1) f M1 _ (by omega) (by omega) (by omega) (hN.off k4) k3 hW'
                exact ⟨M2, q1, k4.trans q2⟩
          obtain ⟨M', q1, q2⟩ := key _ 0 fuel (cpL M 17 0 49 0 6) S.A.W rfl (Nat.zero_le _) (by have := fu; omega) (hM.off (xS_of t3 (by decide))) t2 hS.hA.1
          exact ⟨M', q1, (xS_of t3 (by decide)).trans q2⟩
      · rw [if_neg h', if_neg h', if_pos rfl]
        exact ⟨M, rfl, Off.rf⟩
    · rw [if_neg h, if_neg h, if_pos rfl]
      exact ⟨M, rfl, Off.rf⟩
  · dsimp only
    have h16 := hS.hl
    have hg := hS.gl
    have h6 := hS.p6
    unfold X_Model_told
    rw [m_isOne fuel hS.p31 hM.c.1, bd_ret]
    by_cases h : vN a0 S.R.1 = true
    · obtain ⟨h1, h2⟩ := vN_y hS.p31 h
      rw [if_pos h, if_pos h, if_neg i10, m_isThing, bd_ret]
      by_cases h' : vN a1 16 = true
      · obtain ⟨h3, h4⟩ := vN_y (by decide) h'
        rw [if_pos h', if_pos h', if_neg i10]
        generalize pN a0 = p at *
        generalize pN a1 = t at *
        subst h2 h4
        rw [m_knowsIt hS hM h1 h3, bd_ret]
        by_cases e : t ∈ S.A.W p
        · rw [if_pos e, if_pos e, if_neg i10]
          exact ⟨_, rfl, mh_S (m0_fr M)⟩
        · rw [if_neg e, if_neg e, if_pos rfl]
          have key : ∀ (d i f : Nat) (N : Mem) (W : Nat → List Nat), S.R.2.2.2.1.length - i = d → i ≤ S.R.2.2.2.1.length → d < f → Fr (mh 0) M N → LyM N 15 (60 * 0) W → OkW W → ∃ M', X_Model_told_L31 fuel (nI p) (nI t) f (nI i) N = some (tldF S.R S.A.gl p t (S.R.2.2.2.1.drop i) i W, M') ∧ Fr (mh 0) N M' := by
            intro d
            induction d with
            | zero =>
              intro i f N W g1 g2 g3 hN hr hW
              obtain ⟨f, rfl⟩ : ∃ g, f = g + 1 := ⟨f - 1, by omega⟩
              refine ⟨N, ?_, Fr.rf⟩
              show (if N.1 0 5 ≤ nI i then _ else _) = _
              rw [(hM.c.mh hN).2.2.2.1, if_pos (nI_le (by omega) (by omega)), List.drop_eq_nil_of_le (by omega)]
              rfl
            | succ d ih =>
              intro i f N W g1 g2 g3 hN hr hW
              obtain ⟨f, rfl⟩ : ∃ g, f = g + 1 := ⟨f - 1, by omega⟩
              have hi : i < S.R.2.2.2.1.length := by omega
              have hc := hM.c.mh hN
              have e2 := hc.2.2.2.2.2.2.1 i _ (List.getElem?_eq_getElem hi)
              have hx := hS.hR.2.2.2.2.2.2.2.1 _ (List.getElem_mem hi)
              obtain ⟨M1, k1, k2, k3⟩ := m_shakes fuel (by decide) hS.hR hc (L := 0) (by decide) hW hr (show S.A.gl < 2 ^ 31 by omega) hx.1
              have hW' := hW.hand hS.hR S.A.gl S.R.2.2.2.1[i]
              have hk := knN_lt (hW' p).1.2
              have un : X_Model_told_L31 fuel (nI p) (nI t) (f + 1) (nI i) N = if t ∈ handF S.R S.A.gl S.R.2.2.2.1[i] W p then some (nI i, M1) else X_Model_told_L31 fuel (nI p) (nI t) f (nI (i + 1)) M1 := by
                show (if N.1 0 5 ≤ nI i then _ else gd (nI i) 16 (bd (X_Model_worn fuel N) fun r7 M8 => bd (X_Model_shakes fuel (nI 0) (N.1 4 (nI i).toNatClampNeg) r7 M8) fun _ M10 => bd (X_Model_knowsIn fuel (nI 0) (nI p) M10) fun r11 M12 => (if ((r11 >>> (nI t &&& 31)) &&& 1) = 1 then some (nI i, M12) else X_Model_told_L31 fuel (nI p) (nI t) f (nI i + 1) M12))) = _
                rw [hc.2.2.2.1, if_neg (nI_ge (by omega) (by omega)), gd_in (vp_in_nI (by omega) (by decide)), nI_clamp (by omega), e2, m_worn0 hS hM hN, bd_ret, k1, bd_ret, m_knowsIn fuel (by decide) (by decide) (by omega) (k3 p (by omega)) (hW' p).1 (hW' p).2, bd_ret, nI_1, b_is (by omega) (by omega), knN_bit]
                by_cases e3 : t ∈ handF S.R S.A.gl S.R.2.2.2.1[i] W p
                · rw [if_pos e3, if_pos (by simp [e3]; rfl)]
                · rw [if_neg e3, if_neg (by simp [e3]; decide)]
              rw [un, List.drop_eq_getElem_cons hi]
              unfold tldF
              by_cases e3 : t ∈ handF S.R S.A.gl S.R.2.2.2.1[i] W p
              · rw [if_pos e3, if_pos e3]
                exact ⟨M1, rfl, k2⟩
              · rw [if_neg e3, if_neg e3]
                obtain ⟨M2, q1, q2⟩ := ih (i + 1) f M1 _ (by omega) (by omega) (by omega) (hN.trans k2) k3 hW'
                exact ⟨M2, q1, k2.trans q2⟩
          obtain ⟨M', q1, q2⟩ := key _ 0 fuel (m0 M) S.A.W rfl (Nat.zero_le _) (by have := fu; omega) (m0_fr M) (m0_ly hS hM) hS.hA.1
          exact ⟨M', q1, mh_S ((m0_fr M).trans q2)⟩
      · rw [if_neg h', if_neg h', if_pos rfl]
        exact ⟨M, rfl, Fr.rf⟩
    · rw [if_neg h, if_neg h, if_pos rfl]
      exact ⟨M, rfl, Fr.rf⟩
-- the habit
def dayF (R : Rl) (g : Nat) (W : Nat → List Nat) : Nat → List Nat := feastF R g R.2.2.2.2 W
def daysF (R : Rl) (g : Nat) : Nat → (Nat → List Nat) → Nat → List Nat
  | 0, W => W
  | d + 1, W => daysF R g d (dayF R g W)
theorem OkW.day {R : Rl} (hR : OkR R) {g : Nat} {W : Nat → List Nat} (h : OkW W) : OkW (dayF R g W) := OkW.feast hR _ h
theorem dayF_end {R : Rl} (hR : OkR R) {g : Nat} {W : Nat → List Nat} (h : ∀ p, R.1 ≤ p → W p = []) : ∀ p, R.1 ≤ p → dayF R g W p = [] := feastF_end _ hR.2.2.2.2.2.2.2.2.2 h
theorem daysF_ok {R : Rl} (hR : OkR R) {g : Nat} : ∀ (d : Nat) {W : Nat → List Nat}, OkW W → (∀ p, R.1 ≤ p → W p = []) → OkW (daysF R g d W) ∧ ∀ p, R.1 ≤ p → daysF R g d W p = []
  | 0, _, h1, h2 => ⟨h1, h2⟩
  | d + 1, _, h1, h2 => daysF_ok hR d (h1.day hR) (dayF_end hR h2)
def dysU (k : Nat) (S : Ab) : Int32 × Ab := let V := daysF S.R S.A.gl k S.A.W; (nI (anyN V S.R.1), S.setA (S.A.setW V))
theorem d99 (p : Int32) : (1 ≤ p ∧ p ≤ 99) ↔ ∃ k, 1 ≤ k ∧ k < 100 ∧ p = nI k := by
  constructor
  · intro ⟨h1, h2⟩
    rcases i_cases p with h | ⟨k, hk, rfl⟩
    · rw [Int32.lt_iff_toInt_lt] at h
      rw [Int32.le_iff_toInt_le] at h1
      have e1 : (1 : Int32).toInt = 1 := rfl
      have e2 : (0 : Int32).toInt = 0 := rfl
      omega
    · refine ⟨k, ?_, ?_, rfl⟩
      · rw [Int32.le_iff_toInt_le, nI_toInt hk] at h1
        have e1 : (1 : Int32).toInt = 1 := rfl
        omega
      · rw [Int32.le_iff_toInt_le, nI_toInt hk] at h2
        have e1 : (99 : Int32).toInt = 99 := rfl
        omega
  · rintro ⟨k, h1, h2, rfl⟩
    exact ⟨nI_le (a := 1) h1 (by omega), nI_le (b := 99) (by omega) (by decide)⟩
theorem sim_days (a0 : Int32) : Sm (fun M => X_ShakeHands_days fuel a0 M) (fun M => X_Model_days fuel a0 M) := by
  by_cases hv : 1 ≤ a0 ∧ a0 ≤ 99
  · obtain ⟨k, hk1, hk2, rfl⟩ := (d99 a0).mp hv
    refine Sm_u (u := dysU k) (fun M S hS hM => ?_) (fun M S hS hM => ?_) (fun S hS => ?_)
    · skip
      have hg := hS.gl
      unfold X_ShakeHands_days
      rw [if_neg (Int32.not_lt.mpr hv.1), if_pos hv.2]
      have key : ∀ (d i f : Nat) (N : Mem) (W : Nat → List Nat), k - i = d → i ≤ k → d < f → Off [15, 17] M N → rowsAt N 17 W → OkW W → (∀ p, S.R.1 ≤ p → W p = []) → ∃ M', X_ShakeHands_days_L15 fuel (nI k) (fun M3 => bd (X_Minds_known fuel 17 M3) fun r4 M5 => some (r4, M5)) f (nI i) N = some (nI (anyN (daysF S.R S.A.gl d W) S.R.1), M') ∧ Off [15, 17] M M' ∧ rowsAt M' 17 (daysF S.R S.A.gl d W) := by
        intro d
        induction d with
        | zero =>
          intro i f N W g1 g2 g3 hN hr hW hE
          obtain ⟨f, rfl⟩ : ∃ g, f = g + 1 := ⟨f - 1, by omega⟩
          refine ⟨N, ?_, hN, hr⟩
          show (if nI k ≤ nI i then bd (X_Minds_known fuel 17 N) (fun r4 M5 => some (r4, M5)) else _) = _
          rw [if_pos (nI_le (by omega) (by omega)), minds_known fuel (by decide) hW hr, bd_ret, anyN_6 hS.p6 hE]
          rfl
        | succ d ih =>
          intro i f N W g1 g2 g3 hN hr hW hE
          obtain ⟨f, rfl⟩ : ∃ g, f = g + 1 := ⟨f - 1, by omega⟩
          have hNX := hM.newW hN hr
          obtain ⟨M1, k1, k2, k3⟩ := circ_liveDay fuel (by decide) hS.hR (rows := 17) (by decide) (show S.A.gl < 2 ^ 31 by omega) hNX.c hW hr
          obtain ⟨M2, q1, q2, q3⟩ := ih (i + 1) f M1 _ (by omega) (by omega) (by omega) (hN.trans k2) k3 (hW.day hS.hR) (dayF_end hS.hR hE)
          refine ⟨M2, ?_, q2, q3⟩
          have hgl : N.1 16 1 = nI S.A.gl := hNX.a.1
          show (if nI k ≤ nI i then _ else bd (X_Circle_liveDay fuel 17 (N.1 16 1) N) fun _ M2 => X_ShakeHands_days_L15 fuel (nI k) _ f (nI i + 1) M2) = _
          rw [if_neg (nI_ge (by omega) (by omega)), hgl, k1, bd_ret, nI_1]
          exact q1
      obtain ⟨M', q1, q2, q3⟩ := key k 0 fuel M S.A.W rfl (Nat.zero_le _) (by have := fu; omega) Off.rf hM.a.2.2.1 hS.hA.1 hS.hA.2.1
      exact ⟨M', q1, hM.newW q2 q3⟩
    · skip
      have hg := hS.gl
      unfold X_Model_days
      have e1 := m_in fuel (nI k) 1 99 M
      rw [if_pos hv, show (1 : Int32).toInt64 = 1 by decide, show (99 : Int32).toInt64 = 99 by decide] at e1
      rw [e1, bd_ret, if_neg i10, show (0 : Int32) = nI 0 from rfl, m0_b, bd_ret]
      obtain ⟨kx, hkx⟩ : ∃ kx : Mem → Option (Int32 × Mem), kx = fun M7 => bd (X_Model_becomes fuel (nI 0) M7) fun _ M9 => bd (X_Model_anyIn fuel (nI 0) M9) fun r10 M11 => some (r10, M11) := ⟨_, rfl⟩
      have un : X_Model_days_L21 fuel (nI k) (fun M7 => bd (X_Model_becomes fuel (nI 0) M7) fun _ M9 => bd (X_Model_anyIn fuel (nI 0) M9) fun r10 M11 => some (r10, M11)) fuel (nI 0) (m0 M) = X_Model_days_L21 fuel (nI k) kx fuel (nI 0) (m0 M) := by rw [hkx]
      show ∃ M', X_Model_days_L21 fuel (nI k) (fun M7 => bd (X_Model_becomes fuel (nI 0) M7) fun _ M9 => bd (X_Model_anyIn fuel (nI 0) M9) fun r10 M11 => some (r10, M11)) fuel (nI 0) (m0 M) = some ((dysU k S).1, M') ∧ MA M' (dysU k S).2
      rw [un]
      clear un
      have key : ∀ (d i f : Nat) (N : Mem) (W : Nat → List Nat), k - i = d → i ≤ k → d < f → Fr (mh 0) M N → LyM N 15 (60 * 0) W → OkW W → ∃ M', X_Model_days_L21 fuel (nI k) kx f (nI i) N = kx M' ∧ Fr (mh 0) M M' ∧ LyM M' 15 (60 * 0) (daysF S.R S.A.gl d W) := by
        intro d
        induction d with
        | zero =>
          intro i f N W g1 g2 g3 hN hr hW
          obtain ⟨f, rfl⟩ : ∃ g, f = g + 1 := ⟨f - 1, by omega⟩
          refine ⟨N, ?_, hN, hr⟩
          show (if nI k ≤ nI i then kx N else _) = _
          rw [if_pos (nI_le (by omega) (by omega))]
        | succ d ih =>
          intro i f N W g1 g2 g3 hN hr hW
          obtain ⟨f, rfl⟩ : ∃ g, f = g + 1 := ⟨f - 1, by omega⟩
          have hG : GlM N 60 S.A.gl := by
            have := hM.a.2.1
            rw [Nat.zero_add] at this
            exact this.fr hN (fun k _ _ => mh_1 k)
          obtain ⟨M1, k1, k2, k3⟩ := m_aDay fuel (by decide) hS.hR hS.hA.2.2.1 (hM.c.mh hN) hG hW hr
          obtain ⟨M2, q1, q2, q3⟩ := ih (i + 1) f M1 _ (by omega) (by omega) (by omega) (hN.trans k2) k3 (hW.day hS.hR)
          refine ⟨M2, ?_, q2, q3⟩
          show (if nI k ≤ nI i then kx N else bd (X_Model_aDay fuel (nI 0) N) fun _ M6 => X_Model_days_L21 fuel (nI k) kx f (nI i + 1) M6) = _
          rw [if_neg (nI_ge (by omega) (by omega)), k1, bd_ret, nI_1]
          exact q1
      obtain ⟨M', q1, q2, q3⟩ := key k 0 fuel (m0 M) S.A.W rfl (Nat.zero_le _) (by have := fu; omega) (m0_fr M) (m0_ly hS hM) hS.hA.1
      obtain ⟨w1, w2⟩ := daysF_ok hS.hR (g := S.A.gl) k hS.hA.1 hS.hA.2.1
      rw [q1, hkx]
      dsimp only
      have hf := m_fin hS hM q2 w1 q3
      have hly : LyM (cpI M' 15 (60 * 0) 1 0 60) 15 (60 * 0) (daysF S.R S.A.gl k S.A.W) := q3.fr w1 (P := rg 1 0 60) (Fr.cpI (fun k h1 h2 => ⟨rfl, h1, h2⟩)) (fun k _ _ => by unfold rg; omega)
      have h0 := hf.c.1
      rw [m_becomes fuel (by decide) (by decide), bd_ret, m_anyIn fuel (by decide) h0 hS.p6 (by decide) w1 hly, bd_ret]
      exact ⟨_, rfl, hf⟩
    · obtain ⟨w1, w2⟩ := daysF_ok hS.hR (g := S.A.gl) k hS.hA.1 hS.hA.2.1
      exact hS.newA (hS.hA.setW w1 w2)
  · refine Sm_q (q := fun _ => -1) (fun M S hS hM => ⟨M, ?_, Off.rf⟩) (fun M S hS hM => ⟨M, ?_, Fr.rf⟩)
    · dsimp only
      unfold X_ShakeHands_days
      by_cases h1 : a0 < 1
      · rw [if_pos h1]
      · rw [if_neg h1, if_neg (fun q => hv ⟨Int32.not_lt.mp h1, q⟩)]
    · dsimp only
      unfold X_Model_days
      have e1 := m_in fuel a0 1 99 M
      rw [if_neg hv, show (1 : Int32).toInt64 = 1 by decide, show (99 : Int32).toInt64 = 99 by decide] at e1
      rw [e1, bd_ret, if_pos rfl]
def livF (R : Rl) (g t : Nat) : Nat → Nat → (Nat → List Nat) → Int32
  | 0, _, _ => -4
  | d + 1, day, W => if whoN W t R.1 = 0 then nI day else livF R g t d (day + 1) (dayF R g W)
theorem sim_lives (a0 : Int32) : Sm (fun M => X_ShakeHands_lives fuel a0 M) (fun M => X_Model_lives fuel a0 M) := by
  refine Sm_q (q := fun S => if vN a0 16 then livF S.R S.A.gl (pN a0) 201 0 S.A.W else -1) (fun M S hS hM => ?_) (fun M S hS hM => ?_)
  · dsimp only
    have hg := hS.gl
    have h6 := hS.p6
    unfold X_ShakeHands_lives
    rw [x_isThing, bd_ret]
    by_cases h : vN a0 16 = true
    · obtain ⟨h1, h2⟩ := vN_y (by decide) h
      rw [if_pos h, if_pos h, if_neg i10]
      generalize pN a0 = t at *
      subst h2
      have c1 : Off [39] M (cpL M 17 0 39 0 6) := Off.cpL (by decide)
      have c2 : rowsAt (cpL M 17 0 39 0 6) 39 S.A.W := fun p hp => by
        show (if 39 = 39 ∧ 0 ≤ p ∧ p < 0 + 6 then M.2 17 (0 + (p - 0)) else _) = _
        rw [if_pos ⟨rfl, by omega, by omega⟩, Nat.zero_add, Nat.sub_zero]
        exact hM.a.2.2.1 p hp
      have un : X_Habit_lastDay fuel (nI t) M = X_Habit_lastDay_L20 fuel (nI t) fuel (nI 0) (cpL M 17 0 39 0 6) := by
        unfold X_Habit_lastDay gc
        rw [if_neg (by decide)]
        rfl
      have key : ∀ (d i f : Nat) (N : Mem) (W : Nat → List Nat), 201 - i = d → i ≤ 201 → d < f → XA N S → rowsAt N 39 W → OkW W → (∀ p, S.R.1 ≤ p → W p = []) → ∃ M', X_Habit_lastDay_L20 fuel (nI t) f (nI i) N = some (livF S.R S.A.gl t d i W, M') ∧ Off xS N M' := by
        intro d
        induction d with
        | zero =>
          intro i f N W g1 g2 g3 hN hr hW hE
          obtain ⟨f, rfl⟩ : ∃ g, f = g + 1 := ⟨f - 1, by omega⟩
          have e : i = 201 := by omega
          subst e
          refine ⟨N, ?_, Off.rf⟩
          show (if (200 : Int32) < nI 201 then _ else _) = _
          rw [if_pos (by decide)]
          rfl
        | succ d ih =>
          intro i f N W g1 g2 g3 hN hr hW hE
          obtain ⟨f, rfl⟩ : ∃ g, f = g + 1 := ⟨f - 1, by omega⟩
          have lt200 : ¬ (200 : Int32) < nI i := Int32.not_lt.mpr (nI_le (b := 200) (by omega) (by decide))
          unfold livF
          by_cases e3 : whoN W t S.R.1 = 0
          · refine ⟨N, ?_, Off.rf⟩
            show (if (200 : Int32) < nI i then _ else bd (X_Minds_knowers fuel 39 (nI t) N) fun r1 M2 => if r1 = 0 then some (nI i, M2) else _) = _
            rw [if_neg lt200, minds_knowers fuel (by decide) hW hr h1, whoN_6 h6 hE, bd_ret, if_pos ((who0 h6).mpr e3), if_pos e3]
          · obtain ⟨M1, k1, k2, k3⟩ := circ_liveDay fuel (by decide) hS.hR (rows := 39) (by decide) (show S.A.gl < 2 ^ 31 by omega) hN.c hW hr
            have k4 : Off xS N M1 := xS_of k2 (by decide)
            obtain ⟨M2, q1, q2⟩ := ih (i + 1) f M1 _ (by omega) (by omega) (by omega) (hN.off k4) k3 (hW.day hS.hR) (dayF_end hS.hR hE)
            refine ⟨M2, ?_, k4.trans q2⟩
            show (if (200 : Int32) < nI i then _ else bd (X_Minds_knowers fuel 39 (nI t) N) fun r1 M2 => if r1 = 0 then some (nI i, M2) else bd (X_Circle_liveDay fuel 39 (M2.1 16 1) M2) fun _ M4 => X_Habit_lastDay_L20 fuel (nI t) f (nI i + 1) M4) = _
            rw [if_neg lt200, minds_knowers fuel (by decide) hW hr h1, whoN_6 h6 hE, bd_ret, if_neg (fun q => e3 ((who0 h6).mp q)), hN.a.1, k1, bd_ret, nI_1, if_neg e3]
            exact q1
      obtain ⟨M', q1, q2⟩ := key 201 0 fuel _ S.A.W rfl (by decide) (by decide) (hM.off (xS_of c1 (by decide))) c2 hS.hA.1 hS.hA.2.1
      rw [un, q1, bd_ret]
      exact ⟨M', rfl, (xS_of c1 (by decide)).trans q2⟩
    · rw [if_neg h, if_neg h, if_pos rfl]
      exact ⟨M, rfl, Off.rf⟩
  · dsimp only
    have hg := hS.gl
    have h6 := hS.p6
    unfold X_Model_lives
    rw [m_isThing, bd_ret]
    by_cases h : vN a0 16 = true
    · obtain ⟨h1, h2⟩ := vN_y (by decide) h
      rw [if_pos h, if_pos h, if_neg i10]
      generalize pN a0 = t at *
      subst h2
      rw [show (0 : Int32) = nI 0 from rfl, m0_b, bd_ret]
      have key : ∀ (d i f : Nat) (N : Mem) (W : Nat → List Nat), 201 - i = d → i ≤ 201 → d < f → Fr (mh 0) M N → LyM N 15 (60 * 0) W → OkW W → ∃ M', X_Model_lives_L16 fuel (nI t) f (nI i) N = some (livF S.R S.A.gl t d i W, M') ∧ Fr (mh 0) M M' := by
        intro d
        induction d with
        | zero =>
          intro i f N W g1 g2 g3 hN hr hW
          obtain ⟨f, rfl⟩ : ∃ g, f = g + 1 := ⟨f - 1, by omega⟩
          have e : i = 201 := by omega
          subst e
          refine ⟨N, ?_, hN⟩
          show (if (200 : Int32) < nI 201 then _ else _) = _
          rw [if_pos (by decide)]
          rfl
        | succ d ih =>
          intro i f N W g1 g2 g3 hN hr hW
          obtain ⟨f, rfl⟩ : ∃ g, f = g + 1 := ⟨f - 1, by omega⟩
          have lt200 : ¬ (200 : Int32) < nI i := Int32.not_lt.mpr (nI_le (b := 200) (by omega) (by decide))
          have hc := hM.c.mh hN
          unfold livF
          by_cases e3 : whoN W t S.R.1 = 0
          · refine ⟨N, ?_, hN⟩
            show (if (200 : Int32) < nI i then _ else bd (X_Model_whoIn fuel (nI 0) (nI t) N) fun r1 M2 => if r1 = 0 then some (nI i, M2) else _) = _
            rw [if_neg lt200, m_whoIn fuel (by decide) hc.1 h6 (by decide) h1 hW hr, bd_ret, if_pos ((who0 h6).mpr e3), if_pos e3]
          · have hG : GlM N 60 S.A.gl := by
              have := hM.a.2.1
              rw [Nat.zero_add] at this
              exact this.fr hN (fun k _ _ => mh_1 k)
            obtain ⟨M1, k1, k2, k3⟩ := m_aDay fuel (by decide) hS.hR hS.hA.2.2.1 hc hG hW hr
            obtain ⟨M2, q1, q2⟩ := ih (i + 1) f M1 _ (by omega) (by omega) (by omega) (hN.trans k2) k3 (hW.day hS.hR)
            refine ⟨M2, ?_, q2⟩
            show (if (200 : Int32) < nI i then _ else bd (X_Model_whoIn fuel (nI 0) (nI t) N) fun r1 M2 => if r1 = 0 then some (nI i, M2) else bd (X_Model_aDay fuel (nI 0) M2) fun _ M8 => X_Model_lives_L16 fuel (nI t) f (nI i + 1) M8) = _
            rw [if_neg lt200, m_whoIn fuel (by decide) hc.1 h6 (by decide) h1 hW hr, bd_ret, if_neg (fun q => e3 ((who0 h6).mp q)), k1, bd_ret, nI_1, if_neg e3]
            exact q1
      obtain ⟨M', q1, q2⟩ := key 201 0 fuel (m0 M) S.A.W rfl (by decide) (by decide) (m0_fr M) (m0_ly hS hM) hS.hA.1
      exact ⟨M', q1, mh_S q2⟩
    · rw [if_neg h, if_neg h, if_pos rfl]
      exact ⟨M, rfl, Fr.rf⟩
end
section
/-! CALLS: gloves, count -/
def eB : Option Nat → Int32
  | none => -4
  | some b => nI b
def gBet (best : Option Nat) (x : Nat) : Bool := match best with
  | none => true
  | some b => decide (popN 16 x < popN 16 b)
def gStep (R : Rl) (g p t : Nat) (W : Nat → List Nat) (best : Option Nat) (x : Nat) : Option Nat :=
  if x &&& g = 0 then (if gBet best x = true then (if t ∈ feastF R (g ||| x) R.2.2.2.1 W p then best else some x) else best) else best
def glvF (R : Rl) (g p t : Nat) (W : Nat → List Nat) : Nat → Nat → Option Nat → Option Nat
  | 0, _, best => best
  | d + 1, x, best => glvF R g p t W d (x + 1) (gStep R g p t W best x)
def gRes (a : Int32) : Option Nat → Int32
  | none => -4
  | some b => if a = 0 then nI (popN 16 b) else nI b
theorem two_P {P : Nat} (hP : P ≤ 6) : ((1 : Int32) <<< (nI P &&& 31)) = nI (2 ^ P) := i_shl1 (by omega)
theorem pw6 {P : Nat} (hP : P ≤ 6) : 1 ≤ 2 ^ P ∧ 2 ^ P ≤ 64 := ⟨Nat.one_le_two_pow, Nat.pow_le_pow_right (n := 2) (by decide) hP⟩
theorem x_everybody {M : Mem} {P : Nat} (hP : P ≤ 6) (h : M.1 11 0 = nI P) : X_ShakeHands_everybody fuel M = some (nI (2 ^ P - 1), M) := by
  unfold X_ShakeHands_everybody
  rw [h, two_P hP, show (1 : Int32) = nI 1 from rfl, pk_sub (pw6 hP).1]
theorem eB_none {b : Option Nat} (hb : ∀ x, b = some x → x < 64) : eB b = -4 ↔ b = none := by
  cases b with
  | none => simp [eB]
  | some x =>
    have := hb x rfl
    constructor
    · intro h; exact absurd h (i_ne4 (by omega))
    · intro h; cases h
theorem gStep_lt {R : Rl} {g p t : Nat} {W : Nat → List Nat} {b : Option Nat} {x : Nat} (hx : x < 64) (hb : ∀ y, b = some y → y < 64) : ∀ y, gStep R g p t W b x = some y → y < 64 := by
  intro y h
  unfold gStep at h
  split at h
  · split at h
    · split at h
      · exact hb y h
      · cases h; exact hx
    · exact hb y h
  · exact hb y h
theorem and_i0 {a b : Nat} (ha : a < 64) : (nI a &&& nI b = 0) ↔ a &&& b = 0 := by
  rw [i_and]
  exact nI_eq (b := 0) (Nat.lt_of_le_of_lt Nat.and_le_left (by omega)) (by decide)
theorem x_glove_L {S : Ab} (hS : Ok S) {p t : Nat} (hp : p < S.R.1) (ht : t < 16) : ∀ (d x f : Nat) (N : Mem) (b : Option Nat), 2 ^ S.R.1 - x = d → x ≤ 2 ^ S.R.1 → d < f → XA N S → (∀ y, b = some y → y < 64) → ∃ M', X_ShakeHands_fewestGloves_L6 fuel (nI t) (nI p) f (eB b) (nI x) N = some (eB (glvF S.R S.A.gl p t S.A.W d x b), M') ∧ Off xS N M' := by
  have hg := hS.gl
  have h6 := hS.p6
  have hpw := pw6 h6
  intro d
  induction d with
  | zero =>
    intro x f N b g1 g2 g3 hN hb
    obtain ⟨f, rfl⟩ : ∃ g, f = g + 1 := ⟨f - 1, by omega⟩
    refine ⟨N, ?_, Off.rf⟩
    show bd (X_ShakeHands_everybody fuel N) (fun r1 M2 => if r1 < nI x then some (eB b, M2) else _) = _
    rw [x_everybody h6 hN.c.1, bd_ret, if_pos (nI_lt (by omega) (by omega))]
    rfl
  | succ d ih =>
    intro x f N b g1 g2 g3 hN hb
    obtain ⟨f, rfl⟩ : ∃ g, f = g + 1 := ⟨f - 1, by omega⟩
    have hx : x < 64 := by omega
    have un : X_ShakeHands_fewestGloves_L6 fuel (nI t) (nI p) (f + 1) (eB b) (nI x) N = if x &&& S.A.gl = 0 then (if gBet b x = true then
        bd (X_ShakeHands_takeTrial fuel N) fun _ M8 => bd (X_Circle_celebrate fuel 49 ((M8.1 16 1) ||| nI x) (M8.1 11 5) M8) fun _ M10 => gd (nI p) 6 (bd (X_Row_knowsIt fuel (M10.2 49 (nI p).toNatClampNeg) (nI t) M10) fun r11 M12 => (if r11 = 0 then X_ShakeHands_fewestGloves_L6 fuel (nI t) (nI p) f (nI x) (nI x + 1) M12 else X_ShakeHands_fewestGloves_L6 fuel (nI t) (nI p) f (eB b) (nI x + 1) M12))
        else X_ShakeHands_fewestGloves_L6 fuel (nI t) (nI p) f (eB b) (nI x + 1) N) else X_ShakeHands_fewestGloves_L6 fuel (nI t) (nI p) f (eB b) (nI x + 1) N := by
      show bd (X_ShakeHands_everybody fuel N) _ = _
      rw [x_everybody h6 hN.c.1, bd_ret, if_neg (Int32.not_lt.mpr (nI_le (by omega) (by omega)))]
      simp only [nm]
      rw [hN.a.1]
      have c0 : ∀ (A B : Option (Int32 × Mem)), (if nI x &&& nI S.A.gl = 0 then A else B) = if x &&& S.A.gl = 0 then A else B := fun A B => by
        by_cases e : x &&& S.A.gl = 0
        · rw [if_pos e, if_pos ((and_i0 hx).mpr e)]
        · rw [if_neg e, if_neg (fun q => e ((and_i0 hx).mp q))]
      cases b with
      | none =>
        rw [if_pos (show eB none = -4 from rfl), if_neg i10, c0, if_pos (show gBet none x = true from rfl)]
      | some y =>
        have hy := hb y rfl
        rw [if_neg (show ¬ eB (some y) = -4 from i_ne4 (by omega)), bitCount_eq _ (by omega), bd_ret]
        show bd (X_Integer_bitCount fuel (nI y) N) _ = _
        rw [bitCount_eq _ (by omega), bd_ret]
        have py := popN_le y 16
        have px := popN_le x 16
        by_cases e : popN 16 y ≤ popN 16 x
        · rw [if_pos (nI_le e (by omega)), hN.a.1, if_pos trivial, c0, if_neg (show ¬ gBet (some y) x = true by simp [gBet]; omega)]
        · rw [if_neg (nI_ge (by omega) (by omega)), hN.a.1, if_neg i10, c0, if_pos (show gBet (some y) x = true by simp [gBet]; omega)]
    have hgx : S.A.gl ||| x < 2 ^ 31 := Nat.lt_trans (Nat.or_lt_two_pow (n := 6) hg hx) (by decide)
    show ∃ M', _ = some (eB (glvF S.R S.A.gl p t S.A.W d (x + 1) (gStep S.R S.A.gl p t S.A.W b x)), M') ∧ _
    rw [un, nI_1]
    by_cases e0 : x &&& S.A.gl = 0
    · rw [if_pos e0]
      by_cases e1 : gBet b x = true
      · rw [if_pos e1]
        obtain ⟨t1, t2, t3⟩ := x_trial hN.a.2.2.1
        have hM1 := hN.off (xS_of t3 (by decide))
        obtain ⟨M1, k1, k2, k3⟩ := circ_celebrate fuel (by decide) hS.hR (rows := 49) (by decide) hgx (k := S.R.2.2.2.1.length) (Nat.le_refl _) hM1.c hS.hA.1 t2
        rw [List.take_length] at k3
        have hW' := OkW.feast hS.hR (gl := S.A.gl ||| x) S.R.2.2.2.1 hS.hA.1
        have fr : Off xS N M1 := xS_of (t3.mono (S' := [15, 49]) (by decide) |>.trans k2) (by decide)
        rw [t1, bd_ret, hM1.a.1, i_or, hM1.c.2.2.2.1, k1, bd_ret, gd_in (vp_in_nI (by omega) (by decide)), nI_clamp (by omega), k3 p (by omega), row_knowsIt fuel (hW' p).1 (hW' p).2 ht, bd_ret]
        by_cases e2 : t ∈ feastF S.R (S.A.gl ||| x) S.R.2.2.2.1 S.A.W p
        · have es : gStep S.R S.A.gl p t S.A.W b x = b := by unfold gStep; rw [if_pos e0, if_pos e1, if_pos e2]
          rw [if_pos e2, if_neg i10, es]
          obtain ⟨M2, q1, q2⟩ := ih (x + 1) f M1 b (by omega) (by omega) (by omega) (hN.off fr) hb
          exact ⟨M2, q1, fr.trans q2⟩
        · have es : gStep S.R S.A.gl p t S.A.W b x = some x := by unfold gStep; rw [if_pos e0, if_pos e1, if_neg e2]
          rw [if_neg e2, if_pos rfl, es]
          obtain ⟨M2, q1, q2⟩ := ih (x + 1) f M1 (some x) (by omega) (by omega) (by omega) (hN.off fr) (fun y h => by cases h; exact hx)
          exact ⟨M2, q1, fr.trans q2⟩
      · have es : gStep S.R S.A.gl p t S.A.W b x = b := by unfold gStep; rw [if_pos e0, if_neg e1]
        rw [if_neg e1, es]
        exact ih (x + 1) f N b (by omega) (by omega) (by omega) hN hb
    · have es : gStep S.R S.A.gl p t S.A.W b x = b := by unfold gStep; rw [if_neg e0]
      rw [if_neg e0, es]
      exact ih (x + 1) f N b (by omega) (by omega) (by omega) hN hb
theorem glvF_lt {R : Rl} {g p t : Nat} {W : Nat → List Nat} : ∀ (d x : Nat) (b : Option Nat), x + d ≤ 64 → (∀ y, b = some y → y < 64) → ∀ y, glvF R g p t W d x b = some y → y < 64
  | 0, _, _, _, hb => hb
  | d + 1, x, _, h, hb => glvF_lt d (x + 1) _ (by omega) (gStep_lt (by omega) hb)
theorem m_glove_L {S : Ab} (hS : Ok S) {p t : Nat} (hp : p < S.R.1) (ht : t < 16) (a3 : Int32) (kx : Int32 → Mem → Option (Int32 × Mem)) {M : Mem} (hM : MA M S) : ∀ (d x f : Nat) (N : Mem) (b : Option Nat), 2 ^ S.R.1 - x = d → x ≤ 2 ^ S.R.1 → d < f → Fr (mh 0) M N → (∀ y, b = some y → y < 64) → ∃ M', X_Model_gloves_L52 fuel (nI t) (nI p) a3 (nI S.A.gl) kx f (eB b) (nI x) N = kx (eB (glvF S.R S.A.gl p t S.A.W d x b)) M' ∧ Fr (mh 0) M M' := by
  have hg := hS.gl
  have h6 := hS.p6
  have hpw := pw6 h6
  intro d
  induction d with
  | zero =>
    intro x f N b g1 g2 g3 hN hb
    obtain ⟨f, rfl⟩ : ∃ g, f = g + 1 := ⟨f - 1, by omega⟩
    refine ⟨N, ?_, hN⟩
    show (if ((1 : Int32) <<< ((N.1 0 2) &&& 31)) ≤ nI x then kx (eB b) N else _) = _
    rw [(hM.c.mh hN).1, two_P h6, if_pos (nI_le (by omega) (by omega))]
    rfl
  | succ d ih =>
    intro x f N b g1 g2 g3 hN hb
    obtain ⟨f, rfl⟩ : ∃ g, f = g + 1 := ⟨f - 1, by omega⟩
    have hx : x < 64 := by omega
    have hc := hM.c.mh hN
    have un : X_Model_gloves_L52 fuel (nI t) (nI p) a3 (nI S.A.gl) kx (f + 1) (eB b) (nI x) N = if x &&& S.A.gl = 0 then (if gBet b x = true then
        bd (X_Model_feasts fuel (N.1 0 5) (nI S.A.gl ||| nI x) N) fun _ M15 => bd (X_Model_knowsIn fuel 0 (nI p) M15) fun r16 M17 => (if ((r16 >>> (nI t &&& 31)) &&& 1) = 0 then X_Model_gloves_L52 fuel (nI t) (nI p) a3 (nI S.A.gl) kx f (nI x) (nI x + 1) M17 else X_Model_gloves_L52 fuel (nI t) (nI p) a3 (nI S.A.gl) kx f (eB b) (nI x + 1) M17)
        else X_Model_gloves_L52 fuel (nI t) (nI p) a3 (nI S.A.gl) kx f (eB b) (nI x + 1) N) else X_Model_gloves_L52 fuel (nI t) (nI p) a3 (nI S.A.gl) kx f (eB b) (nI x + 1) N := by
      show (if ((1 : Int32) <<< ((N.1 0 2) &&& 31)) ≤ nI x then kx (eB b) N else _) = _
      rw [hc.1, two_P h6, if_neg (nI_ge (by omega) (by omega))]
      simp only [nm]
      have c0 : ∀ (A B : Option (Int32 × Mem)), (if nI x &&& nI S.A.gl = 0 then A else B) = if x &&& S.A.gl = 0 then A else B := fun A B => by
        by_cases e : x &&& S.A.gl = 0
        · rw [if_pos e, if_pos ((and_i0 hx).mpr e)]
        · rw [if_neg e, if_neg (fun q => e ((and_i0 hx).mp q))]
      rw [c0]
      cases b with
      | none =>
        rw [if_pos (show eB none = -4 from rfl), if_pos (show gBet none x = true from rfl)]
      | some y =>
        have hy := hb y rfl
        rw [if_neg (show ¬ eB (some y) = -4 from i_ne4 (by omega)), m_bitsOf fuel (by decide) (by omega), bd_ret]
        have ey : X_Model_bitsOf fuel (eB (some y)) N = some (nI (popN 16 y), N) := m_bitsOf fuel (by decide) (by omega) N
        rw [ey, bd_ret]
        have py := popN_le y 16
        have px := popN_le x 16
        by_cases e : popN 16 y ≤ popN 16 x
        · rw [if_pos (nI_le e (by omega)), if_neg (show ¬ gBet (some y) x = true by simp [gBet]; omega)]
        · rw [if_neg (nI_ge (by omega) (by omega)), if_pos (show gBet (some y) x = true by simp [gBet]; omega)]
    have hgx : S.A.gl ||| x < 2 ^ 31 := Nat.lt_trans (Nat.or_lt_two_pow (n := 6) hg hx) (by decide)
    show ∃ M', _ = kx (eB (glvF S.R S.A.gl p t S.A.W d (x + 1) (gStep S.R S.A.gl p t S.A.W b x))) M' ∧ _
    rw [un, nI_1]
    by_cases e0 : x &&& S.A.gl = 0
    · rw [if_pos e0]
      by_cases e1 : gBet b x = true
      · rw [if_pos e1]
        obtain ⟨M1, k1, k2, k3⟩ := m_feasts hS hM hN hgx (k := S.R.2.2.2.1.length) (Nat.le_refl _)
        rw [List.take_length] at k3
        have hW' := OkW.feast hS.hR (gl := S.A.gl ||| x) S.R.2.2.2.1 hS.hA.1
        have hk := knN_lt (hW' p).1.2
        rw [hc.2.2.2.1, i_or, k1, bd_ret, show (0 : Int32) = nI 0 from rfl, m_knowsIn fuel (by decide) (by decide) (by omega) (k3 p (by omega)) (hW' p).1 (hW' p).2, bd_ret, b_is (by omega) (by omega), knN_bit]
        by_cases e2 : t ∈ feastF S.R (S.A.gl ||| x) S.R.2.2.2.1 S.A.W p
        · have es : gStep S.R S.A.gl p t S.A.W b x = b := by unfold gStep; rw [if_pos e0, if_pos e1, if_pos e2]
          rw [if_neg (by simp [e2]; decide), es]
          exact ih (x + 1) f M1 b (by omega) (by omega) (by omega) k2 hb
        · have es : gStep S.R S.A.gl p t S.A.W b x = some x := by unfold gStep; rw [if_pos e0, if_pos e1, if_neg e2]
          rw [if_pos (by simp [e2]), es]
          exact ih (x + 1) f M1 (some x) (by omega) (by omega) (by omega) k2 (fun y h => by cases h; exact hx)
      · have es : gStep S.R S.A.gl p t S.A.W b x = b := by unfold gStep; rw [if_pos e0, if_neg e1]
        rw [if_neg e1, es]
        exact ih (x + 1) f N b (by omega) (by omega) (by omega) hN hb
    · have es : gStep S.R S.A.gl p t S.A.W b x = b := by unfold gStep; rw [if_neg e0]
      rw [if_neg e0, es]
      exact ih (x + 1) f N b (by omega) (by omega) (by omega) hN hb
theorem in01 {α : Type} (a : Int32) (A B : α) : (if a < 0 then B else if a ≤ 1 then A else B) = if vN a 2 then A else B := by
  rw [← x_in]
  by_cases h : a < 0
  · rw [if_pos h, if_pos h]
  · rw [if_neg h, if_neg h]
    have e : a ≤ 1 ↔ ¬ nI 2 ≤ a := by
      rw [Int32.le_iff_toInt_le, Int32.le_iff_toInt_le]
      have e1 : (1 : Int32).toInt = 1 := rfl
      have e2 : (nI 2).toInt = 2 := rfl
      omega
    by_cases h2 : a ≤ 1
    · rw [if_pos h2, if_neg (e.mp h2)]
    · rw [if_neg h2, if_pos (Decidable.of_not_not (fun q => h2 (e.mpr q)))]
theorem sim_gloves (a0 : Int32) (a1 : Int32) (a2 : Int32) : Sm (fun M => X_ShakeHands_gloves fuel a0 a1 a2 M) (fun M => X_Model_gloves fuel a0 a1 a2 M) := by
  refine Sm_q (q := fun S => if vN a0 16 then (if vN a1 S.R.1 then (if vN a2 2 then (if pN a0 ∈ S.A.W (pN a1) then -2 else gRes a2 (glvF S.R S.A.gl (pN a1) (pN a0) S.A.W (2 ^ S.R.1) 0 none)) else -1) else -1) else -1) (fun M S hS hM => ?_) (fun M S hS hM => ?_)
  · dsimp only
    have h6 := hS.p6
    have hpw := pw6 h6
    unfold X_ShakeHands_gloves
    rw [x_isThing, bd_ret]
    by_cases h : vN a0 16 = true
    · obtain ⟨h1, h2⟩ := vN_y (by decide) h
      rw [if_pos h, if_pos h, if_neg i10, x_isOne fuel hM.c.1, bd_ret]
      by_cases h' : vN a1 S.R.1 = true
      · obtain ⟨h3, h4⟩ := vN_y hS.p31 h'
        rw [if_pos h', if_pos h', if_neg i10, in01]
        by_cases h'' : vN a2 2 = true
        · rw [if_pos h'', if_pos h'']
          generalize pN a0 = t at *
          generalize pN a1 = p at *
          subst h2 h4
          rw [x_knowsNow hS hM h3 h1, bd_ret]
          by_cases e : t ∈ S.A.W p
          · rw [if_pos e, if_pos e, if_neg i10]
            exact ⟨M, rfl, Off.rf⟩
          · rw [if_neg e, if_neg e, if_pos rfl]
            obtain ⟨M', q1, q2⟩ := x_glove_L hS h3 h1 (2 ^ S.R.1) 0 fuel M none rfl (Nat.zero_le _) (by have := fu; omega) hM (fun y h => by cases h)
            have hl := glvF_lt (R := S.R) (g := S.A.gl) (p := p) (t := t) (W := S.A.W) (2 ^ S.R.1) 0 none (by omega) (fun y h => by cases h)
            have q0 : X_ShakeHands_fewestGloves fuel (nI t) (nI p) M = some (eB (glvF S.R S.A.gl p t S.A.W (2 ^ S.R.1) 0 none), M') := q1
            rw [q0, bd_ret]
            generalize glvF S.R S.A.gl p t S.A.W (2 ^ S.R.1) 0 none = b at *
            refine ⟨M', ?_, q2⟩
            cases b with
            | none => rfl
            | some y =>
              have hy := hl y rfl
              rw [if_neg (show ¬ eB (some y) = -4 from i_ne4 (by omega))]
              show _ = some ((if a2 = 0 then nI (popN 16 y) else nI y), M')
              by_cases e3 : a2 = 0
              · have ey : X_Integer_bitCount fuel (eB (some y)) M' = some (nI (popN 16 y), M') := bitCount_eq _ (by omega) M'
                rw [if_pos e3, if_pos e3, ey, bd_ret]
              · rw [if_neg e3, if_neg e3]
                rfl
        · rw [if_neg h'', if_neg h'']
          exact ⟨M, rfl, Off.rf⟩
      · rw [if_neg h', if_neg h', if_pos rfl]
        exact ⟨M, rfl, Off.rf⟩
    · rw [if_neg h, if_neg h, if_pos rfl]
      exact ⟨M, rfl, Off.rf⟩
  · dsimp only
    have h6 := hS.p6
    have hpw := pw6 h6
    unfold X_Model_gloves
    have e3 := m_inV fuel (P := 2) (by decide) a2 M
    rw [show (nI 2 - 1 : Int32).toInt64 = 1 by decide] at e3
    rw [m_isThing, bd_ret]
    by_cases h : vN a0 16 = true
    · obtain ⟨h1, h2⟩ := vN_y (by decide) h
      rw [if_pos h, if_pos h, if_neg i10, m_isOne fuel hS.p31 hM.c.1, bd_ret]
      by_cases h' : vN a1 S.R.1 = true
      · obtain ⟨h3, h4⟩ := vN_y hS.p31 h'
        rw [if_pos h', if_pos h', if_neg i10, e3, bd_ret]
        by_cases h'' : vN a2 2 = true
        · rw [if_pos h'', if_pos h'', if_neg i10]
          generalize pN a0 = t at *
          generalize pN a1 = p at *
          subst h2 h4
          rw [m_knowsIt hS hM h3 h1, bd_ret]
          by_cases e : t ∈ S.A.W p
          · rw [if_pos e, if_pos e, if_neg i10]
            exact ⟨_, rfl, mh_S (m0_fr M)⟩
          · rw [if_neg e, if_neg e, if_pos rfl, m_worn0 hS hM (m0_fr M), bd_ret]
            have hl := glvF_lt (R := S.R) (g := S.A.gl) (p := p) (t := t) (W := S.A.W) (2 ^ S.R.1) 0 none (by omega) (fun y h => by cases h)
            obtain ⟨kx, hkx⟩ : ∃ kx : Int32 → Mem → Option (Int32 × Mem), kx = fun y23 M24 => (if y23 = (-4) then some ((-4), M24) else (if a2 = 0 then bd (X_Model_bitsOf fuel y23 M24) fun r25 M26 => some (r25, M26) else some (y23, M24))) := ⟨_, rfl⟩
            obtain ⟨M', q1, q2⟩ := m_glove_L hS h3 h1 a2 kx hM (2 ^ S.R.1) 0 fuel (m0 M) none rfl (Nat.zero_le _) (by have := fu; omega) (m0_fr M) (fun y h => by cases h)
            refine ⟨M', ?_, mh_S q2⟩
            rw [← hkx]
            refine Eq.trans q1 ?_
            generalize glvF S.R S.A.gl p t S.A.W (2 ^ S.R.1) 0 none = b at *
            rw [hkx]
            cases b with
            | none => rfl
            | some y =>
              have hy := hl y rfl
              dsimp only
              rw [if_neg (show ¬ eB (some y) = -4 from i_ne4 (by omega))]
              show _ = some ((if a2 = 0 then nI (popN 16 y) else nI y), M')
              by_cases e3 : a2 = 0
              · have ey : X_Model_bitsOf fuel (eB (some y)) M' = some (nI (popN 16 y), M') := m_bitsOf fuel (by decide) (by omega) M'
                rw [if_pos e3, if_pos e3, ey, bd_ret]
              · rw [if_neg e3, if_neg e3]
                rfl
        · rw [if_neg h'', if_neg h'', if_pos rfl]
          exact ⟨M, rfl, Fr.rf⟩
      · rw [if_neg h', if_neg h', if_pos rfl]
        exact ⟨M, rfl, Fr.rf⟩
    · rw [if_neg h, if_neg h, if_pos rfl]
      exact ⟨M, rfl, Fr.rf⟩
end
section
/-! CALLS: count, keep, back -/
def allN (W : Nat → List Nat) : Nat → Nat
  | 0 => 65535
  | k + 1 => allN W k &&& knN (W k)
theorem allN_lt (W : Nat → List Nat) : ∀ k, allN W k < 65536
  | 0 => by show 65535 < 65536; decide
  | k + 1 => Nat.lt_of_le_of_lt Nat.and_le_left (allN_lt W k)
theorem x_all {M : Mem} {S : Ab} (hS : Ok S) (hM : XA M S) : X_ShakeHands_knownToAll fuel M = some (nI (allN S.A.W S.R.1), M) := by
  have h6 := hS.p6
  have key : ∀ (d i f : Nat), S.R.1 - i = d → i ≤ S.R.1 → d < f → X_ShakeHands_knownToAll_L6 fuel f (nI (allN S.A.W i)) (nI i) M = some (nI (allN S.A.W S.R.1), M) := by
    intro d
    induction d with
    | zero =>
      intro i f h1 h2 h3
      obtain ⟨f, rfl⟩ : ∃ g, f = g + 1 := ⟨f - 1, by omega⟩
      have e : i = S.R.1 := by omega
      subst e
      show (if M.1 11 0 ≤ nI S.R.1 then _ else _) = _
      rw [hM.c.1, if_pos (nI_le (by omega) (by omega))]
    | succ d ih =>
      intro i f h1 h2 h3
      obtain ⟨f, rfl⟩ : ∃ g, f = g + 1 := ⟨f - 1, by omega⟩
      show (if M.1 11 0 ≤ nI i then _ else gd (nI i) 6 (bd (X_Row_knownOf fuel (M.2 17 (nI i).toNatClampNeg) M) fun r1 M2 => X_ShakeHands_knownToAll_L6 fuel f (nI (allN S.A.W i) &&& r1) (nI i + 1) M2)) = _
      rw [hM.c.1, if_neg (nI_ge (by omega) (by omega)), gd_in (vp_in_nI (by omega) (by decide)), nI_clamp (by omega), hM.a.2.2.1 i (by omega), row_known fuel (hS.hA.1 i).1 (hS.hA.1 i).2, bd_ret, i_and, nI_1]
      exact ih (i + 1) f (by omega) (by omega) (by omega)
  exact key _ 0 fuel rfl (Nat.zero_le _) (by have := fu; omega)
def cntF (a : Int32) (S : Ab) : Int32 :=
  if a = 0 then nI (popN 16 (anyN S.A.W S.R.1)) else if a = 1 then nI (popN 16 (allN S.A.W S.R.1)) else if a = 2 then nI (popN 16 S.A.sn) else if a = 3 then nI (popN 16 S.kp) else if a = 4 then nI S.tp.length else if a = 5 then (match S.sh 0 with | none => -4 | some q => nI q.2) else -1
theorem m_all_L {S : Ab} (hS : Ok S) {M : Mem} (hM : MA M S) (a : Int32) (kx : Int32 → Mem → Option (Int32 × Mem)) : ∀ (d i f : Nat) (N : Mem), S.R.1 - i = d → i ≤ S.R.1 → d < f → Fr (mh 0) M N → ∃ M', X_Model_count_L6 fuel a kx f (nI (allN S.A.W i)) (nI i) N = kx (nI (allN S.A.W S.R.1)) M' ∧ Fr (mh 0) M M' := by
  have h6 := hS.p6
  intro d
  induction d with
  | zero =>
    intro i f N h1 h2 h3 hN
    obtain ⟨f, rfl⟩ : ∃ g, f = g + 1 := ⟨f - 1, by omega⟩
    have e : i = S.R.1 := by omega
    subst e
    refine ⟨N, ?_, hN⟩
    show (if N.1 0 2 ≤ nI S.R.1 then kx (nI (allN S.A.W S.R.1)) N else _) = _
    rw [(hM.c.mh hN).1, if_pos (nI_le (by omega) (by omega))]
  | succ d ih =>
    intro i f N h1 h2 h3 hN
    obtain ⟨f, rfl⟩ : ∃ g, f = g + 1 := ⟨f - 1, by omega⟩
    have hMN := hM.fr hS (mh_S hN)
    obtain ⟨M', q1, q2⟩ := ih (i + 1) f (m0 N) (by omega) (by omega) (by omega) (hN.trans (m0_fr N))
    refine ⟨M', ?_, q2⟩
    show (if N.1 0 2 ≤ nI i then kx (nI (allN S.A.W i)) N else bd (X_Model_knowsNow fuel (nI i) N) fun r1 M2 => X_Model_count_L6 fuel a kx f (nI (allN S.A.W i) &&& r1) (nI i + 1) M2) = _
    rw [(hM.c.mh hN).1, if_neg (nI_ge (by omega) (by omega)), m_knowsNow hS hMN (by omega), bd_ret, i_and, nI_1]
    exact q1
theorem v04 : vp_in (0 : Int32) 4 := vp_in_nI (n := 0) (by decide) (by decide)
theorem v02 : vp_in (0 : Int32) 2 := vp_in_nI (n := 0) (by decide) (by decide)
theorem v12 : vp_in (1 : Int32) 2 := vp_in_nI (n := 1) (by decide) (by decide)
theorem pop_kp : ∀ k, k < 4 → nI (popN 16 k) = nI (if k.testBit 0 then 1 else 0) + nI (if k.testBit 1 then 1 else 0) := by decide
theorem sim_count (a0 : Int32) : Sm (fun M => X_ShakeHands_count fuel a0 M) (fun M => X_Model_count fuel a0 M) := by
  refine Sm_q (q := cntF a0) (fun M S hS hM => ⟨M, ?_, Off.rf⟩) (fun M S hS hM => ?_)
  · have hg := hS.sn
    have hk := hS.hk
    show X_ShakeHands_count fuel a0 M = _
    unfold X_ShakeHands_count cntF
    have ha := anyN_lt hS.hA.1 S.R.1
    have hl := allN_lt S.A.W S.R.1
    rw [x_known hS hM, bd_ret, x_all hS hM, bd_ret, bitCount_eq _ ha, bd_ret, bitCount_eq _ hl, bd_ret, hM.a.2.1, bitCount_eq _ (by omega), bd_ret, hM.kp, bitCount_eq _ (by omega), bd_ret, hM.tl]
    by_cases h0 : a0 = 0
    · rw [if_pos h0, if_pos h0]
    rw [if_neg h0, if_neg h0]
    by_cases h1 : a0 = 1
    · rw [if_pos h1, if_pos h1]
    rw [if_neg h1, if_neg h1]
    by_cases h2 : a0 = 2
    · rw [if_pos h2, if_pos h2]
    rw [if_neg h2, if_neg h2]
    by_cases h3 : a0 = 3
    · rw [if_pos h3, if_pos h3]
    rw [if_neg h3, if_neg h3]
    by_cases h4 : a0 = 4
    · rw [if_pos h4, if_pos h4]
    rw [if_neg h4, if_neg h4]
    by_cases h5 : a0 = 5
    · rw [if_pos h5, if_pos h5, gd_in v04]
      have hs := hM.sh 0 (by decide)
      show (if M.1 41 0 = 0 then some (-4, M) else gd 0 4 (some (M.1 41 1, M))) = _
      cases hq : S.sh 0 with
      | none =>
        rw [hq] at hs
        have hs : M.1 41 0 = 0 := hs
        rw [if_pos hs]
      | some q =>
        obtain ⟨l, z⟩ := q
        rw [hq] at hs
        obtain ⟨s1, s2, -⟩ := hs
        have s1 : M.1 41 0 = 1 := s1
        have s2 : M.1 41 1 = nI z := s2
        rw [s1, if_neg i10, gd_in v04, s2]
    rw [if_neg h5, if_neg h5]
  · show ∃ M', X_Model_count fuel a0 M = _ ∧ _
    have hg := hS.sn
    have hk := hS.hk
    have ha := anyN_lt hS.hA.1 S.R.1
    have hl := allN_lt S.A.W S.R.1
    have h6 := hS.p6
    unfold X_Model_count
    obtain ⟨N, q1, q2⟩ := m_all_L hS hM a0 _ _ 0 fuel M rfl (Nat.zero_le _) (by have := fu; omega) Fr.rf
    have hMN := hM.fr hS (mh_S q2)
    refine Exists.imp (fun M' (h : _ ∧ _) => ⟨Eq.trans q1 h.1, h.2⟩) ?_
    unfold cntF
    by_cases h0 : a0 = 0
    · rw [if_pos h0, if_pos h0, m_anyNow hS hMN, bd_ret, m_bitsOf fuel (by decide) ha, bd_ret]
      exact ⟨_, rfl, mh_S (q2.trans (m0_fr N))⟩
    rw [if_neg h0, if_neg h0]
    by_cases h1 : a0 = 1
    · rw [if_pos h1, if_pos h1, m_bitsOf fuel (by decide) hl, bd_ret]
      exact ⟨_, rfl, mh_S q2⟩
    rw [if_neg h1, if_neg h1]
    by_cases h2 : a0 = 2
    · have h66 := hMN.a.2.2.1
      rw [Nat.zero_add] at h66
      rw [if_pos h2, if_pos h2, m_seen hMN.c.1 hS.p6 hS.hA.2.2.2.1 h66, bd_ret]
      exact ⟨_, rfl, mh_S q2⟩
    rw [if_neg h2, if_neg h2]
    by_cases h3 : a0 = 3
    · have e0 := hMN.kp 0 (by decide)
      have e1 := hMN.kp 1 (by decide)
      have fl : ∀ (c : Bool) (N : Mem), X_Model_flag fuel (nI (if c then 1 else 0)) N = some (nI (if c then 1 else 0), N) := fun c N => by cases c <;> rfl
      rw [if_pos h3, if_pos h3, gd_in v02]
      show ∃ M', bd (X_Model_flag fuel (N.1 2 0) N) (fun r6 M7 => gd 1 2 (bd (X_Model_flag fuel (M7.1 2 1) M7) fun r8 M9 => some (r6 + r8, M9))) = _ ∧ _
      rw [e0, fl, bd_ret, gd_in v12, e1, fl, bd_ret, ← pop_kp _ hk]
      exact ⟨_, rfl, mh_S q2⟩
    rw [if_neg h3, if_neg h3]
    by_cases h4 : a0 = 4
    · rw [if_pos h4, if_pos h4, hMN.tl]
      exact ⟨_, rfl, mh_S q2⟩
    rw [if_neg h4, if_neg h4]
    by_cases h5 : a0 = 5
    · rw [if_pos h5, if_pos h5, gd_in v04]
      have hs := hMN.sh 0 (by decide)
      show ∃ M', (if N.1 23 0 = -4 then some (-4, N) else gd 0 4 (some (N.1 24 0, N))) = _ ∧ _
      refine ⟨N, ?_, mh_S q2⟩
      cases hq : S.sh 0 with
      | none =>
        rw [hq] at hs
        have hs : N.1 23 0 = -4 := hs
        rw [if_pos hs]
      | some q =>
        obtain ⟨l, z⟩ := q
        rw [hq] at hs
        obtain ⟨s1, s2, -⟩ := hs
        have hl3 := (hS.hs 0 l z hq).1
        rw [s1, if_neg (i_ne4 (by omega)), gd_in v04, s2]
    rw [if_neg h5, if_neg h5]
    exact ⟨_, rfl, mh_S q2⟩
end
section
/-! CALLS: keep, back -/
def updI (I : Nat → Mi) (k : Nat) (m : Mi) : Nat → Mi := fun j => if j = k then m else I j
def kpU (k : Nat) (S : Ab) : Int32 × Ab := (nI (if S.kp.testBit k then 1 else 0), (S.R, S.A, updI S.I k S.A, S.kp ||| 2 ^ k, S.tp, S.ft, S.tn, S.sh, S.ce))
theorem x_isImage (p : Int32) (M : Mem) : X_ShakeHands_isImage fuel p M = some (if vN p 2 then 1 else 0, M) := by
  unfold X_ShakeHands_isImage
  rw [show (2 : Int32) = nI 2 from rfl, x_in]
  split <;> rfl
theorem cpI_at {M : Mem} {a sp b dp n k : Nat} (h : k < n) : (cpI M a sp b dp n).1 b (dp + k) = M.1 a (sp + k) := cp_at h
theorem minds_copy (o q : Nat) (hq : q + 2 < o ∨ o + 2 < q) {M : Mem} {m : Mi} (h : XMi M q m) : ∃ M', X_Minds_copy fuel o q M = some ((), M') ∧ XMi M' o m ∧ Off [o, o + 1, o + 2] M M' := by
  obtain ⟨a1, a2, a3, a4⟩ := h
  have un : X_Minds_copy fuel o q M = some ((), cpI (si (si (cpL M (q + 1) 0 (o + 1) 0 6) o 1 ((cpL M (q + 1) 0 (o + 1) 0 6).1 q 1)) o 2 ((si (cpL M (q + 1) 0 (o + 1) 0 6) o 1 ((cpL M (q + 1) 0 (o + 1) 0 6).1 q 1)).1 q 2)) (q + 2) 0 (o + 2) 0 6) := by
    unfold X_Minds_copy gc nm
    rw [if_neg (by decide)]
    dsimp only
    rw [if_neg (by decide)]
    rfl
  have e1 : (cpL M (q + 1) 0 (o + 1) 0 6).1 q 1 = nI m.gl := a1
  have e2 : (si (cpL M (q + 1) 0 (o + 1) 0 6) o 1 (nI m.gl)).1 q 2 = nI m.sn := by rw [si_ne (Or.inl (by omega))]; exact a2
  rw [e1, e2] at un
  refine ⟨_, un, ⟨?_, ?_, ?_, ?_⟩, ?_⟩
  · rw [(cpI_off (by omega)).1, si_ne (Or.inr (by decide)), si_at]
  · rw [(cpI_off (by omega)).1, si_at]
  · intro p hp
    show (if o + 1 = o + 1 ∧ 0 ≤ p ∧ p < 0 + 6 then M.2 (q + 1) (0 + (p - 0)) else _) = _
    rw [if_pos ⟨rfl, by omega, by omega⟩, Nat.zero_add, Nat.sub_zero]
    exact a3 p hp
  · intro p hp hs
    have := cp_at (M := si (si (cpL M (q + 1) 0 (o + 1) 0 6) o 1 (nI m.gl)) o 2 (nI m.sn)) (a := q + 2) (sp := 0) (b := o + 2) (dp := 0) (n := 6) hp
    rw [Nat.zero_add] at this
    rw [this, si_ne (Or.inl (by omega)), si_ne (Or.inl (by omega))]
    exact a4 p hp hs
  · exact (((Off.cpL (by simp)).trans (Off.si (by simp))).trans (Off.si (by simp))).trans (Off.cpI (by simp))
theorem img_id {k : Nat} (hk : k < 2) : ([20, 23] : List Nat).getD k 0 = 20 + 3 * k := by
  match k, hk with
  | 0, _ => rfl
  | 1, _ => rfl
theorem kp_set {k j kp : Nat} : (kp ||| 2 ^ k).testBit j = (kp.testBit j || decide (k = j)) := or_bit _ _ _
theorem m_keep_L {k : Nat} (hk : k < 2) (a2 : Int32) (N : Mem) : X_Model_keep_L31 fuel (nI k) a2 fuel (nI 0) N = some (a2, cpI N 1 0 1 (78 * (k + 1)) 78) := by
  have key : ∀ (d i f : Nat), 78 - i = d → i ≤ 78 → d < f → X_Model_keep_L31 fuel (nI k) a2 f (nI i) (cpI N 1 0 1 (78 * (k + 1)) i) = some (a2, cpI N 1 0 1 (78 * (k + 1)) 78) := by
    intro d
    induction d with
    | zero =>
      intro i f h1 h2 h3
      obtain ⟨f, rfl⟩ : ∃ g, f = g + 1 := ⟨f - 1, by omega⟩
      have e : i = 78 := by omega
      subst e
      show (if (78 : Int32) ≤ nI 78 then _ else _) = _
      rw [if_pos (by decide)]
    | succ d ih =>
      intro i f h1 h2 h3
      obtain ⟨f, rfl⟩ : ∃ g, f = g + 1 := ⟨f - 1, by omega⟩
      generalize hN : cpI N 1 0 1 (78 * (k + 1)) i = P
      show (if (78 : Int32) ≤ nI i then _ else gd (nI i) 234 (gd (((78 : Int32) * (nI k + 1)) + nI i) 234 (X_Model_keep_L31 fuel (nI k) a2 f (nI i + 1) (si P 1 ((((78 : Int32) * (nI k + 1)) + nI i).toNatClampNeg) (P.1 1 (nI i).toNatClampNeg))))) = _
      rw [if_neg (show ¬ (78 : Int32) ≤ nI i from nI_ge (b := 78) (by omega) (by decide)), gd_in (vp_in_nI (by omega) (by decide)), nI_1, show (78 : Int32) = nI 78 from rfl, pk_mul, nI_add, gd_in (vp_in_nI (by omega) (by decide)), nI_clamp (by omega), nI_clamp (by omega), nI_1, ← hN]
      have := cp_step (M := N) (a := 1) (sp := 0) (b := 1) (dp := 78 * (k + 1)) (i := i) (Or.inr (Or.inl (by omega)))
      rw [Nat.zero_add] at this
      rw [this]
      exact ih (i + 1) f (by omega) (by omega) (by omega)
  have := key 78 0 fuel rfl (by decide) (by decide)
  rw [cp_0] at this
  exact this
theorem MMi.cp {N : Mem} {sp dp : Nat} {m : Mi} (h : MMi N sp m) (hW : OkW m.W) : MMi (cpI N 1 sp 1 dp 78) dp m := by
  obtain ⟨a1, a2, a3, a4⟩ := h
  refine ⟨fun p hp => ⟨?_, fun i t hi => ?_⟩, fun p hp => ?_, fun p hp => ?_, fun p hp hs => ?_⟩
  · rw [cp_at (by omega)]; exact (a1 p hp).1
  · have hl := (List.getElem?_eq_some_iff.mp hi).1
    have := (hW p).2
    rw [show dp + 10 * p + 1 + i = dp + (10 * p + 1 + i) by omega, cp_at (by omega), ← (a1 p hp).2 i t hi, show sp + 10 * p + 1 + i = sp + (10 * p + 1 + i) by omega]
  · rw [show dp + 60 + p = dp + (60 + p) by omega, cp_at (by omega), ← a2 p hp, show sp + 60 + p = sp + (60 + p) by omega]
  · rw [show dp + 66 + p = dp + (66 + p) by omega, cp_at (by omega), ← a3 p hp, show sp + 66 + p = sp + (66 + p) by omega]
  · rw [show dp + 72 + p = dp + (72 + p) by omega, cp_at (by omega), ← a4 p hp hs, show sp + 72 + p = sp + (72 + p) by omega]
theorem sim_keep (a0 : Int32) : Sm (fun M => X_ShakeHands_keep fuel a0 M) (fun M => X_Model_keep fuel a0 M) := by
  refine Sm_u (u := fun S => if vN a0 2 then kpU (pN a0) S else (-1, S)) (fun M S hS hM => ?_) (fun M S hS hM => ?_) (fun S hS => ?_)
  · dsimp only
    have hk4 := hS.hk
    unfold X_ShakeHands_keep
    rw [x_isImage, bd_ret]
    by_cases h : vN a0 2 = true
    · obtain ⟨h1, h2⟩ := vN_y (by decide) h
      rw [if_pos h, if_pos h, if_neg i10]
      generalize pN a0 = k at *
      subst h2
      simp only [nm]
      rw [hM.kp, b_iu (by omega) (by omega), gd_in (vp_in_nI (by omega) (by decide)), nI_clamp (by omega), img_id h1]
      obtain ⟨M1, g1, g2, g3⟩ := minds_copy (20 + 3 * k) 16 (by omega) hM.a
      have e9 : M1.1 0 9 = nI S.kp := by rw [(g3 0 (by simp; omega)).1]; exact hM.kp
      rw [g1, bd_ret, e9, i_shl1 (by omega), i_or]
      have hf : Off [20 + 3 * k, 20 + 3 * k + 1, 20 + 3 * k + 2, 0] M (si M1 0 9 (nI (S.kp ||| 2 ^ k))) := (g3.mono (by simp)).trans (Off.si (by simp))
      have off : ∀ a, a ≠ 0 → (a < 20 ∨ 26 ≤ a) → (si M1 0 9 (nI (S.kp ||| 2 ^ k))).1 a = M.1 a := fun a h1 h2 => (hf a (by simp; omega)).1
      refine ⟨_, rfl, ?_⟩
      refine ⟨hM.c.off hf (by simp; omega), hM.a.off hf (by simp; omega) (by simp; omega) (by simp; omega), fun j hj hs => ?_, si_at _ _ _ _, ?_, ?_, fun i x hx => ?_, ?_, fun j hj => (hM.sh j hj).off hf (by simp; omega) (by simp; omega)⟩
      · show XMi _ (20 + 3 * j) (if j = k then S.A else S.I j)
        by_cases e : j = k
        · rw [if_pos e, e]
          exact g2.off (S := [0]) (Off.si (by simp)) (by simp) (by simp) (by simp)
        · rw [if_neg e]
          have hs' : (S.kp ||| 2 ^ k).testBit j = true := hs
          rw [kp_set] at hs'
          have hs2 : S.kp.testBit j = true := by simpa [show ¬ k = j from fun z => e z.symm] using hs'
          exact (hM.i j hj hs2).off hf (by simp; omega) (by simp; omega) (by simp; omega)
      · rw [si_ne (Or.inr (by decide)), (g3 0 (by simp; omega)).1]; exact hM.tn
      · rw [off 1 (by decide) (by decide)]; exact hM.tl
      · rw [off 2 (by decide) (by decide)]; exact hM.tb i x hx
      · rw [off 3 (by decide) (by decide)]; exact hM.ft
    · rw [if_neg h, if_neg h, if_pos rfl]
      exact ⟨M, rfl, hM⟩
  · dsimp only
    unfold X_Model_keep
    have e3 := m_inV fuel (P := 2) (by decide) a0 M
    rw [show (nI 2 - 1 : Int32).toInt64 = 1 by decide] at e3
    rw [e3, bd_ret]
    by_cases h : vN a0 2 = true
    · obtain ⟨h1, h2⟩ := vN_y (by decide) h
      rw [if_pos h, if_pos h, if_neg i10]
      generalize pN a0 = k at *
      subst h2
      have fl : ∀ (c : Bool) (N : Mem), X_Model_flag fuel (nI (if c then 1 else 0)) N = some (nI (if c then 1 else 0), N) := fun c N => by cases c <;> rfl
      have hv : vp_in (nI k) 2 := vp_in_nI (by omega) (by decide)
      rw [gd_in hv, nI_clamp (by omega), hM.kp k h1, fl, bd_ret, gd_in hv, show vp_nar .boolean 1 = 1 from rfl, show (0 : Int32) = nI 0 from rfl, m_keep_L h1]
      generalize hP : si M 2 k 1 = P
      have hf1 : Fr (fun a j => a = 2 ∧ j = k) M P := by rw [← hP]; exact Fr.si ⟨rfl, rfl⟩
      have hf : Fr (fun a j => (a = 2 ∧ j = k) ∨ rg 1 (78 * (k + 1)) 78 a j) M (cpI P 1 0 1 (78 * (k + 1)) 78) := (hf1.mono (fun _ _ h => Or.inl h)).trans (Fr.cpI (fun j h1 h2 => Or.inr ⟨rfl, h1, h2⟩))
      refine ⟨_, rfl, ?_⟩
      refine ⟨hM.c.fr hf (fun j hj => by simp only [List.mem_cons, List.not_mem_nil, or_false] at hj; unfold rg; omega) (fun a j ha => by simp only [List.mem_cons, List.not_mem_nil, or_false] at ha; unfold rg; omega), hM.a.fr hS.hA.1 hf (fun j _ _ => by unfold rg; omega), fun j hj hs => ?_, fun j hj => ?_, ?_, ?_, fun i x hx => ?_, ?_, fun j hj => (hM.sh j hj).fr hf (fun a i _ _ => by unfold rg; omega)⟩
      · show MMi _ (78 * (j + 1)) (if j = k then S.A else S.I j)
        by_cases e : j = k
        · rw [if_pos e, e]
          exact (hM.a.fr hS.hA.1 hf1 (fun j _ _ => by omega)).cp hS.hA.1
        · rw [if_neg e]
          have hs' : (S.kp ||| 2 ^ k).testBit j = true := hs
          rw [kp_set] at hs'
          have hs2 : S.kp.testBit j = true := by simpa [show ¬ k = j from fun z => e z.symm] using hs'
          exact (hM.i j hj hs2).fr (hS.hI j hj hs2).1 hf (fun i _ _ => by unfold rg; omega)
      · show _ = nI (if (S.kp ||| 2 ^ k).testBit j then 1 else 0)
        rw [(cpI_off (by decide)).1, kp_set, ← hP]
        by_cases e : j = k
        · rw [e, si_at]; simp; rfl
        · rw [si_ne (Or.inr e), hM.kp j hj]
          simp [show ¬ k = j from fun z => e z.symm]
      · rw [(hf 0 54 (by unfold rg; omega)).1]; exact hM.tn
      · rw [(hf 0 26 (by unfold rg; omega)).1]; exact hM.tl
      · rw [(hf 14 i (by unfold rg; omega)).1]; exact hM.tb i x hx
      · rw [(hf 0 31 (by unfold rg; omega)).1]; exact hM.ft
    · rw [if_neg h, if_neg h, if_pos rfl]
      exact ⟨M, rfl, hM⟩
  · split
    · next h =>
      obtain ⟨h1, h2⟩ := vN_y (by decide) h
      refine ⟨hS.hR, hS.hA, fun j hj hs => ?_, ?_, hS.ht, hS.hb, hS.hf, hS.hn, hS.hs⟩
      · show OkMi S.R.1 (if j = pN a0 then S.A else S.I j)
        split
        · exact hS.hA
        · next e =>
          have hs' : (S.kp ||| 2 ^ pN a0).testBit j = true := hs
          rw [kp_set] at hs'
          exact hS.hI j hj (by simpa [show ¬ pN a0 = j from fun z => e z.symm] using hs')
      · exact or_lt (P := 2) hS.hk h1
    · exact hS
theorem m_back_L {k : Nat} (hk : k < 2) (kx : Mem → Option (Int32 × Mem)) (N : Mem) : X_Model_back_L26 fuel (nI k) kx fuel (nI 0) N = kx (cpI N 1 (78 * (k + 1)) 1 0 78) := by
  have key : ∀ (d i f : Nat), 78 - i = d → i ≤ 78 → d < f → X_Model_back_L26 fuel (nI k) kx f (nI i) (cpI N 1 (78 * (k + 1)) 1 0 i) = kx (cpI N 1 (78 * (k + 1)) 1 0 78) := by
    intro d
    induction d with
    | zero =>
      intro i f h1 h2 h3
      obtain ⟨f, rfl⟩ : ∃ g, f = g + 1 := ⟨f - 1, by omega⟩
      have e : i = 78 := by omega
      subst e
      show (if (78 : Int32) ≤ nI 78 then _ else _) = _
      rw [if_pos (by decide)]
    | succ d ih =>
      intro i f h1 h2 h3
      obtain ⟨f, rfl⟩ : ∃ g, f = g + 1 := ⟨f - 1, by omega⟩
      generalize hN : cpI N 1 (78 * (k + 1)) 1 0 i = P
      show (if (78 : Int32) ≤ nI i then _ else gd (((78 : Int32) * (nI k + 1)) + nI i) 234 (gd (nI i) 234 (X_Model_back_L26 fuel (nI k) kx f (nI i + 1) (si P 1 ((nI i).toNatClampNeg) (P.1 1 (((78 : Int32) * (nI k + 1)) + nI i).toNatClampNeg))))) = _
      rw [if_neg (show ¬ (78 : Int32) ≤ nI i from nI_ge (b := 78) (by omega) (by decide)), nI_1, show (78 : Int32) = nI 78 from rfl, pk_mul, nI_add, gd_in (vp_in_nI (by omega) (by decide)), gd_in (vp_in_nI (by omega) (by decide)), nI_clamp (by omega), nI_clamp (by omega), nI_1, ← hN]
      have := cp_step (M := N) (a := 1) (sp := 78 * (k + 1)) (b := 1) (dp := 0) (i := i) (Or.inr (Or.inr (by omega)))
      rw [Nat.zero_add] at this
      rw [this]
      exact ih (i + 1) f (by omega) (by omega) (by omega)
  have := key 78 0 fuel rfl (by decide) (by decide)
  rw [cp_0] at this
  exact this
def bkU (k : Nat) (S : Ab) : Int32 × Ab := (nI (anyN (S.I k).W S.R.1), S.setA (S.I k))
theorem sim_back (a0 : Int32) : Sm (fun M => X_ShakeHands_back fuel a0 M) (fun M => X_Model_back fuel a0 M) := by
  refine Sm_u (u := fun S => if vN a0 2 then (if S.kp.testBit (pN a0) then bkU (pN a0) S else (-2, S)) else (-1, S)) (fun M S hS hM => ?_) (fun M S hS hM => ?_) (fun S hS => ?_)
  · dsimp only
    have hk4 := hS.hk
    unfold X_ShakeHands_back
    rw [x_isImage, bd_ret]
    by_cases h : vN a0 2 = true
    · obtain ⟨h1, h2⟩ := vN_y (by decide) h
      rw [if_pos h, if_pos h, if_neg i10]
      generalize pN a0 = k at *
      subst h2
      rw [hM.kp, b_iu (by omega) (by omega)]
      by_cases e : S.kp.testBit k = true
      · rw [if_pos e, if_pos e, if_neg (by decide), gd_in (vp_in_nI (by omega) (by decide)), nI_clamp (by omega), img_id h1]
        obtain ⟨M1, g1, g2, g3⟩ := minds_copy 16 (20 + 3 * k) (by omega) (hM.i k h1 e)
        have hm := hS.hI k h1 e
        rw [g1, bd_ret, minds_known fuel (by decide) hm.1 g2.2.2.1, anyN_6 hS.p6 hm.2.1, bd_ret]
        exact ⟨M1, rfl, hM.newA (g3.mono (by decide)) g2⟩
      · rw [if_neg e, if_neg e, if_pos (by decide)]
        exact ⟨M, rfl, hM⟩
    · rw [if_neg h, if_neg h, if_pos rfl]
      exact ⟨M, rfl, hM⟩
  · dsimp only
    unfold X_Model_back
    have e3 := m_inV fuel (P := 2) (by decide) a0 M
    rw [show (nI 2 - 1 : Int32).toInt64 = 1 by decide] at e3
    rw [e3, bd_ret]
    by_cases h : vN a0 2 = true
    · obtain ⟨h1, h2⟩ := vN_y (by decide) h
      rw [if_pos h, if_pos h, if_neg i10]
      generalize pN a0 = k at *
      subst h2
      rw [gd_in (vp_in_nI (by omega) (by decide)), nI_clamp (by omega), hM.kp k h1]
      by_cases e : S.kp.testBit k = true
      · rw [if_pos e, if_pos e, if_neg (by decide), show (0 : Int32) = nI 0 from rfl, m_back_L h1]
        have hm := hS.hI k h1 e
        have hf : Fr (rg 1 0 78) M (cpI M 1 (78 * (k + 1)) 1 0 78) := Fr.cpI (fun j h1 h2 => ⟨rfl, h1, h2⟩)
        have hA : MA (cpI M 1 (78 * (k + 1)) 1 0 78) (S.setA (S.I k)) := hM.newA hS (hf.mono (fun a j q => Or.inr ⟨q.1, by have := q.2; omega⟩)) ((hM.i k h1 e).cp hm.1)
        have hO : Ok (S.setA (S.I k)) := hS.newA hm
        rw [m_anyNow hO hA, bd_ret]
        exact ⟨_, rfl, hA.fr hO (mh_S (m0_fr _))⟩
      · rw [if_neg e, if_neg e, if_pos (by decide)]
        exact ⟨M, rfl, hM⟩
    · rw [if_neg h, if_neg h, if_pos rfl]
      exact ⟨M, rfl, hM⟩
  · split
    · next h =>
      obtain ⟨h1, h2⟩ := vN_y (by decide) h
      split
      · next e => exact hS.newA (hS.hI _ h1 e)
      · exact hS
    · exact hS
end
section
/-! CALLS: sheet, lay, end -/
theorem x_isSheet (p : Int32) (M : Mem) : X_ShakeHands_isSheet fuel p M = some (if vN p 4 then 1 else 0, M) := by
  unfold X_ShakeHands_isSheet
  rw [show (4 : Int32) = nI 4 from rfl, x_in]
  split <;> rfl
theorem x_isLane (p : Int32) (M : Mem) : X_ShakeHands_isLane fuel p M = some (if vN p 3 then 1 else 0, M) := by
  unfold X_ShakeHands_isLane
  rw [show (3 : Int32) = nI 3 from rfl, x_in]
  split <;> rfl
theorem m_isSheet (a b : Int32) (M : Mem) : X_Model_isSheet fuel a b M = some (if vN a 4 && vN b 3 then 1 else 0, M) := by
  unfold X_Model_isSheet
  have e3 := m_inV fuel (P := 4) (by decide) a M
  rw [show (nI 4 - 1 : Int32).toInt64 = 3 by decide] at e3
  have e4 := m_inV fuel (P := 3) (by decide) b M
  rw [show (nI 3 - 1 : Int32).toInt64 = 2 by decide] at e4
  rw [e3, bd_ret, e4, bd_ret]
  cases vN a 4 <;> cases vN b 3 <;> rfl
theorem sh_id {k : Nat} (hk : k < 4) : ([41, 43, 45, 47] : List Nat).getD k 0 = 41 + 2 * k := by
  match k, hk with
  | 0, _ => rfl
  | 1, _ => rfl
  | 2, _ => rfl
  | 3, _ => rfl
-- one sheet is another
def shU (k : Nat) (q : Option (Nat × Nat)) (c : Nat → Int32) (S : Ab) : Ab := (S.R, S.A, S.I, S.kp, S.tp, S.ft, S.tn, (fun j => if j = k then q else S.sh j), (fun j => if j = k then c else S.ce j))
theorem XA.newSh {M M' : Mem} {S : Ab} {k : Nat} {q : Option (Nat × Nat)} {c : Nat → Int32} (h : XA M S) (hk : k < 4) (ho : Off [41 + 2 * k, 42 + 2 * k] M M') (hs : XSh M' k c q) : XA M' (shU k q c S) := by
  have off : ∀ a, (a < 41 ∨ 49 ≤ a) → M'.1 a = M.1 a := fun a ha => (ho a (by simp; omega)).1
  refine ⟨h.c.off ho (by simp; omega), h.a.off ho (by simp; omega) (by simp; omega) (by simp; omega), fun j hj hb => (h.i j hj hb).off ho (by simp; omega) (by simp; omega) (by simp; omega), by rw [off 0 (by decide)]; exact h.kp, by rw [off 0 (by decide)]; exact h.tn, by rw [off 1 (by decide)]; exact h.tl, fun i x hx => by rw [off 2 (by decide)]; exact h.tb i x hx, by rw [off 3 (by decide)]; exact h.ft, fun j hj => ?_⟩
  show XSh M' j (if j = k then c else S.ce j) (if j = k then q else S.sh j)
  by_cases e : j = k
  · rw [if_pos e, if_pos e, e]; exact hs
  · rw [if_neg e, if_neg e]
    exact (h.sh j hj).off ho (by simp; omega) (by simp; omega)
def mSh (k : Nat) (a j : Nat) : Prop := (a = 23 ∧ j = k) ∨ (a = 24 ∧ j = k) ∨ rg 25 (40 * k) 40 a j
theorem MA.newSh {M M' : Mem} {S : Ab} {k : Nat} {q : Option (Nat × Nat)} {c : Nat → Int32} (hS : Ok S) (h : MA M S) (ho : Fr (mSh k) M M') (hs : MSh M' k c q) : MA M' (shU k q c S) := by
  refine ⟨h.c.fr ho (fun k hk => by simp only [List.mem_cons, List.not_mem_nil, or_false] at hk; unfold mSh rg; omega) (fun a k ha => by simp only [List.mem_cons, List.not_mem_nil, or_false] at ha; unfold mSh rg; omega), h.a.fr hS.hA.1 ho (fun k _ _ => by unfold mSh rg; omega), fun j hj hb => (h.i j hj hb).fr (hS.hI j hj hb).1 ho (fun k _ _ => by unfold mSh rg; omega), fun j hj => by rw [(ho 2 j (by unfold mSh rg; omega)).1]; exact h.kp j hj, by rw [(ho 0 54 (by unfold mSh rg; omega)).1]; exact h.tn, by rw [(ho 0 26 (by unfold mSh rg; omega)).1]; exact h.tl, fun i x hx => by rw [(ho 14 i (by unfold mSh rg; omega)).1]; exact h.tb i x hx, by rw [(ho 0 31 (by unfold mSh rg; omega)).1]; exact h.ft, fun j hj => ?_⟩
  show MSh M' j (if j = k then c else S.ce j) (if j = k then q else S.sh j)
  by_cases e : j = k
  · rw [if_pos e, if_pos e, e]; exact hs
  · rw [if_neg e, if_neg e]
    have := h.sh j hj
    cases hq : S.sh j with
    | none =>
      rw [hq] at this
      exact (ho 23 j (by unfold mSh rg; omega)).1.trans this
    | some q =>
      rw [hq] at this
      obtain ⟨a1, a2, a3⟩ := this
      exact ⟨(ho 23 j (by unfold mSh rg; omega)).1.trans a1, (ho 24 j (by unfold mSh rg; omega)).1.trans a2, fun i hi => (ho 25 _ (by unfold mSh rg; omega)).1.trans (a3 i hi)⟩
theorem Ok.newSh {S : Ab} {k : Nat} {q : Option (Nat × Nat)} {c : Nat → Int32} (h : Ok S) (hq : ∀ l z, q = some (l, z) → l < 3 ∧ z ≤ 40) : Ok (shU k q c S) := ⟨h.hR, h.hA, h.hI, h.hk, h.ht, h.hb, h.hf, h.hn, fun j l z hj => by
  have hj' : (if j = k then q else S.sh j) = some (l, z) := hj
  split at hj'
  · exact hq l z hj'
  · exact h.hs j l z hj'⟩
theorem le40 (p : Int32) {α : Type} (A B C : α) : (if p ≤ 40 then (if 0 ≤ p then A else B) else C) = if vN p 41 then A else if p < 0 then B else C := by
  have e : p ≤ 40 ↔ p < nI 41 := by
    rw [Int32.le_iff_toInt_le, Int32.lt_iff_toInt_lt]
    have e1 : (40 : Int32).toInt = 40 := rfl
    have e2 : (nI 41).toInt = 41 := rfl
    omega
  by_cases h : vN p 41 = true
  · have h' := h
    unfold vN at h'
    simp only [Bool.and_eq_true, decide_eq_true_eq] at h'
    rw [if_pos h, if_pos (e.mpr h'.2), if_pos h'.1]
  · rw [if_neg h]
    by_cases h0 : p < 0
    · have : p ≤ 40 := by
        rw [Int32.le_iff_toInt_le]
        rw [Int32.lt_iff_toInt_lt] at h0
        have e1 : (40 : Int32).toInt = 40 := rfl
        have e2 : (0 : Int32).toInt = 0 := rfl
        omega
      rw [if_pos this, if_neg (Int32.not_le.mpr h0), if_pos h0]
    · have : ¬ p ≤ 40 := fun q => h (by unfold vN; simp [e.mp q, Int32.not_lt.mp h0])
      rw [if_neg this, if_neg h0]
theorem sim_sheet (a0 : Int32) (a1 : Int32) (a2 : Int32) : Sm (fun M => X_ShakeHands_sheet fuel a0 a1 a2 M) (fun M => X_Model_sheet fuel a0 a1 a2 M) := by
  refine Sm_u (u := fun S => if vN a0 4 && vN a1 3 then (if vN a2 41 then (1, shU (pN a0) (some (pN a1, pN a2)) (fun _ => 0) S) else if a2 < 0 then (-14, S) else (-1, S)) else (-1, S)) (fun M S hS hM => ?_) (fun M S hS hM => ?_) (fun S hS => ?_)
  · dsimp only
    unfold X_ShakeHands_sheet
    rw [x_isSheet, bd_ret, x_isLane, bd_ret, le40]
    by_cases h : vN a0 4 = true
    · obtain ⟨h1, h2⟩ := vN_y (by decide) h
      rw [if_pos h, if_neg i10]
      by_cases h' : vN a1 3 = true
      · obtain ⟨h3, h4⟩ := vN_y (by decide) h'
        rw [if_pos h', if_neg i10, if_pos (show (vN a0 4 && vN a1 3) = true by simp [h, h'])]
        by_cases h'' : vN a2 41 = true
        · obtain ⟨h5, h6⟩ := vN_y (by decide) h''
          rw [if_pos h'', if_pos h'']
          generalize pN a0 = k at *
          generalize pN a1 = l at *
          generalize pN a2 = z at *
          subst h2 h4 h6
          rw [gd_in (vp_in_nI (by omega) (by decide)), nI_clamp (by omega), sh_id h1]
          have key : ∀ (d i f : Nat) (N : Mem), 40 - i = d → i ≤ 40 → d < f → (∀ j, j < i → N.1 (42 + 2 * k) j = 0) → ∃ M', X_Sheet_renew_L17 fuel (41 + 2 * k) f (nI i) N = some ((), M') ∧ Off [42 + 2 * k] N M' ∧ ∀ j, j < 40 → M'.1 (42 + 2 * k) j = 0 := by
            intro d
            induction d with
            | zero =>
              intro i f N g1 g2 g3 g4
              obtain ⟨f, rfl⟩ : ∃ g, f = g + 1 := ⟨f - 1, by omega⟩
              have e : i = 40 := by omega
              subst e
              refine ⟨N, ?_, Off.rf, g4⟩
              show (if (40 : Int32) ≤ nI 40 then _ else _) = _
              rw [if_pos (by decide)]
            | succ d ih =>
              intro i f N g1 g2 g3 g4
              obtain ⟨f, rfl⟩ : ∃ g, f = g + 1 := ⟨f - 1, by omega⟩
              obtain ⟨M', q1, q2, q3⟩ := ih (i + 1) f (si N (42 + 2 * k) i 0) (by omega) (by omega) (by omega) (fun j hj => by
                by_cases e : j = i
                · rw [e, si_at]
                · rw [si_ne (Or.inr e)]; exact g4 j (by omega))
              refine ⟨M', ?_, (Off.si (by simp)).trans q2, q3⟩
              show (if (40 : Int32) ≤ nI i then _ else gd (nI i) 40 (X_Sheet_renew_L17 fuel (41 + 2 * k) f (nI i + 1) (si N (41 + 2 * k + 1) (nI i).toNatClampNeg 0))) = _
              rw [if_neg (show ¬ (40 : Int32) ≤ nI i from nI_ge (b := 40) (by omega) (by decide)), gd_in (vp_in_nI (by omega) (by decide)), nI_clamp (by omega), nI_1, show 41 + 2 * k + 1 = 42 + 2 * k by omega]
              exact q1
          obtain ⟨M', q1, q2, q3⟩ := key 40 0 fuel (si (si (si M (41 + 2 * k) 0 1) (41 + 2 * k) 2 (nI l)) (41 + 2 * k) 1 (nI z)) rfl (by decide) (by decide) (fun j hj => by omega)
          have q0 : X_Sheet_renew fuel (41 + 2 * k) (nI l) (nI z) M = some ((), M') := q1
          have e41 := (q2 (41 + 2 * k) (by simp)).1
          rw [q0, bd_ret]
          refine ⟨M', rfl, hM.newSh h1 ((((Off.si (by simp)).trans (Off.si (by simp))).trans (Off.si (by simp))).trans (q2.mono (by simp))) ⟨?_, ?_, ?_, q3⟩⟩
          · rw [e41, si_ne (Or.inr (by decide)), si_ne (Or.inr (by decide)), si_at]
          · rw [e41, si_at]
          · rw [e41, si_ne (Or.inr (by decide)), si_at]
        · rw [if_neg h'', if_neg h'']
          split <;> exact ⟨M, rfl, hM⟩
      · rw [if_neg h', if_pos rfl, if_neg (show ¬ (vN a0 4 && vN a1 3) = true by simp [h'])]
        exact ⟨M, rfl, hM⟩
    · rw [if_neg h, if_pos rfl, if_neg (show ¬ (vN a0 4 && vN a1 3) = true by simp [h])]
      exact ⟨M, rfl, hM⟩
  · dsimp only
    unfold X_Model_sheet
    rw [m_isSheet, bd_ret, le40]
    by_cases h : (vN a0 4 && vN a1 3) = true
    · rw [if_pos h, if_pos h, if_neg i10]
      simp only [Bool.and_eq_true] at h
      obtain ⟨h1, h2⟩ := vN_y (by decide) h.1
      obtain ⟨h3, h4⟩ := vN_y (by decide) h.2
      by_cases h'' : vN a2 41 = true
      · obtain ⟨h5, h6⟩ := vN_y (by decide) h''
        rw [if_pos h'', if_pos h'']
        generalize pN a0 = k at *
        generalize pN a1 = l at *
        generalize pN a2 = z at *
        subst h2 h4 h6
        have hv : vp_in (nI k) 4 := vp_in_nI (by omega) (by decide)
        rw [gd_in hv, gd_in hv, nI_clamp (by omega)]
        have key : ∀ (d i f : Nat) (N : Mem), 40 - i = d → i ≤ 40 → d < f → (∀ j, j < i → N.1 25 (40 * k + j) = 0) → ∃ M', X_Model_sheet_L40 fuel (nI k) f (nI i) N = some (1, M') ∧ Fr (rg 25 (40 * k) 40) N M' ∧ ∀ j, j < 40 → M'.1 25 (40 * k + j) = 0 := by
          intro d
          induction d with
          | zero =>
            intro i f N g1 g2 g3 g4
            obtain ⟨f, rfl⟩ : ∃ g, f = g + 1 := ⟨f - 1, by omega⟩
            have e : i = 40 := by omega
            subst e
            refine ⟨N, ?_, Fr.rf, g4⟩
            show (if (40 : Int32) ≤ nI 40 then _ else _) = _
            rw [if_pos (by decide)]
          | succ d ih =>
            intro i f N g1 g2 g3 g4
            obtain ⟨f, rfl⟩ : ∃ g, f = g + 1 := ⟨f - 1, by omega⟩
            obtain ⟨M', q1, q2, q3⟩ := ih (i + 1) f (si N 25 (40 * k + i) 0) (by omega) (by omega) (by omega) (fun j hj => by
              by_cases e : j = i
              · rw [e, si_at]
              · rw [si_ne (Or.inr (by omega))]; exact g4 j (by omega))
            refine ⟨M', ?_, (Fr.si ⟨rfl, by omega, by omega⟩).trans q2, q3⟩
            show (if (40 : Int32) ≤ nI i then _ else gd (((40 : Int32) * nI k) + nI i) 160 (X_Model_sheet_L40 fuel (nI k) f (nI i + 1) (si N 25 (((40 : Int32) * nI k) + nI i).toNatClampNeg 0))) = _
            rw [if_neg (show ¬ (40 : Int32) ≤ nI i from nI_ge (b := 40) (by omega) (by decide)), show (40 : Int32) = nI 40 from rfl, pk_mul, nI_add, gd_in (vp_in_nI (by omega) (by decide)), nI_clamp (by omega), nI_1]
            exact q1
        obtain ⟨M', q1, q2, q3⟩ := key 40 0 fuel (si (si M 23 k (nI l)) 24 k (nI z)) rfl (by decide) (by decide) (fun j hj => by omega)
        refine ⟨M', q1, hM.newSh hS (((Fr.si (Or.inl ⟨rfl, rfl⟩)).trans (Fr.si (Or.inr (Or.inl ⟨rfl, rfl⟩)))).trans (q2.mono (fun _ _ h => Or.inr (Or.inr h)))) ⟨?_, ?_, q3⟩⟩
        · rw [(q2 23 k (by unfold rg; omega)).1, si_ne (Or.inl (by decide)), si_at]
        · rw [(q2 24 k (by unfold rg; omega)).1, si_at]
      · rw [if_neg h'', if_neg h'']
        split <;> exact ⟨M, rfl, hM⟩
    · rw [if_neg h, if_neg h, if_pos rfl]
      exact ⟨M, rfl, hM⟩
  · split
    · next h =>
      simp only [Bool.and_eq_true] at h
      obtain ⟨h3, h4⟩ := vN_y (by decide) h.2
      split
      · next h'' =>
        obtain ⟨h5, h6⟩ := vN_y (by decide) h''
        exact hS.newSh (fun l z hq => by cases hq; exact ⟨h3, by omega⟩)
      · split <;> exact hS
    · exact hS
theorem x_fault {M : Mem} {S : Ab} (hS : Ok S) (hM : XA M S) {k : Nat} (hk : k < 4) (p : Int32) : X_Sheet_faultAt fuel (41 + 2 * k) p M = some (match S.sh k with | none => 1 | some q => if vN p q.2 then 0 else 2, M) := by
  have hs := hM.sh k hk
  unfold X_Sheet_faultAt
  cases hq : S.sh k with
  | none =>
    rw [hq] at hs
    have hs : M.1 (41 + 2 * k) 0 = 0 := hs
    rw [if_pos hs]
  | some q =>
    obtain ⟨l, z⟩ := q
    rw [hq] at hs
    obtain ⟨s1, s2, s3, s4⟩ := hs
    have s1 : M.1 (41 + 2 * k) 0 = 1 := s1
    rw [s1, if_neg i10, s2]
    show _ = some (if vN p z then 0 else 2, M)
    by_cases h : vN p z = true
    · have h' := h
      unfold vN at h'
      simp only [Bool.and_eq_true, decide_eq_true_eq] at h'
      rw [if_pos h, if_neg (Int32.not_lt.mpr h'.1), if_pos h'.2]
    · rw [if_neg h]
      rcases vN_n h with h1 | h1
      · rw [if_pos h1]
      · by_cases h2 : p < 0
        · rw [if_pos h2]
        · rw [if_neg h2, if_neg (Int32.not_lt.mpr h1)]
theorem x_fault_none {M : Mem} {S : Ab} (hS : Ok S) (hM : XA M S) {k : Nat} (hk : k < 4) (hq : S.sh k = none) (p : Int32) : X_Sheet_faultAt fuel (41 + 2 * k) p M = some (1, M) := by
  rw [x_fault hS hM hk, hq]
theorem x_fault_in {M : Mem} {S : Ab} (hS : Ok S) (hM : XA M S) {k l z : Nat} (hk : k < 4) (hq : S.sh k = some (l, z)) {p : Int32} (hv : vN p z = true) : X_Sheet_faultAt fuel (41 + 2 * k) p M = some (0, M) := by
  rw [x_fault hS hM hk, hq]
  show some (if vN p z then (0 : Int32) else 2, M) = _
  rw [if_pos hv]
theorem x_fault_out {M : Mem} {S : Ab} (hS : Ok S) (hM : XA M S) {k l z : Nat} (hk : k < 4) (hq : S.sh k = some (l, z)) {p : Int32} (hv : ¬ vN p z = true) : X_Sheet_faultAt fuel (41 + 2 * k) p M = some (2, M) := by
  rw [x_fault hS hM hk, hq]
  show some (if vN p z then (0 : Int32) else 2, M) = _
  rw [if_neg hv]
theorem sim_end (a0 : Int32) : Sm (fun M => X_ShakeHands_end fuel a0 M) (fun M => X_Model_end fuel a0 M) := by
  refine Sm_u (u := fun S => if vN a0 (S.tp.length + 1) then (nI S.tp.length, (S.R, S.A, S.I, S.kp, S.tp.take (pN a0), S.ft, S.tn, S.sh, S.ce)) else (-1, S)) (fun M S hS hM => ?_) (fun M S hS hM => ?_) (fun S hS => ?_)
  · dsimp only
    have ht := hS.ht
    unfold X_ShakeHands_end
    have e : a0 ≤ M.1 1 1 ↔ ¬ nI (S.tp.length + 1) ≤ a0 := by
      rw [hM.tl, Int32.le_iff_toInt_le, Int32.le_iff_toInt_le, nI_toInt (by omega), nI_toInt (by omega)]
      omega
    have un : (if a0 < 0 then some (-1, M) else if a0 ≤ M.1 1 1 then nm (M.1 1 1) (fun x1 => some (x1, si M 1 1 a0)) else some (-1, M)) = if vN a0 (S.tp.length + 1) then some (nI S.tp.length, si M 1 1 a0) else some (-1, M) := by
      rw [← x_in]
      by_cases h : a0 < 0
      · rw [if_pos h, if_pos h]
      · rw [if_neg h, if_neg h]
        by_cases h2 : a0 ≤ M.1 1 1
        · rw [if_pos h2, if_neg (e.mp h2), hM.tl]; rfl
        · rw [if_neg h2, if_pos (Decidable.of_not_not (fun q => h2 (e.mpr q)))]
    rw [un]
    by_cases h : vN a0 (S.tp.length + 1) = true
    · obtain ⟨h1, h2⟩ := vN_y (by omega) h
      rw [if_pos h, if_pos h]
      generalize pN a0 = k at *
      subst h2
      have hf : Off [1] M (si M 1 1 (nI k)) := Off.si (by simp)
      refine ⟨_, rfl, hM.c.off hf (by decide), hM.a.off hf (by decide) (by decide) (by decide), fun j hj hb => (hM.i j hj hb).off hf (fun q => by have := List.mem_singleton.mp q; omega) (fun q => by have := List.mem_singleton.mp q; omega) (fun q => by have := List.mem_singleton.mp q; omega), hM.kp, hM.tn, ?_, fun i x hx => ?_, hM.ft, fun j hj => (hM.sh j hj).off hf (fun q => by have := List.mem_singleton.mp q; omega) (fun q => by have := List.mem_singleton.mp q; omega)⟩
      · rw [si_at]
        show nI k = nI (S.tp.take k).length
        rw [List.length_take, Nat.min_eq_left (by omega)]
      · refine hM.tb i x ?_
        have hx' : (S.tp.take k)[i]? = some x := hx
        rw [List.getElem?_take] at hx'
        split at hx'
        · exact hx'
        · cases hx'
    · rw [if_neg h, if_neg h]
      exact ⟨M, rfl, hM⟩
  · dsimp only
    have ht := hS.ht
    unfold X_Model_end
    have e3 := m_inV fuel (P := S.tp.length + 1) (by omega) a0 M
    rw [show nI (S.tp.length + 1) - 1 = nI S.tp.length from pk_sub (b := 1) (by omega)] at e3
    rw [hM.tl, e3, bd_ret]
    by_cases h : vN a0 (S.tp.length + 1) = true
    · obtain ⟨h1, h2⟩ := vN_y (by omega) h
      rw [if_pos h, if_pos h, if_neg i10]
      generalize pN a0 = k at *
      subst h2
      unfold nm
      dsimp only
      rw [hM.tl]
      have hf : Fr (fun a j => a = 0 ∧ j = 26) M (si M 0 26 (nI k)) := Fr.si ⟨rfl, rfl⟩
      refine ⟨_, rfl, hM.c.fr hf (fun k hk => by simp only [List.mem_cons, List.not_mem_nil, or_false] at hk; omega) (fun a k ha => by simp only [List.mem_cons, List.not_mem_nil, or_false] at ha; omega), hM.a.fr hS.hA.1 hf (fun k _ _ => by omega), fun j hj hb => (hM.i j hj hb).fr (hS.hI j hj hb).1 hf (fun k _ _ => by omega), hM.kp, hM.tn, ?_, fun i x hx => ?_, hM.ft, fun j hj => (hM.sh j hj).fr hf (fun a i _ _ => by omega)⟩
      · rw [si_at]
        show nI k = nI (S.tp.take k).length
        rw [List.length_take, Nat.min_eq_left (by omega)]
      · refine hM.tb i x ?_
        have hx' : (S.tp.take k)[i]? = some x := hx
        rw [List.getElem?_take] at hx'
        split at hx'
        · exact hx'
        · cases hx'
    · rw [if_neg h, if_neg h, if_pos rfl]
      exact ⟨M, rfl, hM⟩
  · split
    · refine ⟨hS.hR, hS.hA, hS.hI, hS.hk, ?_, fun x hx => hS.hb x (List.mem_of_mem_take hx), hS.hf, hS.hn, hS.hs⟩
      have := hS.ht
      show (S.tp.take (pN a0)).length ≤ 320
      rw [List.length_take]
      omega
    · exact hS
end
section
/-! CALLS: lay, feed -/
def nar (l : Nat) (v : Int32) : Int32 := if l = 0 then v.toInt8.toInt32 else if l = 1 then v.toInt16.toInt32 else v
def layF (k : Nat) (p v : Int32) (S : Ab) : Int32 × Ab := match S.sh k with
  | none => (-11, S)
  | some q => if vN p q.2 then (1, shU k (some q) (fun i => if i = pN p then nar q.1 v else S.ce k i) S) else (-12, S)
theorem nar_x {l : Nat} (hl : l < 3) (v : Int32) {α : Type} (F : Int32 → α) : (if nI l = 0 then F v.toInt8.toInt32 else if nI l = 1 then F v.toInt16.toInt32 else F v) = F (nar l v) := by
  match l, hl with
  | 0, _ => rfl
  | 1, _ => rfl
  | 2, _ => rfl
theorem sim_lay (a0 : Int32) (a1 : Int32) (a2 : Int32) : Sm (fun M => X_ShakeHands_lay fuel a0 a1 a2 M) (fun M => X_Model_lay fuel a0 a1 a2 M) := by
  refine Sm_u (u := fun S => if vN a0 4 then layF (pN a0) a1 a2 S else (-1, S)) (fun M S hS hM => ?_) (fun M S hS hM => ?_) (fun S hS => ?_)
  · dsimp only
    unfold X_ShakeHands_lay
    rw [x_isSheet, bd_ret]
    by_cases h : vN a0 4 = true
    · obtain ⟨h1, h2⟩ := vN_y (by decide) h
      rw [if_pos h, if_pos h, if_neg i10]
      generalize pN a0 = k at *
      subst h2
      have hs := hM.sh k h1
      rw [gd_in (vp_in_nI (by omega) (by decide)), nI_clamp (by omega), sh_id h1]
      unfold layF
      cases hq : S.sh k with
      | none =>
        dsimp only
        rw [x_fault_none hS hM h1 hq, bd_ret, if_neg i10]
        exact ⟨M, rfl, hM⟩
      | some q =>
        obtain ⟨l, z⟩ := q
        rw [hq] at hs
        obtain ⟨s1, s2, s3, s4⟩ := hs
        have s1 : M.1 (41 + 2 * k) 0 = 1 := s1
        have s2 : M.1 (41 + 2 * k) 1 = nI z := s2
        have s3 : M.1 (41 + 2 * k) 2 = nI l := s3
        have hlz := hS.hs k l z hq
        dsimp only
        by_cases hv : vN a1 z = true
        · obtain ⟨h3, h4⟩ := vN_y (by omega) hv
          rw [x_fault_in hS hM h1 hq hv, bd_ret, if_pos hv, if_pos rfl, gd_in (vp_in_nI (by omega) (by decide))]
          have hput : X_Sheet_put fuel (41 + 2 * k) a1 a2 M = some ((), si M (42 + 2 * k) (pN a1) (nar l a2)) := by
            unfold X_Sheet_put
            rw [x_fault_in hS hM h1 hq hv, bd_ret, if_pos rfl, s3]
            unfold nm
            dsimp only
            rw [nar_x hlz.1 a2 (fun u3 => gd a1 40 (some ((), si M (41 + 2 * k + 1) (a1.toNatClampNeg) u3)))]
            generalize pN a1 = i at *
            subst h4
            rw [gd_in (vp_in_nI (by omega) (by decide)), nI_clamp (by omega), show 41 + 2 * k + 1 = 42 + 2 * k by omega]
          rw [hput, bd_ret]
          refine ⟨_, rfl, hM.newSh h1 (Off.si (by simp)) ⟨?_, ?_, ?_, fun i hi => ?_⟩⟩
          · rw [si_ne (Or.inl (by omega))]; exact s1
          · rw [si_ne (Or.inl (by omega))]; exact s2
          · rw [si_ne (Or.inl (by omega))]; exact s3
          · show _ = if i = pN a1 then nar l a2 else S.ce k i
            by_cases e : i = pN a1
            · rw [if_pos e, e, si_at]
            · rw [if_neg e, si_ne (Or.inr e)]; exact s4 i hi
        · rw [x_fault_out hS hM h1 hq hv, bd_ret, if_neg hv, if_neg (by decide)]
          exact ⟨M, rfl, hM⟩
    · rw [if_neg h, if_neg h, if_pos rfl]
      exact ⟨M, rfl, hM⟩
  · dsimp only
    unfold X_Model_lay
    rw [m_isSheet, bd_ret, show vN 0 3 = true by decide, Bool.and_true]
    by_cases h : vN a0 4 = true
    · obtain ⟨h1, h2⟩ := vN_y (by decide) h
      rw [if_pos h, if_pos h, if_neg i10]
      generalize pN a0 = k at *
      subst h2
      have hs := hM.sh k h1
      have hv4 : vp_in (nI k) 4 := vp_in_nI (by omega) (by decide)
      simp only [gd_in hv4]
      rw [nI_clamp (by omega)]
      unfold layF
      cases hq : S.sh k with
      | none =>
        rw [hq] at hs
        have hs : M.1 23 k = -4 := hs
        dsimp only
        rw [if_pos hs]
        exact ⟨M, rfl, hM⟩
      | some q =>
        obtain ⟨l, z⟩ := q
        rw [hq] at hs
        obtain ⟨s1, s2, s3⟩ := hs
        have hlz := hS.hs k l z hq
        dsimp only
        have e3 := m_inV fuel (P := z) (by omega) a1 M
        rw [s1, if_neg (i_ne4 (by omega)), s2, e3, bd_ret]
        by_cases hv : vN a1 z = true
        · obtain ⟨h3, h4⟩ := vN_y (by omega) hv
          rw [if_pos hv, if_pos hv, if_neg i10]
          simp only [nm]
          rw [s1, nar_x hlz.1 a2 (fun u5 => gd (((40 : Int32) * nI k) + a1) 160 (some (1, si M 25 ((((40 : Int32) * nI k) + a1).toNatClampNeg) u5)))]
          generalize pN a1 = i at *
          subst h4
          rw [show (40 : Int32) = nI 40 from rfl, pk_mul, nI_add, gd_in (vp_in_nI (by omega) (by decide)), nI_clamp (by omega)]
          refine ⟨_, rfl, hM.newSh hS (Fr.si (Or.inr (Or.inr ⟨rfl, by omega, by omega⟩))) ⟨?_, ?_, fun j hj => ?_⟩⟩
          · rw [si_ne (Or.inl (by omega))]; exact s1
          · rw [si_ne (Or.inl (by omega))]; exact s2
          · show _ = if j = i then nar l a2 else S.ce k j
            by_cases e : j = i
            · rw [if_pos e, e, si_at]
            · rw [if_neg e, si_ne (Or.inr (by omega))]; exact s3 j hj
        · rw [if_neg hv, if_neg hv, if_pos rfl]
          exact ⟨M, rfl, hM⟩
    · rw [if_neg h, if_neg h, if_pos rfl]
      exact ⟨M, rfl, hM⟩
  · split
    · unfold layF
      cases hq : S.sh (pN a0) with
      | none => exact hS
      | some q =>
        dsimp only
        split
        · exact hS.newSh (fun l z hq2 => by cases hq2; exact hS.hs _ _ _ hq)
        · exact hS
    · exact hS
end
section
/-! CALLS: read -/
theorem i_z {k : Nat} (h : k < 2 ^ 31) : nI k = 0 ↔ k = 0 := nI_eq (b := 0) h (by decide)
def fN (f : Int32) : Nat := if f < 0 then 100 else pN f
def ftF (q : Option (Nat × Nat)) (lane y : Nat) : Nat := match q with
  | none => 1
  | some (l, z) => if l = lane then (if y + 1 < z then 0 else 2) else 3
def rdL (S : Ab) (k lane y : Nat) : Nat → Nat → Bool × Nat × Nat
  | 0, i => (true, i, 0)
  | d + 1, i => if ftF (S.sh k) lane (y + 2 * i) = 0 then (if two (S.ce k (y + 2 * i)) (S.ce k (y + 2 * i + 1)) S.R.1 then rdL S k lane y d (i + 1) else (false, i, 0)) else (true, i, ftF (S.sh k) lane (y + 2 * i))
def rdW (S : Ab) (k y : Nat) : Nat → Nat → (Nat → List Nat) → Nat → List Nat
  | 0, _, W => W
  | d + 1, i, W => rdW S k y d (i + 1) (handF S.R S.A.gl (prN (pN (S.ce k (y + 2 * i))) (pN (S.ce k (y + 2 * i + 1)))) W)
theorem f_cases (f : Int32) : (f < 0 ∧ fN f = 100) ∨ ∃ y, y < 2 ^ 31 ∧ f = nI y ∧ fN f = y := by
  unfold fN
  rcases i_cases f with h | ⟨y, h1, rfl⟩
  · left; exact ⟨h, if_pos h⟩
  · right
    refine ⟨y, h1, rfl, ?_⟩
    rw [if_neg (nI_pos h1)]
    exact nI_clamp h1
theorem vN_neg {p : Int32} (h : p < 0) (z : Nat) : ¬ vN p z = true := by
  unfold vN
  simp only [Bool.and_eq_true, decide_eq_true_eq, not_and]
  intro q
  exact absurd (Int32.lt_of_le_of_lt q h) (by decide)
def fOk (f : Int32) (i : Nat) : Prop := i = 0 ∨ (f = nI (fN f) ∧ fN f + 2 * i ≤ 41)
theorem x_ft2 {M : Mem} {S : Ab} (hS : Ok S) (hM : XA M S) {k lane : Nat} (hk : k < 4) (hl : lane < 3) {f : Int32} {i : Nat} (hi : i ≤ 20) (hf : fOk f i) : X_Sheet_faultOfTwo fuel (41 + 2 * k) (nI lane) (f + (2 : Int32) * nI i) M = some (nI (ftF (S.sh k) lane (fN f + 2 * i)), M) := by
  have hs := hM.sh k hk
  unfold X_Sheet_faultOfTwo nm
  dsimp only
  cases hq : S.sh k with
  | none =>
    rw [hq] at hs
    have hs : M.1 (41 + 2 * k) 0 = 0 := hs
    rw [if_pos hs, x_fault_none hS hM hk hq, bd_ret, if_neg i10]
    rfl
  | some q =>
    obtain ⟨l, z⟩ := q
    rw [hq] at hs
    obtain ⟨s1, s2, s3, s4⟩ := hs
    have s1 : M.1 (41 + 2 * k) 0 = 1 := s1
    have s3 : M.1 (41 + 2 * k) 2 = nI l := s3
    have hlz := hS.hs k l z hq
    rw [s1, if_neg i10, s3]
    show _ = some (nI (if l = lane then (if fN f + 2 * i + 1 < z then 0 else 2) else 3), M)
    by_cases e : l = lane
    · rw [if_pos (by rw [e]), if_pos e]
      by_cases hv : vN (f + (2 : Int32) * nI i) z = true
      · rw [x_fault_in hS hM hk hq hv, bd_ret, if_pos rfl]
        obtain ⟨h1, h2⟩ := vN_y (by omega) hv
        have ey : pN (f + (2 : Int32) * nI i) = fN f + 2 * i := by
          rcases f_cases f with ⟨h3, h4⟩ | ⟨y, h3, h4, h5⟩
          · rcases hf with h6 | ⟨h6, h7⟩
            · rw [h6] at hv
              rw [show f + (2 : Int32) * nI 0 = f by rw [show (2 : Int32) * nI 0 = 0 from rfl, Int32.add_zero]] at hv
              exact absurd hv (vN_neg h3 z)
            · omega
          · rw [h5, h4, show (2 : Int32) = nI 2 from rfl, pk_mul, nI_add]
            rcases hf with h6 | ⟨h6, h7⟩
            · rw [h6]; exact nI_clamp (by omega)
            · exact nI_clamp (by omega)
        rw [ey] at h1 h2
        rw [h2, nI_1]
        by_cases hv2 : fN f + 2 * i + 1 < z
        · rw [x_fault_in hS hM hk hq (by rw [vN_k (by omega) (by omega)]; simpa using hv2), bd_ret, if_pos hv2]
          rfl
        · rw [x_fault_out hS hM hk hq (by rw [vN_k (by omega) (by omega)]; simpa using hv2), bd_ret, if_neg hv2]
          rfl
      · rw [x_fault_out hS hM hk hq hv, bd_ret, if_neg (by decide), if_neg]
        · rfl
        · intro hlt
          apply hv
          rcases f_cases f with ⟨h3, h4⟩ | ⟨y, h3, h4, h5⟩
          · omega
          · rw [h4, show (2 : Int32) = nI 2 from rfl, pk_mul, nI_add, vN_k (by omega) (by omega)]
            simp
            omega
    · rw [if_neg (fun q => e ((nI_eq (by omega) (by omega)).mp q)), if_neg e]
      rfl
theorem ft0 {q : Option (Nat × Nat)} {lane y : Nat} (h : ftF q lane y = 0) : ∃ z, q = some (lane, z) ∧ y + 1 < z := by
  unfold ftF at h
  cases q with
  | none =>
    have h : (1 : Nat) = 0 := h
    exact absurd h (by decide)
  | some q =>
    obtain ⟨l, z⟩ := q
    dsimp only at h
    by_cases e : l = lane
    · rw [if_pos e] at h
      by_cases e2 : y + 1 < z
      · exact ⟨z, by rw [e], e2⟩
      · rw [if_neg e2] at h; exact absurd h (by decide)
    · rw [if_neg e] at h; exact absurd h (by decide)
theorem ft_lt (q : Option (Nat × Nat)) (lane y : Nat) : ftF q lane y < 4 := by
  unfold ftF
  split
  · decide
  · split
    · split <;> decide
    · decide
theorem f_y {S : Ab} (hS : Ok S) {k lane i : Nat} {f : Int32} (h : ftF (S.sh k) lane (fN f + 2 * i) = 0) : f = nI (fN f) ∧ fN f + 2 * i + 1 < 40 ∧ ∃ z, S.sh k = some (lane, z) ∧ fN f + 2 * i + 1 < z := by
  obtain ⟨z, h1, h2⟩ := ft0 h
  have := (hS.hs k lane z h1).2
  rcases f_cases f with ⟨h3, h4⟩ | ⟨y, h3, h4, h5⟩
  · omega
  · exact ⟨by rw [h5]; exact h4, by omega, z, h1, h2⟩
theorem x_cell {M : Mem} {S : Ab} (hS : Ok S) (hM : XA M S) {k lane z y : Nat} (hk : k < 4) (hq : S.sh k = some (lane, z)) (hy : y < z) : X_Sheet_cellAt fuel (41 + 2 * k) (nI y) M = some (S.ce k y, M) := by
  have hz := (hS.hs k lane z hq).2
  have hs := hM.sh k hk
  rw [hq] at hs
  unfold X_Sheet_cellAt
  rw [x_fault_in hS hM hk hq (by rw [vN_k (by omega) (by omega)]; simpa using hy), bd_ret, if_pos rfl, gd_in (vp_in_nI (by omega) (by decide)), nI_clamp (by omega), show 41 + 2 * k + 1 = 42 + 2 * k by omega, hs.2.2.2 y (by omega)]
theorem rdL_le (S : Ab) (k lane y : Nat) : ∀ d i, (rdL S k lane y d i).2.1 ≤ i + d ∧ i ≤ (rdL S k lane y d i).2.1 ∧ (rdL S k lane y d i).2.2 < 4
  | 0, i => ⟨Nat.le_refl _, Nat.le_refl _, (by decide : 0 < 4)⟩
  | d + 1, i => by
    have := rdL_le S k lane y d (i + 1)
    have h4 := ft_lt (S.sh k) lane (y + 2 * i)
    unfold rdL
    split
    · split
      · exact ⟨by omega, by omega, this.2.2⟩
      · exact ⟨by show i ≤ _; omega, Nat.le_refl _, (by decide : 0 < 4)⟩
    · exact ⟨by show i ≤ _; omega, Nat.le_refl _, h4⟩
theorem x_read_L {M : Mem} {S : Ab} (hS : Ok S) (hM : XA M S) {k lane n : Nat} (hk : k < 4) (hl : lane < 3) (hn : n ≤ 20) (f : Int32) (kx : Int32 → Int32 → Mem → Option (Int32 × Mem)) : ∀ (d i g : Nat), n - i = d → i ≤ n → d < g → fOk f i → X_ShakeHands_read_L45 fuel (nI lane) f (nI n) (41 + 2 * k) kx g (nI i) 0 (nI i) M = (if (rdL S k lane (fN f) d i).1 then kx (nI (rdL S k lane (fN f) d i).2.1) (nI (rdL S k lane (fN f) d i).2.2) M else some ((-20 : Int32) - nI (rdL S k lane (fN f) d i).2.1, M)) := by
  intro d
  induction d with
  | zero =>
    intro i g h1 h2 h3 hf
    obtain ⟨g, rfl⟩ : ∃ e, g = e + 1 := ⟨g - 1, by omega⟩
    show (if nI n ≤ nI i then kx (nI i) 0 M else _) = _
    rw [if_pos (nI_le (by omega) (by omega))]
    rfl
  | succ d ih =>
    intro i g h1 h2 h3 hf
    obtain ⟨g, rfl⟩ : ∃ e, g = e + 1 := ⟨g - 1, by omega⟩
    have hi : i < n := by omega
    have un : X_ShakeHands_read_L45 fuel (nI lane) f (nI n) (41 + 2 * k) kx (g + 1) (nI i) 0 (nI i) M = bd (X_Sheet_faultOfTwo fuel (41 + 2 * k) (nI lane) (f + ((2 : Int32) * nI i)) M) fun r6 M7 => (if r6 = 0 then bd (X_Sheet_cellAt fuel (41 + 2 * k) (f + ((2 : Int32) * nI i)) M7) fun r8 M9 => bd (X_Sheet_cellAt fuel (41 + 2 * k) ((f + ((2 : Int32) * nI i)) + 1) M9) fun r10 M11 => bd (X_ShakeHands_areTwo fuel r8 r10 M11) fun r12 M13 => (if r12 = 0 then some ((((-20) : Int32) - nI i), M13) else X_ShakeHands_read_L45 fuel (nI lane) f (nI n) (41 + 2 * k) kx g (nI i + 1) r6 (nI i + 1) M13) else kx (nI i) r6 M7) := by
      show (if nI n ≤ nI i then _ else _) = _
      rw [if_neg (nI_ge hi (by omega))]
    rw [un, x_ft2 hS hM hk hl (by omega) hf, bd_ret]
    unfold rdL
    have h4 := ft_lt (S.sh k) lane (fN f + 2 * i)
    by_cases e : ftF (S.sh k) lane (fN f + 2 * i) = 0
    · obtain ⟨y1, y2, z, y3, y4⟩ := f_y hS e
      have ea : f + (2 : Int32) * nI i = nI (fN f + 2 * i) := by
        generalize fN f = y at *
        rw [y1, show (2 : Int32) = nI 2 from rfl, pk_mul, nI_add]
      rw [e, if_pos (show nI 0 = 0 from rfl), if_pos rfl, ea, nI_1, nI_1, x_cell hS hM hk y3 (by omega), bd_ret, x_cell hS hM hk y3 y4, bd_ret, x_areTwo hM.c.1, bd_ret]
      by_cases e2 : two (S.ce k (fN f + 2 * i)) (S.ce k (fN f + 2 * i + 1)) S.R.1 = true
      · have e3 := e2
        unfold two at e3
        rw [if_pos e3, if_neg i10, if_pos e2]
        exact ih (i + 1) g (by omega) (by omega) (by omega) (Or.inr ⟨y1, by omega⟩)
      · have e3 := e2
        unfold two at e3
        rw [if_neg e3, if_pos rfl, if_neg e2]
        rfl
    · rw [if_neg (fun q => e ((i_z (by omega)).mp q)), if_neg e]
      rfl
theorem rdL_ok (S : Ab) (k lane y : Nat) : ∀ d i j, i ≤ j → j < (rdL S k lane y d i).2.1 → ftF (S.sh k) lane (y + 2 * j) = 0 ∧ two (S.ce k (y + 2 * j)) (S.ce k (y + 2 * j + 1)) S.R.1 = true
  | 0, i, j, h1, h2 => by
    have : j < i := h2
    omega
  | d + 1, i, j, h1, h2 => by
    unfold rdL at h2
    split at h2
    · next e1 =>
      split at h2
      · next e2 =>
        by_cases e : j = i
        · rw [e]; exact ⟨e1, e2⟩
        · exact rdL_ok S k lane y d (i + 1) j (by omega) h2
      · have : j < i := h2
        omega
    · have : j < i := h2
      omega
theorem rdW_ok {S : Ab} (hS : Ok S) {k y : Nat} : ∀ (d i : Nat) (W : Nat → List Nat), (∀ j, i ≤ j → j < i + d → two (S.ce k (y + 2 * j)) (S.ce k (y + 2 * j + 1)) S.R.1 = true) → OkW W → (∀ p, S.R.1 ≤ p → W p = []) → OkW (rdW S k y d i W) ∧ ∀ p, S.R.1 ≤ p → rdW S k y d i W p = []
  | 0, _, _, _, h1, h2 => ⟨h1, h2⟩
  | d + 1, i, W, h, h1, h2 => by
    obtain ⟨t1, t2, t3, -, -⟩ := two_y hS.p31 (h i (Nat.le_refl _) (by omega))
    obtain ⟨q1, q2⟩ := pr_P t1 t2 hS.p6 t3
    exact rdW_ok hS d (i + 1) _ (fun j hj hj2 => h j (by omega) (by omega)) (h1.hand hS.hR _ _) (handF_end q1 q2 h2)
theorem XA.shU0 {M : Mem} {S : Ab} {W : Nat → List Nat} (h : XA M (S.setA (S.A.setW W))) : XA M (S.setA (S.A.setW W)) := h
theorem x_read_W {M : Mem} {S : Ab} (hS : Ok S) (hM : XA M S) {k lane z c : Nat} (hk : k < 4) (hc : c ≤ 20) {f : Int32} {v7 : Int32} (hall : ∀ j, j < c → ftF (S.sh k) lane (fN f + 2 * j) = 0 ∧ two (S.ce k (fN f + 2 * j)) (S.ce k (fN f + 2 * j + 1)) S.R.1 = true) (kx : Mem → Option (Int32 × Mem)) : ∀ (d i g : Nat) (N : Mem) (W : Nat → List Nat), c - i = d → i ≤ c → d < g → Off [15, 17] M N → rowsAt N 17 W → OkW W → ∃ M', X_ShakeHands_read_L123 fuel f (41 + 2 * k) (nI c) v7 kx g (nI i) N = kx M' ∧ Off [15, 17] M M' ∧ rowsAt M' 17 (rdW S k (fN f) d i W) := by
  have hg := hS.gl
  have h6 := hS.p6
  intro d
  induction d with
  | zero =>
    intro i g N W h1 h2 h3 h4 h5 h6
    obtain ⟨g, rfl⟩ : ∃ e, g = e + 1 := ⟨g - 1, by omega⟩
    refine ⟨N, ?_, h4, h5⟩
    show (if nI c ≤ nI i then kx N else _) = _
    rw [if_pos (nI_le (by omega) (by omega))]
  | succ d ih =>
    intro i g N W h1 h2 h3 h4 h5 hW
    obtain ⟨g, rfl⟩ : ∃ e, g = e + 1 := ⟨g - 1, by omega⟩
    have hi : i < c := by omega
    obtain ⟨e, e2⟩ := hall i hi
    obtain ⟨y1, y2, z, y3, y4⟩ := f_y hS e
    obtain ⟨t1, t2, t3, t4, t5⟩ := two_y hS.p31 e2
    obtain ⟨q1, q2⟩ := pr_P t1 t2 hS.p6 t3
    have hN := hM.newW h4 h5
    have hS2 : S.sh k = some (lane, z) := y3
    have cell : ∀ y, y < z → X_Sheet_cellAt fuel (41 + 2 * k) (nI y) N = some (S.ce k y, N) := fun y hy => by
      have hz := (hS.hs k lane z y3).2
      have hs := hM.sh k hk
      rw [y3] at hs
      have o1 := (h4 (41 + 2 * k) (by simp; omega)).1
      have o2 := (h4 (42 + 2 * k) (by simp; omega)).1
      have s1 : N.1 (41 + 2 * k) 0 = 1 := by rw [o1]; exact hs.1
      have s2 : N.1 (41 + 2 * k) 1 = nI z := by rw [o1]; exact hs.2.1
      have s4 : N.1 (42 + 2 * k) y = S.ce k y := by rw [o2]; exact hs.2.2.2 y (by omega)
      unfold X_Sheet_cellAt X_Sheet_faultAt
      rw [s1, if_neg i10, s2, if_neg (nI_pos (by omega)), if_pos (nI_lt hy (by omega)), bd_ret, if_pos rfl, gd_in (vp_in_nI (by omega) (by decide)), nI_clamp (by omega), show 41 + 2 * k + 1 = 42 + 2 * k by omega, s4]
    obtain ⟨r, M1, k1, k2, k3, -⟩ := circ_meet fuel (by decide) hS.hR hN.c (rows := 17) (by decide) hW h5 (show S.A.gl < 2 ^ 31 by omega) q1
    obtain ⟨M2, u1, u2, u3⟩ := ih (i + 1) g M1 _ (by omega) (by omega) (by omega) (h4.trans k2) k3 (hW.hand hS.hR _ _)
    refine ⟨M2, ?_, u2, u3⟩
    have ea : f + (2 : Int32) * nI i = nI (fN f + 2 * i) := by
      generalize fN f = y at *
      rw [y1, show (2 : Int32) = nI 2 from rfl, pk_mul, nI_add]
    have egl : N.1 16 1 = nI S.A.gl := hN.a.1
    show (if nI c ≤ nI i then kx N else bd (X_Sheet_cellAt fuel (41 + 2 * k) (f + ((2 : Int32) * nI i)) N) fun r17 M18 => bd (X_Sheet_cellAt fuel (41 + 2 * k) ((f + ((2 : Int32) * nI i)) + 1) M18) fun r19 M20 => bd (X_ShakeHands_pairOf fuel r17 r19 M20) fun r21 M22 => bd (X_Circle_meet fuel 17 (M22.1 16 1) r21 M22) fun r23 M24 => X_ShakeHands_read_L123 fuel f (41 + 2 * k) (nI c) v7 kx g (nI i + 1) M24) = _
    rw [if_neg (nI_ge hi (by omega)), ea, nI_1, nI_1, cell _ (by omega), bd_ret, cell _ y4, bd_ret]
    generalize S.ce k (fN f + 2 * i) = c1 at *
    generalize S.ce k (fN f + 2 * i + 1) = c2 at *
    generalize pN c1 = a at *
    generalize pN c2 = b at *
    subst t4 t5
    rw [x_pairOf fuel (by omega) (by omega) t3, bd_ret, egl, k1, bd_ret]
    exact u1
end
section
/-! CALLS: read, the reference -/
theorem lgL (x y : Int64) : lg_cmp x y < 0 ↔ x.toInt < y.toInt := by
  unfold lg_cmp
  rw [← Int64.lt_iff_toInt_lt]
  by_cases h1 : x > y
  · rw [if_pos h1]
    have : ¬ x < y := fun q => by
      rw [Int64.lt_iff_toInt_lt] at q
      rw [gt_iff_lt, Int64.lt_iff_toInt_lt] at h1
      omega
    simp [this]
  · rw [if_neg h1]
    by_cases h2 : x = y
    · rw [if_pos h2]
      have : ¬ x < y := by rw [h2]; exact Int64.lt_irrefl
      simp [this]
    · rw [if_neg h2]
      have : x < y := by
        have h3 : x.toInt ≠ y.toInt := fun q => h2 (Int64.toInt_inj.mp q)
        rw [gt_iff_lt, Int64.lt_iff_toInt_lt] at h1
        rw [Int64.lt_iff_toInt_lt]
        omega
      simp only [this, iff_true]
      decide
theorem addL {x y : Int64} (h1 : -(2 ^ 40 : Int) ≤ x.toInt) (h2 : x.toInt < 2 ^ 40) (h3 : -(2 ^ 40 : Int) ≤ y.toInt) (h4 : y.toInt < 2 ^ 40) : (x + y).toInt = x.toInt + y.toInt := by
  rw [Int64.toInt_add]
  rw [Int.bmod_def]
  omega
theorem idxL (f : Int32) {i j : Nat} (hi : i ≤ 20) (hj : j < 2) : (((f.toInt64) + ((((2 : Int32) * nI i) : Int32).toInt64)) + ((nI j).toInt64)).toInt = f.toInt + 2 * i + j := by
  have a1 := f.toInt_lt
  have a2 := f.le_toInt
  have e1 : f.toInt64.toInt = f.toInt := Int32.toInt_toInt64 f
  have e2 : (((2 : Int32) * nI i) : Int32).toInt64.toInt = 2 * i := by rw [Int32.toInt_toInt64, show (2 : Int32) = nI 2 from rfl, pk_mul, nI_toInt (by omega)]; omega
  have e3 : (nI j).toInt64.toInt = j := by rw [Int32.toInt_toInt64, nI_toInt (by omega)]
  have e4 : ((f.toInt64) + ((((2 : Int32) * nI i) : Int32).toInt64)).toInt = f.toInt + 2 * i := by rw [addL (by omega) (by omega) (by omega) (by omega), e1, e2]
  rw [addL (by omega) (by omega) (by omega) (by omega), e4, e3]
theorem m_ft2 {M : Mem} {S : Ab} (hS : Ok S) (hM : MA M S) {k lane : Nat} (hk : k < 4) (hl : lane < 3) {f a4 v6 : Int32} {i : Nat} (hi : i ≤ 20) (hf : fOk f i) (kx : Int32 → Option (Int32 × Mem)) : X_Model_read_L47 fuel (nI k) (nI lane) f a4 v6 (nI i) kx M fuel 0 0 = kx (nI (ftF (S.sh k) lane (fN f + 2 * i))) := by
  have hs := hM.sh k hk
  have hv : vp_in (nI k) 4 := vp_in_nI (by omega) (by decide)
  obtain ⟨g, hg⟩ : ∃ g, fuel = g + 1 + 1 + 1 := ⟨1048573, rfl⟩
  have stop : ∀ g (v : Nat), v < 4 → v ≠ 0 → X_Model_read_L47 fuel (nI k) (nI lane) f a4 v6 (nI i) kx M (g + 1) (nI v) 1 = kx (nI v) := fun g v h4 h0 => by
    show (if (2 : Int32) ≤ 1 then kx (nI v) else if nI v = 0 then _ else kx (nI v)) = _
    rw [if_neg (by decide), if_neg (fun q => h0 ((i_z (by omega)).mp q))]
  have un : ∀ g (v8 : Int32), X_Model_read_L47 fuel (nI k) (nI lane) f a4 v6 (nI i) kx M (g + 1) 0 v8 = if 2 ≤ v8 then kx 0 else (if M.1 23 k = -4 then X_Model_read_L47 fuel (nI k) (nI lane) f a4 v6 (nI i) kx M g 1 (v8 + 1) else if M.1 23 k = nI lane then (if lg_cmp (((f.toInt64) + ((((2 : Int32) * nI i) : Int32).toInt64)) + (v8.toInt64)) 0 < 0 then X_Model_read_L47 fuel (nI k) (nI lane) f a4 v6 (nI i) kx M g 2 (v8 + 1) else if lg_cmp (((f.toInt64) + ((((2 : Int32) * nI i) : Int32).toInt64)) + (v8.toInt64)) ((M.1 24 k : Int32).toInt64) < 0 then X_Model_read_L47 fuel (nI k) (nI lane) f a4 v6 (nI i) kx M g 0 (v8 + 1) else X_Model_read_L47 fuel (nI k) (nI lane) f a4 v6 (nI i) kx M g 2 (v8 + 1)) else X_Model_read_L47 fuel (nI k) (nI lane) f a4 v6 (nI i) kx M g 3 (v8 + 1)) := fun g v8 => by
    show (if (2 : Int32) ≤ v8 then kx 0 else if (0 : Int32) = 0 then _ else kx 0) = _
    rw [if_pos rfl]
    simp only [nm, gd_in hv]
    rw [nI_clamp (show k < 2 ^ 31 by omega)]
  have z0 : (0 : Int64).toInt = 0 := rfl
  rw [hg]
  rw [show X_Model_read_L47 (g + 1 + 1 + 1) = X_Model_read_L47 fuel by rw [hg]]
  rw [un (g + 1 + 1) 0, if_neg (by decide)]
  cases hq : S.sh k with
  | none =>
    rw [hq] at hs
    have hs : M.1 23 k = -4 := hs
    rw [if_pos hs]
    exact stop (g + 1) 1 (by decide) (by decide)
  | some q =>
    obtain ⟨l, z⟩ := q
    rw [hq] at hs
    obtain ⟨s1, s2, -⟩ := hs
    have hlz := hS.hs k l z hq
    rw [s1, if_neg (i_ne4 (by omega)), s2]
    show _ = kx (nI (if l = lane then (if fN f + 2 * i + 1 < z then 0 else 2) else 3))
    by_cases e : l = lane
    · rw [if_pos (by rw [e]), if_pos e]
      have c0 := idxL f hi (j := 0) (by decide)
      have c1 := idxL f hi (j := 1) (by decide)
      have cz : (nI z).toInt64.toInt = z := by rw [Int32.toInt_toInt64, nI_toInt (by omega)]
      rw [show (nI 0).toInt64 = (0 : Int32).toInt64 from rfl] at c0
      rw [show (nI 1).toInt64 = (1 : Int32).toInt64 from rfl] at c1
      have l0 : ∀ y, (lg_cmp (((f.toInt64) + ((((2 : Int32) * nI i) : Int32).toInt64)) + ((0 : Int32).toInt64)) y < 0) ↔ f.toInt + 2 * i + 0 < y.toInt := fun y => by rw [lgL, c0]; exact Iff.rfl
      have l1 : ∀ y, (lg_cmp (((f.toInt64) + ((((2 : Int32) * nI i) : Int32).toInt64)) + ((1 : Int32).toInt64)) y < 0) ↔ f.toInt + 2 * i + 1 < y.toInt := fun y => by rw [lgL, c1]; exact Iff.rfl
      rcases f_cases f with ⟨h3, h4⟩ | ⟨y, h3, h4, h5⟩
      · have hi0 : i = 0 := by rcases hf with h | ⟨-, h⟩ <;> omega
        have h3' := Int32.lt_iff_toInt_lt.mp h3
        have e0 : (0 : Int32).toInt = 0 := rfl
        rw [if_pos ((l0 0).mpr (by omega)), if_neg (show ¬ fN f + 2 * i + 1 < z by omega)]
        exact stop (g + 1) 2 (by decide) (by decide)
      · have ef : f.toInt = y := by rw [h4, nI_toInt h3]
        rw [if_neg (fun q => by have := (l0 0).mp q; omega)]
        by_cases e1 : y + 2 * i < z
        · rw [if_pos ((l0 _).mpr (by rw [cz]; omega)), un (g + 1) (0 + 1), if_neg (by decide), s1, if_neg (i_ne4 (by omega)), if_pos (by rw [e]), show (0 + 1 : Int32) = 1 from rfl, if_neg (fun q => by have := (l1 0).mp q; omega), s2]
          by_cases e2 : y + 2 * i + 1 < z
          · rw [if_pos ((l1 _).mpr (by rw [cz]; omega)), if_pos (by omega), un g (1 + 1), if_pos (by decide)]
            rfl
          · rw [if_neg (fun q => by have := (l1 _).mp q; rw [cz] at this; omega), if_neg (by omega)]
            show (if (2 : Int32) ≤ 2 then kx 2 else _) = _
            rw [if_pos (by decide)]
            rfl
        · rw [if_neg (fun q => by have := (l0 _).mp q; rw [cz] at this; omega), if_neg (by omega)]
          exact stop (g + 1) 2 (by decide) (by decide)
    · rw [if_neg (fun q => e ((nI_eq (by omega) (by omega)).mp q)), if_neg e]
      exact stop (g + 1) 3 (by decide) (by decide)
theorem m_read_L {M : Mem} {S : Ab} (hS : Ok S) (hM : MA M S) {k lane n : Nat} (hk : k < 4) (hl : lane < 3) (hn : n ≤ 20) (f : Int32) (kx : Int32 → Int32 → Mem → Option (Int32 × Mem)) : ∀ (d i g : Nat), n - i = d → i ≤ n → d + 1 < g → fOk f i → X_Model_read_L32 fuel (nI k) (nI lane) f (nI n) kx g 0 (nI i) (nI i) M = (if (rdL S k lane (fN f) d i).1 then kx (nI (rdL S k lane (fN f) d i).2.2) (nI (rdL S k lane (fN f) d i).2.1) M else some ((-20 : Int32) - nI (rdL S k lane (fN f) d i).2.1, M)) := by
  intro d
  induction d with
  | zero =>
    intro i g h1 h2 h3 hf
    obtain ⟨g, rfl⟩ : ∃ e, g = e + 1 := ⟨g - 1, by omega⟩
    show (if nI n ≤ nI i then kx 0 (nI i) M else _) = _
    rw [if_pos (nI_le (by omega) (by omega))]
    rfl
  | succ d ih =>
    intro i g h1 h2 h3 hf
    obtain ⟨g, rfl⟩ : ∃ e, g = e + 2 := ⟨g - 2, by omega⟩
    have hi : i < n := by omega
    have un : X_Model_read_L32 fuel (nI k) (nI lane) f (nI n) kx (g + 2) 0 (nI i) (nI i) M = X_Model_read_L47 fuel (nI k) (nI lane) f (nI n) (nI i) (nI i) (fun y7 => (if y7 = 0 then (gd ((((40 : Int32) * nI k) + f) + ((2 : Int32) * nI i)) 160 (gd (((((40 : Int32) * nI k) + f) + ((2 : Int32) * nI i)) + 1) 160 (bd (X_Model_areTwo fuel (M.1 25 ((((40 : Int32) * nI k) + f) + ((2 : Int32) * nI i)).toNatClampNeg) (M.1 25 (((((40 : Int32) * nI k) + f) + ((2 : Int32) * nI i)) + 1).toNatClampNeg) M) fun r11 M12 => (if r11 = 0 then some ((((-20) : Int32) - nI i), M12) else X_Model_read_L32 fuel (nI k) (nI lane) f (nI n) kx (g + 1) y7 (nI i + 1) (nI i + 1) M12)))) else X_Model_read_L32 fuel (nI k) (nI lane) f (nI n) kx (g + 1) y7 (nI i) (nI i + 1) M)) M fuel 0 0 := by
      show (if nI n ≤ nI i then _ else if (0 : Int32) = 0 then _ else _) = _
      rw [if_neg (nI_ge hi (by omega)), if_pos rfl]
      rfl
    rw [un, m_ft2 hS hM hk hl (by omega) hf]
    unfold rdL
    have h4 := ft_lt (S.sh k) lane (fN f + 2 * i)
    by_cases e : ftF (S.sh k) lane (fN f + 2 * i) = 0
    · obtain ⟨y1, y2, z, y3, y4⟩ := f_y hS e
      have hs := hM.sh k hk
      rw [y3] at hs
      have hz := (hS.hs k lane z y3).2
      have ea : (((40 : Int32) * nI k) + f) + ((2 : Int32) * nI i) = nI (40 * k + (fN f + 2 * i)) := by
        generalize fN f = y at *
        rw [y1, show (2 : Int32) = nI 2 from rfl, show (40 : Int32) = nI 40 from rfl, pk_mul, pk_mul, nI_add, nI_add, Nat.add_assoc]
      rw [e, if_pos (show nI 0 = 0 from rfl), if_pos rfl, ea, nI_1, nI_1, gd_in (vp_in_nI (by omega) (by decide)), gd_in (vp_in_nI (by omega) (by decide)), nI_clamp (by omega), nI_clamp (by omega), hs.2.2 _ (by omega), Nat.add_assoc (40 * k), hs.2.2 _ (by omega), m_areTwo hS.p31 hM.c.1, bd_ret]
      by_cases e2 : two (S.ce k (fN f + 2 * i)) (S.ce k (fN f + 2 * i + 1)) S.R.1 = true
      · have e3 := e2
        unfold two at e3
        rw [if_pos e3, if_neg i10, if_pos e2]
        exact ih (i + 1) (g + 1) (by omega) (by omega) (by omega) (Or.inr ⟨y1, by omega⟩)
      · have e3 := e2
        unfold two at e3
        rw [if_neg e3, if_pos rfl, if_neg e2]
        rfl
    · rw [if_neg (fun q => e ((i_z (by omega)).mp q)), if_neg e, nI_1]
      show (if nI n ≤ nI (i + 1) then kx (nI (ftF (S.sh k) lane (fN f + 2 * i))) (nI i) M else if nI (ftF (S.sh k) lane (fN f + 2 * i)) = 0 then _ else kx (nI (ftF (S.sh k) lane (fN f + 2 * i))) (nI i) M) = _
      rw [if_neg (fun q => e ((i_z (by omega)).mp q))]
      split <;> rfl
theorem m_read_W {S0 : Ab} {k lane y c : Nat} (hk : k < 4) (hc : c ≤ 20) {f : Int32} (hy : fN f = y) : ∀ (d i g : Nat) (M : Mem) (S : Ab), S.R = S0.R → S.sh = S0.sh → S.ce = S0.ce → S.A.gl = S0.A.gl → Ok S → MA M S → (∀ j, j < c → ftF (S0.sh k) lane (y + 2 * j) = 0 ∧ two (S0.ce k (y + 2 * j)) (S0.ce k (y + 2 * j + 1)) S0.R.1 = true) → c - i = d → i ≤ c → d < g → ∃ M', X_Model_read_L199 fuel (nI k) f (nI c) g (nI i) M = some (nI c, M') ∧ MA M' (S.setA (S.A.setW (rdW S0 k y d i S.A.W))) := by
  intro d
  induction d with
  | zero =>
    intro i g M S r1 r2 r3 r4 hS hM hall h1 h2 h3
    obtain ⟨g, rfl⟩ : ∃ e, g = e + 1 := ⟨g - 1, by omega⟩
    refine ⟨M, ?_, hM⟩
    show (if nI c ≤ nI i then some (nI c, M) else _) = _
    rw [if_pos (nI_le (by omega) (by omega))]
  | succ d ih =>
    intro i g M S r1 r2 r3 r4 hS hM hall h1 h2 h3
    obtain ⟨g, rfl⟩ : ∃ e, g = e + 1 := ⟨g - 1, by omega⟩
    have hi : i < c := by omega
    obtain ⟨e, e2⟩ := hall i hi
    rw [← r2, ← hy] at e
    rw [← r3, ← r1] at e2
    obtain ⟨y1, y2, z, y3, y4⟩ := f_y hS e
    rw [hy] at y1 y2 y4
    have hs := hM.sh k hk
    rw [y3] at hs
    have hz := (hS.hs k lane z y3).2
    obtain ⟨t1, t2, t3, t4, t5⟩ := two_y hS.p31 e2
    obtain ⟨q1, q2⟩ := pr_P t1 t2 hS.p6 t3
    have h6 := hS.p6
    obtain ⟨M1, k1, k2, -⟩ := m_shakesNow hS hM q1
    have hS1 : Ok (S.setA (S.A.setW (handF S.R S.A.gl (prN (pN (S.ce k (y + 2 * i))) (pN (S.ce k (y + 2 * i + 1)))) S.A.W))) := hS.newA (hS.hA.setW (hS.hA.1.hand hS.hR _ _) (handF_end q1 q2 hS.hA.2.1))
    obtain ⟨M2, u1, u2⟩ := ih (i + 1) g M1 (S.setA (S.A.setW (handF S.R S.A.gl (prN (pN (S.ce k (y + 2 * i))) (pN (S.ce k (y + 2 * i + 1)))) S.A.W))) r1 r2 r3 r4 hS1 k2 hall (by omega) (by omega) (by omega)
    refine ⟨M2, ?_, ?_⟩
    · have ea : (((40 : Int32) * nI k) + f) + ((2 : Int32) * nI i) = nI (40 * k + (y + 2 * i)) := by
        rw [y1, show (2 : Int32) = nI 2 from rfl, show (40 : Int32) = nI 40 from rfl, pk_mul, pk_mul, nI_add, nI_add, Nat.add_assoc]
      show (if nI c ≤ nI i then some (nI c, M) else nm ((((40 : Int32) * nI k) + f) + ((2 : Int32) * nI i)) fun x16 => gd x16 160 (gd (x16 + 1) 160 (bd (X_Model_pairOf fuel (M.1 25 x16.toNatClampNeg) (M.1 25 (x16 + 1).toNatClampNeg) M) fun r17 M18 => bd (X_Model_shakesNow fuel r17 M18) fun _ M20 => X_Model_read_L199 fuel (nI k) f (nI c) g (nI i + 1) M20))) = _
      unfold nm
      dsimp only
      rw [if_neg (nI_ge hi (by omega)), ea, nI_1, nI_1, gd_in (vp_in_nI (by omega) (by decide)), gd_in (vp_in_nI (by omega) (by decide)), nI_clamp (by omega), nI_clamp (by omega), hs.2.2 _ (by omega), Nat.add_assoc (40 * k), hs.2.2 _ (by omega)]
      rw [show X_Model_pairOf fuel (S.ce k (y + 2 * i)) (S.ce k (y + 2 * i + 1)) M = some (nI (prN (pN (S.ce k (y + 2 * i))) (pN (S.ce k (y + 2 * i + 1)))), M) by
        generalize S.ce k (y + 2 * i) = c1 at *
        generalize S.ce k (y + 2 * i + 1) = c2 at *
        generalize pN c1 = a at *
        generalize pN c2 = b at *
        subst t4 t5
        exact m_pairOf fuel (by omega) (by omega) t3 M, bd_ret, k1, bd_ret]
      exact u1
    · have ew : rdW S0 k y (d + 1) i S.A.W = rdW S0 k y d (i + 1) (handF S.R S.A.gl (prN (pN (S.ce k (y + 2 * i))) (pN (S.ce k (y + 2 * i + 1)))) S.A.W) := by
        show rdW S0 k y d (i + 1) (handF S0.R S0.A.gl (prN (pN (S0.ce k (y + 2 * i))) (pN (S0.ce k (y + 2 * i + 1)))) S.A.W) = _
        rw [r1, r3, r4]
      rw [ew]
      exact u2
def rdU (k lane n : Nat) (f : Int32) (S : Ab) : Int32 × Ab :=
  if (rdL S k lane (fN f) n 0).1 then (nI (rdL S k lane (fN f) n 0).2.1, (S.R, S.A.setW (rdW S k (fN f) (rdL S k lane (fN f) n 0).2.1 0 S.A.W), S.I, S.kp, S.tp, S.ft, (rdL S k lane (fN f) n 0).2.2, S.sh, S.ce))
  else ((-20 : Int32) - nI (rdL S k lane (fN f) n 0).2.1, S)
theorem le20 (p : Int32) {α : Type} (A B : α) : (if p < 0 then B else if p ≤ 20 then A else B) = if vN p 21 then A else B := by
  rw [← x_in]
  by_cases h : p < 0
  · rw [if_pos h, if_pos h]
  · rw [if_neg h, if_neg h]
    have e : p ≤ 20 ↔ ¬ nI 21 ≤ p := by
      rw [Int32.le_iff_toInt_le, Int32.le_iff_toInt_le]
      have e1 : (20 : Int32).toInt = 20 := rfl
      have e2 : (nI 21).toInt = 21 := rfl
      omega
    by_cases h2 : p ≤ 20
    · rw [if_pos h2, if_neg (e.mp h2)]
    · rw [if_neg h2, if_pos (Decidable.of_not_not (fun q => h2 (e.mpr q)))]
theorem XA.newT {M : Mem} {S : Ab} {v : Nat} (h : XA M S) : XA (si M 0 10 (nI v)) (S.R, S.A, S.I, S.kp, S.tp, S.ft, v, S.sh, S.ce) := by
  have hf : Off [0] M (si M 0 10 (nI v)) := Off.si (by simp)
  refine ⟨h.c.off hf (by decide), h.a.off hf (by decide) (by decide) (by decide), fun j hj hb => (h.i j hj hb).off hf (fun q => by have := List.mem_singleton.mp q; omega) (fun q => by have := List.mem_singleton.mp q; omega) (fun q => by have := List.mem_singleton.mp q; omega), ?_, si_at _ _ _ _, h.tl, h.tb, h.ft, fun j hj => (h.sh j hj).off hf (fun q => by have := List.mem_singleton.mp q; omega) (fun q => by have := List.mem_singleton.mp q; omega)⟩
  rw [si_ne (Or.inr (by decide))]
  exact h.kp
theorem MA.newT {M : Mem} {S : Ab} {v : Nat} (hS : Ok S) (h : MA M S) : MA (si M 0 54 (nI v)) (S.R, S.A, S.I, S.kp, S.tp, S.ft, v, S.sh, S.ce) := by
  have hf : Fr (fun a j => a = 0 ∧ j = 54) M (si M 0 54 (nI v)) := Fr.si ⟨rfl, rfl⟩
  exact ⟨h.c.fr hf (fun k hk => by simp only [List.mem_cons, List.not_mem_nil, or_false] at hk; omega) (fun a k ha => by simp only [List.mem_cons, List.not_mem_nil, or_false] at ha; omega), h.a.fr hS.hA.1 hf (fun k _ _ => by omega), fun j hj hb => (h.i j hj hb).fr (hS.hI j hj hb).1 hf (fun k _ _ => by omega), h.kp, si_at _ _ _ _, h.tl, h.tb, h.ft, fun j hj => (h.sh j hj).fr hf (fun a i _ _ => by omega)⟩
theorem sim_read (a0 : Int32) (a1 : Int32) (a2 : Int32) (a3 : Int32) : Sm (fun M => X_ShakeHands_read fuel a0 a1 a2 a3 M) (fun M => X_Model_read fuel a0 a1 a2 a3 M) := by
  refine Sm_u (u := fun S => if vN a0 4 && vN a1 3 then (if vN a3 21 then rdU (pN a0) (pN a1) (pN a3) a2 S else (-1, S)) else (-1, S)) (fun M S hS hM => ?_) (fun M S hS hM => ?_) (fun S hS => ?_)
  · dsimp only
    unfold X_ShakeHands_read
    rw [x_isSheet, bd_ret, x_isLane, bd_ret, le20]
    by_cases h : vN a0 4 = true
    · obtain ⟨h1, h2⟩ := vN_y (by decide) h
      rw [if_pos h, if_neg i10]
      by_cases h' : vN a1 3 = true
      · obtain ⟨h3, h4⟩ := vN_y (by decide) h'
        rw [if_pos h', if_neg i10, if_pos (show (vN a0 4 && vN a1 3) = true by simp [h, h'])]
        by_cases h'' : vN a3 21 = true
        · obtain ⟨h5, h6⟩ := vN_y (by decide) h''
          rw [if_pos h'', if_pos h'']
          generalize pN a0 = k at *
          generalize pN a1 = lane at *
          generalize pN a3 = n at *
          subst h2 h4 h6
          rw [gd_in (vp_in_nI (by omega) (by decide)), nI_clamp (by omega), sh_id h1]
          have q1 := x_read_L hS hM h1 h3 (show n ≤ 20 by omega) a2 (fun y14 y15 M16 => X_ShakeHands_read_L123 fuel a2 (41 + 2 * k) y14 y15 (fun M25 => some (y14, si M25 0 10 y15)) fuel 0 M16) n 0 fuel rfl (Nat.zero_le _) (by have := fu; omega) (Or.inl rfl)
          refine Exists.imp (fun M' (h : _ ∧ _) => ⟨Eq.trans q1 h.1, h.2⟩) ?_
          unfold rdU
          have hle := rdL_le S k lane (fN a2) n 0
          have hok := fun j => rdL_ok S k lane (fN a2) n 0 j (Nat.zero_le _)
          by_cases e : (rdL S k lane (fN a2) n 0).1 = true
          · rw [if_pos e, if_pos e]
            generalize (rdL S k lane (fN a2) n 0).2.2 = v at *
            generalize (rdL S k lane (fN a2) n 0).2.1 = c at *
            obtain ⟨M1, g1, g2, g3⟩ := x_read_W hS hM (z := 0) h1 (by omega) (v7 := nI v) hok (fun M25 => some (nI c, si M25 0 10 (nI v))) c 0 fuel M S.A.W rfl (Nat.zero_le _) (by have := fu; omega) Off.rf hM.a.2.2.1 hS.hA.1
            exact ⟨_, g1, (hM.newW g2 g3).newT⟩
          · rw [if_neg e, if_neg e]
            exact ⟨M, rfl, hM⟩
        · rw [if_neg h'', if_neg h'']
          exact ⟨M, rfl, hM⟩
      · rw [if_neg h', if_pos rfl, if_neg (show ¬ (vN a0 4 && vN a1 3) = true by simp [h'])]
        exact ⟨M, rfl, hM⟩
    · rw [if_neg h, if_pos rfl, if_neg (show ¬ (vN a0 4 && vN a1 3) = true by simp [h])]
      exact ⟨M, rfl, hM⟩
  · dsimp only
    unfold X_Model_read
    have e3 := m_inV fuel (P := 21) (by decide) a3 M
    rw [show (nI 21 - 1 : Int32).toInt64 = 20 by decide] at e3
    rw [m_isSheet, bd_ret]
    by_cases h : (vN a0 4 && vN a1 3) = true
    · rw [if_pos h, if_pos h, if_neg i10, e3, bd_ret]
      simp only [Bool.and_eq_true] at h
      obtain ⟨h1, h2⟩ := vN_y (by decide) h.1
      obtain ⟨h3, h4⟩ := vN_y (by decide) h.2
      by_cases h'' : vN a3 21 = true
      · obtain ⟨h5, h6⟩ := vN_y (by decide) h''
        rw [if_pos h'', if_pos h'', if_neg i10]
        generalize pN a0 = k at *
        generalize pN a1 = lane at *
        generalize pN a3 = n at *
        subst h2 h4 h6
        have q1 := m_read_L hS hM h1 h3 (show n ≤ 20 by omega) a2 (fun y13 y14 M15 => X_Model_read_L199 fuel (nI k) a2 y14 fuel 0 (si M15 0 54 y13)) n 0 fuel rfl (Nat.zero_le _) (by have := fu; omega) (Or.inl rfl)
        refine Exists.imp (fun M' (h : _ ∧ _) => ⟨Eq.trans q1 h.1, h.2⟩) ?_
        unfold rdU
        have hle := rdL_le S k lane (fN a2) n 0
        have hok := fun j => rdL_ok S k lane (fN a2) n 0 j (Nat.zero_le _)
        by_cases e : (rdL S k lane (fN a2) n 0).1 = true
        · rw [if_pos e, if_pos e]
          generalize (rdL S k lane (fN a2) n 0).2.2 = v at *
          generalize (rdL S k lane (fN a2) n 0).2.1 = c at *
          have hT := hM.newT hS (v := v)
          have hST : Ok (S.R, S.A, S.I, S.kp, S.tp, S.ft, v, S.sh, S.ce) := ⟨hS.hR, hS.hA, hS.hI, hS.hk, hS.ht, hS.hb, hS.hf, by have := hle.2.2; exact this, hS.hs⟩
          obtain ⟨M1, g1, g2⟩ := m_read_W (S0 := S) (lane := lane) h1 (c := c) (by omega) (f := a2) rfl c 0 fuel (si M 0 54 (nI v)) (S.R, S.A, S.I, S.kp, S.tp, S.ft, v, S.sh, S.ce) rfl rfl rfl rfl hST hT hok rfl (Nat.zero_le _) (by have := fu; omega)
          exact ⟨_, g1, g2⟩
        · rw [if_neg e, if_neg e]
          exact ⟨M, rfl, hM⟩
      · rw [if_neg h'', if_neg h'', if_pos rfl]
        exact ⟨M, rfl, hM⟩
    · rw [if_neg h, if_neg h, if_pos rfl]
      exact ⟨M, rfl, hM⟩
  · split
    · split
      · unfold rdU
        split
        · have hle := rdL_le S (pN a0) (pN a1) (fN a2) (pN a3) 0
          have hok := fun j => rdL_ok S (pN a0) (pN a1) (fN a2) (pN a3) 0 j (Nat.zero_le _)
          obtain ⟨w1, w2⟩ := rdW_ok hS (k := pN a0) (y := fN a2) (rdL S (pN a0) (pN a1) (fN a2) (pN a3) 0).2.1 0 S.A.W (fun j _ hj => (hok j (by omega)).2) hS.hA.1 hS.hA.2.1
          exact ⟨hS.hR, hS.hA.setW w1 w2, hS.hI, hS.hk, hS.ht, hS.hb, hS.hf, hle.2.2, hS.hs⟩
        · exact hS
      · exact hS
    · exact hS
end
section
/-! CALLS: feed -/
theorem l_self (v : Int64) : v = lN v.toBitVec.toNat := i64_ext (by rw [lN_tb, BitVec.ofNat_toNat, BitVec.setWidth_eq])
def byN (V i : Nat) : Nat := V / 2 ^ (56 - 8 * i) % 256
theorem by_x {V i : Nat} (hV : V < 2 ^ 64) (hi : i < 8) : vp_nar .byte ((((((lN V).toUInt64 >>> (((56 : Int32) - ((8 : Int32) * nI i)).toInt64.toUInt64 &&& Int64.toUInt64 63)).toInt64) : Int64).toInt32 : Int32).toInt8.toInt32) = sB (byN V i) := by
  rw [show (56 : Int32) = nI 56 from rfl, show (8 : Int32) = nI 8 from rfl, pk_mul, pk_sub (by omega), l_ushr hV (by omega), l_to]
  have e : (nI (V / 2 ^ (56 - 8 * i))).toInt8 = (nI (byN V i)).toInt8 := by
    apply Int8.toBitVec_inj.mp
    apply BitVec.eq_of_toNat_eq
    show ((nI (V / 2 ^ (56 - 8 * i))).toBitVec.signExtend 8).toNat = ((nI (byN V i)).toBitVec.signExtend 8).toNat
    rw [BitVec.signExtend_eq_setWidth_of_le _ (by decide), BitVec.signExtend_eq_setWidth_of_le _ (by decide), BitVec.toNat_setWidth, BitVec.toNat_setWidth, nI_bv, nI_bv, BitVec.toNat_ofNat, BitVec.toNat_ofNat]
    unfold byN
    omega
  rw [e]
  unfold sB
  generalize (nI (byN V i)).toInt8 = b
  show (b.toInt32).toInt8.toInt32 = b.toInt32
  rw [Int8.toInt8_toInt32]
theorem by_m {V k : Nat} (hV : V < 2 ^ 64) (hk : k ≤ 56) : ((((lN V >>> ((nI k).toInt64 &&& 63)) &&& 255) : Int64).toInt32) = nI (V / 2 ^ k % 256) := by
  have e : (lN V >>> ((nI k).toInt64 &&& 63)) &&& 255 = lN (V / 2 ^ k % 256) := i64_ext (by
    show (lN V).toBitVec.sshiftRight' (((nI k).toInt64 &&& 63).toBitVec.smod 64) &&& (255 : Int64).toBitVec = (lN (V / 2 ^ k % 256)).toBitVec
    rw [cnt_l k (by omega), BitVec.sshiftRight', lN_tb, lN_tb, BitVec.toNat_ofNat, Nat.mod_eq_of_lt (show k < 2 ^ 64 by omega)]
    apply BitVec.eq_of_getLsbD_eq
    intro j hj
    have e255 : (255 : Int64).toBitVec.getLsbD j = decide (j < 8) := by
      have : ∀ j, j < 64 → (255 : Int64).toBitVec.getLsbD j = decide (j < 8) := by decide
      exact this j hj
    rw [BitVec.getLsbD_and, e255, BitVec.getLsbD_ofNat, show (256 : Nat) = 2 ^ 8 from rfl, Nat.testBit_mod_two_pow]
    by_cases h8 : j < 8
    · rw [BitVec.getLsbD_sshiftRight, BitVec.getLsbD_ofNat, Nat.testBit_div_two_pow]
      have h1 : k + j < 64 := by omega
      have h2 : ¬ 64 ≤ j := by omega
      simp [h8, h1, h2, hj, Nat.add_comm]
    · simp [h8])
  rw [e, l_to]
def fdB (V : Nat) : Nat → List Nat
  | 0 => []
  | d + 1 => byN V (8 - (d + 1)) :: fdB V d
theorem fdB_len (V : Nat) : ∀ d, (fdB V d).length = d
  | 0 => rfl
  | d + 1 => by show (fdB V d).length + 1 = d + 1; rw [fdB_len V d]
theorem fdB_lt (V : Nat) : ∀ d, ∀ x ∈ fdB V d, x < 256
  | 0, x, h => by simp [fdB] at h
  | d + 1, x, h => by
    rcases List.mem_cons.mp h with h | h
    · rw [h]; exact Nat.mod_lt _ (by decide)
    · exact fdB_lt V d x h
theorem fdB_get (V : Nat) : ∀ d j x, d ≤ 8 → (fdB V d)[j]? = some x → x = byN V (8 - d + j)
  | 0, j, x, _, h => by simp [fdB] at h
  | d + 1, j, x, hd, h => by
    cases j with
    | zero =>
      have : byN V (8 - (d + 1)) = x := by simpa [fdB] using h
      exact this.symm
    | succ j =>
      have h' : (fdB V d)[j]? = some x := by simpa [fdB] using h
      rw [fdB_get V d j x (by omega) h']
      congr 1
      omega
def fedU (v : Int64) (S : Ab) : Int32 × Ab := if S.tp.length + 8 ≤ 320 then (nI (S.tp.length + 8), (S.R, S.A, S.I, S.kp, S.tp ++ fdB v.toBitVec.toNat 8, S.ft, S.tn, S.sh, S.ce)) else (-3, S)
theorem sim_feed (a0 : Int64) : Sm (fun M => X_ShakeHands_feed fuel a0 M) (fun M => X_Model_feed fuel a0 M) := by
  obtain ⟨V, hV, rfl⟩ : ∃ V, V < 2 ^ 64 ∧ a0 = lN V := ⟨a0.toBitVec.toNat, a0.toBitVec.isLt, l_self a0⟩
  have hVV : (lN V).toBitVec.toNat = V := by rw [lN_tb, BitVec.toNat_ofNat, Nat.mod_eq_of_lt hV]
  refine Sm_u (u := fedU (lN V)) (fun M S hS hM => ?_) (fun M S hS hM => ?_) (fun S hS => ?_)
  · have ht := hS.ht
    unfold X_ShakeHands_feed X_Tape_append fedU
    rw [hM.tl, hVV]
    by_cases h : S.tp.length + 8 ≤ 320
    · rw [if_pos h, if_pos (show nI S.tp.length ≤ 312 from nI_le (b := 312) (by omega) (by decide))]
      have key : ∀ (d i g : Nat) (N : Mem), 8 - i = d → i ≤ 8 → d < g → Off [2] M N → (∀ j x, S.tp[j]? = some x → N.1 2 j = sB x) → (∀ j, j < i → N.1 2 (S.tp.length + j) = sB (byN V j)) → ∃ M', X_Tape_append_L14 fuel (lN V) (fun M1 => some (1, si M1 1 1 ((M1.1 1 1) + 8))) g (nI i) N = some (1, si M' 1 1 ((M'.1 1 1) + 8)) ∧ Off [2] M M' ∧ (∀ j x, S.tp[j]? = some x → M'.1 2 j = sB x) ∧ (∀ j, j < 8 → M'.1 2 (S.tp.length + j) = sB (byN V j)) := by
        intro d
        induction d with
        | zero =>
          intro i g N h1 h2 h3 h4 h5 h6
          obtain ⟨g, rfl⟩ : ∃ e, g = e + 1 := ⟨g - 1, by omega⟩
          have e : i = 8 := by omega
          subst e
          refine ⟨N, ?_, h4, h5, h6⟩
          show (if (8 : Int32) ≤ nI 8 then _ else _) = _
          rw [if_pos (by decide)]
        | succ d ih =>
          intro i g N h1 h2 h3 h4 h5 h6
          obtain ⟨g, rfl⟩ : ∃ e, g = e + 1 := ⟨g - 1, by omega⟩
          have hi : i < 8 := by omega
          have el : N.1 1 1 = nI S.tp.length := by rw [(h4 1 (by decide)).1]; exact hM.tl
          obtain ⟨M', q1, q2, q3, q4⟩ := ih (i + 1) g (si N 2 (S.tp.length + i) (sB (byN V i))) (by omega) (by omega) (by omega) (h4.trans (Off.si (by simp))) (fun j x hx => by
            have := (List.getElem?_eq_some_iff.mp hx).1
            rw [si_ne (Or.inr (by omega))]
            exact h5 j x hx) (fun j hj => by
            by_cases e : j = i
            · rw [e, si_at]
            · rw [si_ne (Or.inr (by omega))]; exact h6 j (by omega))
          refine ⟨M', ?_, q2, q3, q4⟩
          show (if (8 : Int32) ≤ nI i then _ else gd ((N.1 1 1) + nI i) 320 (X_Tape_append_L14 fuel (lN V) (fun M1 => some (1, si M1 1 1 ((M1.1 1 1) + 8))) g (nI i + 1) (si N 2 (((N.1 1 1) + nI i).toNatClampNeg) (vp_nar .byte ((((((lN V).toUInt64 >>> (((56 : Int32) - ((8 : Int32) * nI i)).toInt64.toUInt64 &&& Int64.toUInt64 63)).toInt64) : Int64).toInt32) : Int32).toInt8.toInt32)))) = _
          rw [if_neg (show ¬ (8 : Int32) ≤ nI i from nI_ge (b := 8) hi (by decide)), el, nI_add, gd_in (vp_in_nI (by omega) (by decide)), nI_clamp (by omega), by_x hV hi, nI_1]
          exact q1
      obtain ⟨M', q1, q2, q3, q4⟩ := key 8 0 fuel M rfl (by decide) (by decide) Off.rf hM.tb (fun j hj => by omega)
      have el : M'.1 1 1 = nI S.tp.length := by rw [(q2 1 (by decide)).1]; exact hM.tl
      have hf : Off [2, 1] M (si M' 1 1 (nI (S.tp.length + 8))) := (q2.mono (by simp)).trans (Off.si (by simp))
      have q1' : X_Tape_append_L14 fuel (lN V) (fun M1 => some (1, si M1 1 1 ((M1.1 1 1) + 8))) fuel 0 M = some (1, si M' 1 1 ((M'.1 1 1) + 8)) := q1
      rw [q1', bd_ret, if_neg i10, el, show (8 : Int32) = nI 8 from rfl, nI_add, si_at]
      refine ⟨_, rfl, hM.c.off hf (by decide), hM.a.off hf (by decide) (by decide) (by decide), fun j hj hb => (hM.i j hj hb).off hf (fun q => by simp only [List.mem_cons, List.not_mem_nil, or_false] at q; omega) (fun q => by simp only [List.mem_cons, List.not_mem_nil, or_false] at q; omega) (fun q => by simp only [List.mem_cons, List.not_mem_nil, or_false] at q; omega), ?_, ?_, ?_, fun i x hx => ?_, ?_, fun j hj => (hM.sh j hj).off hf (fun q => by simp only [List.mem_cons, List.not_mem_nil, or_false] at q; omega) (fun q => by simp only [List.mem_cons, List.not_mem_nil, or_false] at q; omega)⟩
      · rw [(hf 0 (by decide)).1]; exact hM.kp
      · rw [(hf 0 (by decide)).1]; exact hM.tn
      · rw [si_at]
        show _ = nI (S.tp ++ fdB V 8).length
        rw [List.length_append, fdB_len]
      · rw [si_ne (Or.inl (by decide))]
        have hx' : (S.tp ++ fdB V 8)[i]? = some x := hx
        by_cases e : i < S.tp.length
        · rw [List.getElem?_append_left e] at hx'
          exact q3 i x hx'
        · rw [List.getElem?_append_right (by omega)] at hx'
          have := (List.getElem?_eq_some_iff.mp hx').1
          rw [fdB_len] at this
          have h9 := fdB_get V 8 _ x (by decide) hx'
          have h10 := q4 (i - S.tp.length) this
          rw [show S.tp.length + (i - S.tp.length) = i by omega] at h10
          rw [h10, h9]
          congr 2
          omega
      · rw [(hf 3 (by decide)).1]; exact hM.ft
    · rw [if_neg h, if_neg (show ¬ nI S.tp.length ≤ 312 from nI_ge (a := 312) (by omega) (by omega)), bd_ret, if_pos rfl]
      exact ⟨M, rfl, hM⟩
  · have ht := hS.ht
    unfold X_Model_feed fedU
    rw [hM.tl, hVV, show (8 : Int32) = nI 8 from rfl, nI_add]
    by_cases h : S.tp.length + 8 ≤ 320
    · rw [if_pos h, if_pos (show nI (S.tp.length + 8) ≤ 320 from nI_le (b := 320) (by omega) (by decide))]
      have key : ∀ (d i g : Nat) (N : Mem) (v : Int32), 8 - i = d → i ≤ 8 → d < g → (i < 8 → v = nI (56 - 8 * i)) → (i = 8 → v < 0) → Fr (fun a j => a = 14 ∨ (a = 0 ∧ j = 26)) M N → N.1 0 26 = nI (S.tp.length + i) → (∀ j x, S.tp[j]? = some x → N.1 14 j = nI x) → (∀ j, j < i → N.1 14 (S.tp.length + j) = nI (byN V j)) → ∃ M', X_Model_feed_L19 fuel (lN V) g v N = some (nI (S.tp.length + 8), M') ∧ Fr (fun a j => a = 14 ∨ (a = 0 ∧ j = 26)) M M' ∧ M'.1 0 26 = nI (S.tp.length + 8) ∧ (∀ j x, S.tp[j]? = some x → M'.1 14 j = nI x) ∧ (∀ j, j < 8 → M'.1 14 (S.tp.length + j) = nI (byN V j)) := by
        intro d
        induction d with
        | zero =>
          intro i g N v h1 h2 h3 hv hv8 h4 hl h5 h6
          obtain ⟨g, rfl⟩ : ∃ e, g = e + 1 := ⟨g - 1, by omega⟩
          have e : i = 8 := by omega
          subst e
          refine ⟨N, ?_, h4, hl, h5, h6⟩
          show (if v < 0 then some (N.1 0 26, N) else _) = _
          rw [if_pos (hv8 rfl), hl]
        | succ d ih =>
          intro i g N v h1 h2 h3 hv hv8 h4 hl h5 h6
          obtain ⟨g, rfl⟩ : ∃ e, g = e + 1 := ⟨g - 1, by omega⟩
          have hi : i < 8 := by omega
          have hv := hv hi
          subst hv
          have fr : Fr (fun a j => a = 14 ∨ (a = 0 ∧ j = 26)) N (si (si N 14 (S.tp.length + i) (nI (byN V i))) 0 26 (nI (S.tp.length + i + 1))) := (Fr.si (Or.inl rfl)).trans (Fr.si (Or.inr ⟨rfl, rfl⟩))
          obtain ⟨M', q1, q2, q3, q4, q5⟩ := ih (i + 1) g (si (si N 14 (S.tp.length + i) (nI (byN V i))) 0 26 (nI (S.tp.length + i + 1))) (nI (56 - 8 * i) + (-8)) (by omega) (by omega) (by omega) (fun h => by
            have : ∀ i, i < 7 → nI (56 - 8 * i) + (-8) = nI (56 - 8 * (i + 1)) := by decide
            exact this i (by omega)) (fun h => by
            have : i = 7 := by omega
            subst this
            decide) (h4.trans fr) (by rw [si_at, Nat.add_assoc]) (fun j x hx => by
            have := (List.getElem?_eq_some_iff.mp hx).1
            rw [si_ne (Or.inl (by decide)), si_ne (Or.inr (by omega))]
            exact h5 j x hx) (fun j hj => by
            rw [si_ne (Or.inl (by decide))]
            by_cases e : j = i
            · rw [e, si_at]
            · rw [si_ne (Or.inr (by omega))]; exact h6 j (by omega))
          refine ⟨M', ?_, q2, q3, q4, q5⟩
          show (if nI (56 - 8 * i) < 0 then _ else gd (N.1 0 26) 320 (nm (si N 14 ((N.1 0 26).toNatClampNeg) ((((lN V >>> ((nI (56 - 8 * i)).toInt64 &&& 63)) &&& 255) : Int64).toInt32)) fun N1 => X_Model_feed_L19 fuel (lN V) g (nI (56 - 8 * i) + (-8)) (si N1 0 26 ((N1.1 0 26) + 1)))) = _
          unfold nm
          dsimp only
          rw [if_neg (nI_pos (by omega)), hl, gd_in (vp_in_nI (by omega) (by decide)), nI_clamp (by omega), by_m hV (by omega), si_ne (Or.inl (by decide)), hl, nI_1]
          exact q1
      obtain ⟨M', q1, q2, q3, q4, q5⟩ := key 8 0 fuel M 56 rfl (by decide) (by decide) (fun _ => rfl) (fun h => by omega) Fr.rf (by rw [hM.tl]; rfl) hM.tb (fun j hj => by omega)
      refine ⟨M', q1, hM.c.fr q2 (fun k hk => by simp only [List.mem_cons, List.not_mem_nil, or_false] at hk; omega) (fun a k ha => by simp only [List.mem_cons, List.not_mem_nil, or_false] at ha; omega), hM.a.fr hS.hA.1 q2 (fun k _ _ => by omega), fun j hj hb => (hM.i j hj hb).fr (hS.hI j hj hb).1 q2 (fun k _ _ => by omega), fun j hj => by rw [(q2 2 j (by omega)).1]; exact hM.kp j hj, ?_, ?_, fun i x hx => ?_, ?_, fun j hj => (hM.sh j hj).fr q2 (fun a i _ _ => by omega)⟩
      · rw [(q2 0 54 (by omega)).1]; exact hM.tn
      · rw [q3]
        show _ = nI (S.tp ++ fdB V 8).length
        rw [List.length_append, fdB_len]
      · have hx' : (S.tp ++ fdB V 8)[i]? = some x := hx
        by_cases e : i < S.tp.length
        · rw [List.getElem?_append_left e] at hx'
          exact q4 i x hx'
        · rw [List.getElem?_append_right (by omega)] at hx'
          have := (List.getElem?_eq_some_iff.mp hx').1
          rw [fdB_len] at this
          have h9 := fdB_get V 8 _ x (by decide) hx'
          have h10 := q5 (i - S.tp.length) this
          rw [show S.tp.length + (i - S.tp.length) = i by omega] at h10
          rw [h10, h9]
          congr 2
          omega
      · rw [(q2 0 31 (by omega)).1]; exact hM.ft
    · rw [if_neg h, if_neg (show ¬ nI (S.tp.length + 8) ≤ 320 from nI_ge (a := 320) (by omega) (by omega))]
      exact ⟨M, rfl, hM⟩
  · unfold fedU
    split
    · next h =>
      refine ⟨hS.hR, hS.hA, hS.hI, hS.hk, ?_, fun x hx => ?_, hS.hf, hS.hn, hS.hs⟩
      · show (S.tp ++ fdB _ 8).length ≤ 320
        rw [List.length_append, fdB_len]
        exact h
      · rcases List.mem_append.mp hx with h1 | h1
        · exact hS.hb x h1
        · exact fdB_lt _ _ x h1
    · exact hS
end
section
/-! CALLS: comes -/
theorem daysF_succ (R : Rl) (g : Nat) : ∀ (d : Nat) (W : Nat → List Nat), daysF R g (d + 1) W = dayF R g (daysF R g d W)
  | 0, _ => rfl
  | d + 1, W => by
    show daysF R g (d + 1) (dayF R g W) = dayF R g (daysF R g d (dayF R g W))
    exact daysF_succ R g d (dayF R g W)
def eqW (A B : Nat → List Nat) : Bool := (List.range 6).all (fun p => decide (A p = B p))
theorem eqW_iff {A B : Nat → List Nat} : eqW A B = true ↔ ∀ p, p < 6 → A p = B p := by
  unfold eqW
  rw [List.all_eq_true]
  constructor
  · intro h p hp
    have := h p (List.mem_range.mpr hp)
    simpa using this
  · intro h p hp
    have := h p (List.mem_range.mp hp)
    simpa using this
def sFd (q : Nat → Nat → List Nat) (d : Nat) : Nat → Nat → Option Nat
  | 0, _ => none
  | k + 1, i => if eqW (q i) (q d) then some i else sFd q d k (i + 1)
def comF (q : Nat → Nat → List Nat) (a : Int32) : Nat → Nat → Int32
  | 0, _ => -4
  | k + 1, d => match sFd q d d 0 with
    | some e => if a = 0 then nI e else nI d - nI e
    | none => comF q a k (d + 1)
theorem sFd_lt (q : Nat → Nat → List Nat) (d : Nat) : ∀ k i e, sFd q d k i = some e → e < i + k
  | 0, i, e, h => by cases h
  | k + 1, i, e, h => by
    unfold sFd at h
    split at h
    · cases h; omega
    · have := sFd_lt q d k (i + 1) e h
      omega
theorem i_6 {k : Nat} (h : k < 2 ^ 31) : nI k = 6 ↔ k = 6 := nI_eq (b := 6) h (by decide)
-- the class
theorem x_same_in {M : Mem} {A B : Nat → List Nat} {a1 : Int32} {e : Nat} (he : e < 201) (hA : OkW A) (hB : OkW B) (h1 : ∀ p, p < 6 → M.2 38 (e * 6 + p) = enc (A p)) (h2 : rowsAt M 39 B) (kx : Int32 → Option (Int32 × Mem)) : ∃ v, v ≤ 6 ∧ (v = 6 ↔ eqW A B = true) ∧ X_Habit_sameDay_L9 fuel a1 (nI e) kx M fuel (nI 0) = kx (nI v) := by
  have key : ∀ (d i g : Nat), 6 - i = d → i ≤ 6 → d < g → (∀ p, p < i → A p = B p) → ∃ v, v ≤ 6 ∧ (v = 6 ↔ eqW A B = true) ∧ X_Habit_sameDay_L9 fuel a1 (nI e) kx M g (nI i) = kx (nI v) := by
    intro d
    induction d with
    | zero =>
      intro i g g1 g2 g3 g4
      obtain ⟨g, rfl⟩ : ∃ e, g = e + 1 := ⟨g - 1, by omega⟩
      have e6 : i = 6 := by omega
      subst e6
      refine ⟨6, Nat.le_refl _, ⟨fun _ => eqW_iff.mpr g4, fun _ => rfl⟩, ?_⟩
      show (if (6 : Int32) ≤ nI 6 then kx (nI 6) else _) = _
      rw [if_pos (by decide)]
    | succ d ih =>
      intro i g g1 g2 g3 g4
      obtain ⟨g, rfl⟩ : ∃ e, g = e + 1 := ⟨g - 1, by omega⟩
      have hi : i < 6 := by omega
      have un : X_Habit_sameDay_L9 fuel a1 (nI e) kx M (g + 1) (nI i) = if A i = B i then X_Habit_sameDay_L9 fuel a1 (nI e) kx M g (nI (i + 1)) else kx (nI i) := by
        show (if (6 : Int32) ≤ nI i then _ else gd ((nI e * 6) + nI i) 1206 (gd (nI i) 6 (if (lg_cmp (M.2 38 ((nI e * 6) + nI i).toNatClampNeg) (M.2 39 (nI i).toNatClampNeg)) = 0 then X_Habit_sameDay_L9 fuel a1 (nI e) kx M g (nI i + 1) else kx (nI i)))) = _
        rw [if_neg (show ¬ (6 : Int32) ≤ nI i from nI_ge (b := 6) hi (by decide)), show (6 : Int32) = nI 6 from rfl, pk_mul, nI_add, gd_in (vp_in_nI (by omega) (by decide)), gd_in (vp_in_nI (by omega) (by decide)), nI_clamp (by omega), nI_clamp (by omega), h1 i hi, h2 i hi, nI_1]
        by_cases e2 : A i = B i
        · rw [if_pos e2, if_pos (by rw [l_cmp0, e2])]
        · rw [if_neg e2, if_neg (by rw [l_cmp0, enc_inj (hA i).1 (hB i).1 (hA i).2 (hB i).2]; exact e2)]
      rw [un]
      by_cases e2 : A i = B i
      · rw [if_pos e2]
        exact ih (i + 1) g (by omega) (by omega) (by omega) (fun p hp => by
          by_cases e3 : p = i
          · rw [e3]; exact e2
          · exact g4 p (by omega))
      · rw [if_neg e2]
        exact ⟨i, by omega, ⟨fun h => by omega, fun h => absurd (eqW_iff.mp h i hi) e2⟩, rfl⟩
  exact key 6 0 fuel rfl (by decide) (by decide) (fun p hp => by omega)
theorem x_same {M : Mem} {q : Nat → Nat → List Nat} {d : Nat} (hd : d < 202) (hq : ∀ e, OkW (q e)) (h1 : ∀ e, e < d → e < 201 → ∀ p, p < 6 → M.2 38 (e * 6 + p) = enc (q e p)) (h2 : rowsAt M 39 (q d)) : X_Habit_sameDay fuel (nI d) M = some (match sFd q d d 0 with | some e => nI e | none => -1, M) := by
  have key : ∀ (k i g : Nat), d - i = k → i ≤ d → k < g → X_Habit_sameDay_L2 fuel (nI d) M g (nI i) = some (match sFd q d k i with | some e => nI e | none => -1, M) := by
    intro k
    induction k with
    | zero =>
      intro i g g1 g2 g3
      obtain ⟨g, rfl⟩ : ∃ e, g = e + 1 := ⟨g - 1, by omega⟩
      show (if nI d ≤ nI i then _ else _) = _
      rw [if_pos (nI_le (by omega) (by omega))]
      rfl
    | succ k ih =>
      intro i g g1 g2 g3
      obtain ⟨g, rfl⟩ : ∃ e, g = e + 1 := ⟨g - 1, by omega⟩
      obtain ⟨v, v1, v2, v3⟩ := x_same_in (M := M) (A := q i) (B := q d) (a1 := nI d) (e := i) (by omega) (hq i) (hq d) (h1 i (by omega) (by omega)) h2 (fun y1 => (if y1 = 6 then some (nI i, M) else X_Habit_sameDay_L2 fuel (nI d) M g (nI i + 1)))
      show (if nI d ≤ nI i then _ else X_Habit_sameDay_L9 fuel (nI d) (nI i) (fun y1 => (if y1 = 6 then some (nI i, M) else X_Habit_sameDay_L2 fuel (nI d) M g (nI i + 1))) M fuel (nI 0)) = _
      rw [if_neg (nI_ge (by omega) (by omega)), v3]
      unfold sFd
      by_cases e : eqW (q i) (q d) = true
      · rw [if_pos e, v2.mpr e]
        show (if (nI 6 : Int32) = 6 then some (nI i, M) else _) = _
        rw [if_pos (show nI 6 = 6 from rfl)]
      · rw [if_neg e]
        show (if nI v = 6 then some (nI i, M) else X_Habit_sameDay_L2 fuel (nI d) M g (nI i + 1)) = _
        rw [if_neg (fun h => e (v2.mp ((i_6 (by omega)).mp h))), nI_1]
        exact ih (i + 1) g (by omega) (by omega) (by omega)
  exact key d 0 fuel rfl (Nat.zero_le _) (by have := fu; omega)
theorem x_comes_L {S : Ab} (hS : Ok S) (a : Int32) : ∀ (k d g : Nat) (N : Mem), 201 - d = k → d ≤ 201 → k < g → XA N S → (∀ e, e < d → e < 201 → ∀ p, p < 6 → N.2 38 (e * 6 + p) = enc (daysF S.R S.A.gl e S.A.W p)) → rowsAt N 39 (daysF S.R S.A.gl d S.A.W) → ∃ M', X_Habit_comesBack_L20 fuel a (fun y6 y7 M8 => (if a = 0 then some (y7, M8) else some ((y6 - y7), M8))) g (nI d) N = some (comF (fun e => daysF S.R S.A.gl e S.A.W) a k d, M') ∧ Off xS N M' := by
  have hg := hS.gl
  have ok : ∀ e, OkW (daysF S.R S.A.gl e S.A.W) := fun e => (daysF_ok hS.hR e hS.hA.1 hS.hA.2.1).1
  intro k
  induction k with
  | zero =>
    intro d g N g1 g2 g3 hN h1 h2
    obtain ⟨g, rfl⟩ : ∃ e, g = e + 1 := ⟨g - 1, by omega⟩
    have e : d = 201 := by omega
    subst e
    refine ⟨N, ?_, Off.rf⟩
    show (if (200 : Int32) < nI 201 then _ else _) = _
    rw [if_pos (by decide)]
    rfl
  | succ k ih =>
    intro d g N g1 g2 g3 hN h1 h2
    obtain ⟨g, rfl⟩ : ∃ e, g = e + 1 := ⟨g - 1, by omega⟩
    have lt200 : ¬ (200 : Int32) < nI d := Int32.not_lt.mpr (nI_le (b := 200) (by omega) (by decide))
    have un : X_Habit_comesBack_L20 fuel a (fun y6 y7 M8 => (if a = 0 then some (y7, M8) else some ((y6 - y7), M8))) (g + 1) (nI d) N = (if (match sFd (fun e => daysF S.R S.A.gl e S.A.W) d d 0 with | some e => nI e | none => -1 : Int32) < 0 then bd (X_Circle_liveDay fuel 39 (N.1 16 1) (cpL N 39 0 38 (d * 6) 6)) (fun _ M5 => X_Habit_comesBack_L20 fuel a (fun y6 y7 M8 => (if a = 0 then some (y7, M8) else some ((y6 - y7), M8))) g (nI (d + 1)) M5) else (if a = 0 then some ((match sFd (fun e => daysF S.R S.A.gl e S.A.W) d d 0 with | some e => nI e | none => -1 : Int32), N) else some (nI d - (match sFd (fun e => daysF S.R S.A.gl e S.A.W) d d 0 with | some e => nI e | none => -1 : Int32), N))) := by
      show (if (200 : Int32) < nI d then _ else bd (X_Habit_sameDay fuel (nI d) N) _) = _
      rw [if_neg lt200, x_same (q := fun e => daysF S.R S.A.gl e S.A.W) (by omega) ok h1 h2, bd_ret]
      unfold gc nm
      dsimp only
      rw [show (6 : Int32) = nI 6 from rfl, pk_mul, nI_clamp (by omega), nI_clamp (by omega), show (0 : Int32).toNatClampNeg = 0 from rfl, if_neg (c := _ ∨ _) (by
        rintro (h | h | h | h | h)
        · exact absurd h (by decide)
        · exact nI_pos (by omega) h
        · exact absurd h (by decide)
        · omega
        · omega), nI_1]
      rfl
    rw [un]
    unfold comF
    cases hs : sFd (fun e => daysF S.R S.A.gl e S.A.W) d d 0 with
    | some e =>
      have := sFd_lt _ _ _ _ _ hs
      refine ⟨N, ?_, Off.rf⟩
      show (if nI e < 0 then _ else if a = 0 then some (nI e, N) else some (nI d - nI e, N)) = some ((if a = 0 then nI e else nI d - nI e), N)
      rw [if_neg (nI_pos (by omega))]
      split <;> rfl
    | none =>
      show ∃ M', (if (-1 : Int32) < 0 then _ else _) = some (comF (fun e => daysF S.R S.A.gl e S.A.W) a k (d + 1), M') ∧ _
      rw [if_pos (by decide), hN.a.1]
      have c1 : Off [38] N (cpL N 39 0 38 (d * 6) 6) := Off.cpL (by simp)
      have hN1 := hN.off (xS_of c1 (by decide))
      have r1 : rowsAt (cpL N 39 0 38 (d * 6) 6) 39 (daysF S.R S.A.gl d S.A.W) := h2.off c1 (by decide)
      obtain ⟨M1, k1, k2, k3⟩ := circ_liveDay fuel (by decide) hS.hR (rows := 39) (by decide) (show S.A.gl < 2 ^ 31 by omega) hN1.c (ok d) r1
      have k4 : Off xS N M1 := (xS_of c1 (by decide)).trans (xS_of k2 (by decide))
      obtain ⟨M2, q1, q2⟩ := ih (d + 1) g M1 (by omega) (by omega) (by omega) (hN.off k4) (fun e he he2 p hp => by
        rw [(k2 38 (by decide)).2]
        show (if 38 = 38 ∧ d * 6 ≤ e * 6 + p ∧ e * 6 + p < d * 6 + 6 then N.2 39 (0 + (e * 6 + p - d * 6)) else N.2 38 (e * 6 + p)) = _
        by_cases e2 : e = d
        · rw [if_pos ⟨rfl, by omega, by omega⟩, e2, show 0 + (d * 6 + p - d * 6) = p by omega]
          exact h2 p hp
        · rw [if_neg (by omega)]
          exact h1 e (by omega) he2 p hp) (by rw [daysF_succ]; exact k3)
      rw [k1, bd_ret]
      exact ⟨M2, q1, k4.trans q2⟩
end
section
/-! CALLS: comes, the reference -/
theorem l_mul (a b : Nat) : lN a * lN b = lN (a * b) := i64_ext (by
  show (lN a).toBitVec * (lN b).toBitVec = BitVec.ofNat 64 (a * b)
  rw [lN_tb, lN_tb]
  apply BitVec.eq_of_toNat_eq
  rw [BitVec.toNat_mul, BitVec.toNat_ofNat, BitVec.toNat_ofNat, BitVec.toNat_ofNat, ← Nat.mul_mod])
theorem l_add (a b : Nat) : lN a + lN b = lN (a + b) := i64_ext (by
  show (lN a).toBitVec + (lN b).toBitVec = BitVec.ofNat 64 (a + b)
  rw [lN_tb, lN_tb]
  apply BitVec.eq_of_toNat_eq
  rw [BitVec.toNat_add, BitVec.toNat_ofNat, BitVec.toNat_ofNat, BitVec.toNat_ofNat, ← Nat.add_mod])
def cdN (l : List Nat) : Nat := l.foldr (fun t a => 17 * a + t + 1) 0
theorem cdN_lt {l : List Nat} (h : ∀ t ∈ l, t < 16) : cdN l < 17 ^ l.length := by
  induction l with
  | nil => decide
  | cons t l ih =>
    have h1 := ih (fun x hx => h x (List.mem_cons_of_mem _ hx))
    have h2 := h t List.mem_cons_self
    show 17 * cdN l + t + 1 < 17 ^ (l.length + 1)
    rw [Nat.pow_succ]
    omega
theorem cdN_inj : ∀ {l m : List Nat}, (∀ t ∈ l, t < 16) → (∀ t ∈ m, t < 16) → cdN l = cdN m → l = m
  | [], [], _, _, _ => rfl
  | [], t :: m, _, _, h => by
    have : 0 = 17 * cdN m + t + 1 := h
    omega
  | t :: l, [], _, _, h => by
    have : 17 * cdN l + t + 1 = 0 := h
    omega
  | t :: l, u :: m, h1, h2, h => by
    have e : 17 * cdN l + t + 1 = 17 * cdN m + u + 1 := h
    have a1 := h1 t List.mem_cons_self
    have a2 := h2 u List.mem_cons_self
    have e1 : t = u := by omega
    have e2 : cdN l = cdN m := by omega
    rw [e1, cdN_inj (fun x hx => h1 x (List.mem_cons_of_mem _ hx)) (fun x hx => h2 x (List.mem_cons_of_mem _ hx)) e2]
theorem cdN_9 {l : List Nat} (h : Ro l) (hl : l.length ≤ 9) : cdN l < 2 ^ 40 := Nat.lt_of_lt_of_le (cdN_lt h.2) (Nat.le_trans (Nat.pow_le_pow_right (by decide) hl) (by decide))
theorem m_notes_in {n : Nat} (hn : 20 ≤ n) {M : Mem} {l : List Nat} {p : Nat} (hp : p < 6) (hr : Ro l) (hl : l.length ≤ 9) (hM : RwM M 15 (10 * p) l) (a1 : Int32) (kx : Int64 → Option (Unit × Mem)) : X_Model_notes_L21 n a1 (nI p) kx M n 0 (nI l.length) = kx (lN (cdN l)) := by
  have key : ∀ (d g : Nat), d ≤ l.length → d < g → X_Model_notes_L21 n a1 (nI p) kx M g (lN (cdN (l.drop d))) (nI d) = kx (lN (cdN l)) := by
    intro d
    induction d with
    | zero =>
      intro g g1 g2
      obtain ⟨g, rfl⟩ : ∃ e, g = e + 1 := ⟨g - 1, by omega⟩
      show (if nI 0 ≤ 0 then kx (lN (cdN (l.drop 0))) else _) = _
      rw [if_pos (by decide), List.drop_zero]
    | succ d ih =>
      intro g g1 g2
      obtain ⟨g, rfl⟩ : ∃ e, g = e + 1 := ⟨g - 1, by omega⟩
      have hd : d < l.length := by omega
      have ht := hr.2 _ (List.getElem_mem hd)
      have e := hM.2 d _ (List.getElem?_eq_getElem hd)
      show (if nI (d + 1) ≤ 0 then _ else gd (((10 : Int32) * nI p) + nI (d + 1)) 600 (X_Model_notes_L21 n a1 (nI p) kx M g ((((17 : Int64) * lN (cdN (l.drop (d + 1)))) + (((M.1 15 (((10 : Int32) * nI p) + nI (d + 1)).toNatClampNeg) : Int32).toInt64)) + 1) (nI (d + 1) + (-1)))) = _
      rw [if_neg (nI_nle (by omega) (by omega)), show (10 : Int32) = nI 10 from rfl, pk_mul, nI_add, gd_in (vp_in_nI (by omega) (by decide)), nI_clamp (by omega), show 10 * p + (d + 1) = 10 * p + 1 + d by omega, e, l_i (by omega), show (17 : Int64) = lN 17 from rfl, l_mul, l_add, show (1 : Int64) = lN 1 from rfl, l_add, pk_m1]
      have ed : 17 * cdN (l.drop (d + 1)) + l[d] + 1 = cdN (l.drop d) := by rw [List.drop_eq_getElem_cons hd]; rfl
      rw [ed]
      exact ih g (by omega) (by omega)
  have := key l.length n (Nat.le_refl _) (by omega)
  rw [List.drop_length] at this
  exact this
theorem m_notes {n : Nat} (hn : 20 ≤ n) {M : Mem} {W : Nat → List Nat} (hW : OkW W) (hM : LyM M 15 (60 * 0) W) {d : Nat} (hd : d < 201) : ∃ M', X_Model_notes n (nI d) M = some ((), M') ∧ Fr (rg 20 (6 * d) 6) M M' ∧ ∀ p, p < 6 → M'.2 20 (6 * d + p) = lN (cdN (W p)) := by
  have key : ∀ (k i g : Nat) (N : Mem), 6 - i = k → i ≤ 6 → k < g → LyM N 15 (60 * 0) W → (∀ p, p < i → N.2 20 (6 * d + p) = lN (cdN (W p))) → ∃ M', X_Model_notes_L2 n (nI d) g (nI i) N = some ((), M') ∧ Fr (rg 20 (6 * d) 6) N M' ∧ ∀ p, p < 6 → M'.2 20 (6 * d + p) = lN (cdN (W p)) := by
    intro k
    induction k with
    | zero =>
      intro i g N g1 g2 g3 hN h
      obtain ⟨g, rfl⟩ : ∃ e, g = e + 1 := ⟨g - 1, by omega⟩
      have e : i = 6 := by omega
      subst e
      refine ⟨N, ?_, Fr.rf, h⟩
      show (if (6 : Int32) ≤ nI 6 then _ else _) = _
      rw [if_pos (by decide)]
    | succ k ih =>
      intro i g N g1 g2 g3 hN h
      obtain ⟨g, rfl⟩ : ∃ e, g = e + 1 := ⟨g - 1, by omega⟩
      have hi : i < 6 := by omega
      have fr : Fr (rg 20 (6 * d) 6) N (sl N 20 (6 * d + i) (lN (cdN (W i)))) := Fr.sl ⟨rfl, by omega, by omega⟩
      obtain ⟨M', q1, q2, q3⟩ := ih (i + 1) g (sl N 20 (6 * d + i) (lN (cdN (W i)))) (by omega) (by omega) (by omega) (hN.fr hW fr (fun k _ _ => by unfold rg; omega)) (fun p hp => by
        show (if 20 = 20 ∧ 6 * d + p = 6 * d + i then lN (cdN (W i)) else N.2 20 (6 * d + p)) = _
        by_cases e : p = i
        · rw [if_pos ⟨rfl, by omega⟩, e]
        · rw [if_neg (by omega)]; exact h p (by omega))
      refine ⟨M', ?_, fr.trans q2, q3⟩
      have hr := hN i hi
      have hrow : RwM N 15 (10 * i) (W i) := by rw [show 60 * 0 + 10 * i = 10 * i by omega] at hr; exact hr
      show (if (6 : Int32) ≤ nI i then _ else gd ((10 : Int32) * nI i) 600 (X_Model_notes_L21 n (nI d) (nI i) (fun y3 => gd (((6 : Int32) * nI d) + nI i) 1206 (X_Model_notes_L2 n (nI d) g (nI i + 1) (sl N 20 ((((6 : Int32) * nI d) + nI i).toNatClampNeg) y3))) N n 0 (N.1 15 ((10 : Int32) * nI i).toNatClampNeg))) = _
      rw [if_neg (show ¬ (6 : Int32) ≤ nI i from nI_ge (b := 6) hi (by decide)), show (10 : Int32) = nI 10 from rfl, show (6 : Int32) = nI 6 from rfl, pk_mul, pk_mul, nI_add, gd_in (vp_in_nI (by omega) (by decide)), nI_clamp (by omega), nI_clamp (by omega), hrow.1, m_notes_in hn hi (hW i).1 (hW i).2 hrow, gd_in (vp_in_nI (by omega) (by decide)), nI_1]
      exact q1
  exact key 6 0 n M rfl (by decide) (by omega) hM (fun p hp => by omega)
theorem m_isAs {M : Mem} {A B : Nat → List Nat} (hA : OkW A) (hB : OkW B) {d e : Nat} (hd : d < 201) (he : e < 201) (h1 : ∀ p, p < 6 → M.2 20 (6 * e + p) = lN (cdN (A p))) (h2 : ∀ p, p < 6 → M.2 20 (6 * d + p) = lN (cdN (B p))) : X_Model_isAs fuel (nI e) (nI d) M = some (if eqW A B then 1 else 0, M) := by
  have z : ∀ (k i g : Nat), 6 - i = k → i ≤ 6 → k < g → X_Model_isAs_L5 fuel (nI e) (nI d) M g 0 (nI i) = some (0, M) := by
    intro k
    induction k with
    | zero =>
      intro i g g1 g2 g3
      obtain ⟨g, rfl⟩ : ∃ e, g = e + 1 := ⟨g - 1, by omega⟩
      have e : i = 6 := by omega
      subst e
      show (if (6 : Int32) ≤ nI 6 then zr 0 M else _) = _
      rw [if_pos (by decide)]
      rfl
    | succ k ih =>
      intro i g g1 g2 g3
      obtain ⟨g, rfl⟩ : ∃ e, g = e + 1 := ⟨g - 1, by omega⟩
      show (if (6 : Int32) ≤ nI i then _ else (if (0 : Int32) = 0 then X_Model_isAs_L5 fuel (nI e) (nI d) M g 0 (nI i + 1) else gd (((6 : Int32) * nI e) + nI i) 1206 (gd (((6 : Int32) * nI d) + nI i) 1206 (if (lg_cmp (M.2 20 (((6 : Int32) * nI e) + nI i).toNatClampNeg) (M.2 20 (((6 : Int32) * nI d) + nI i).toNatClampNeg)) = 0 then X_Model_isAs_L5 fuel (nI e) (nI d) M g 1 (nI i + 1) else X_Model_isAs_L5 fuel (nI e) (nI d) M g 0 (nI i + 1))))) = _
      rw [if_neg (show ¬ (6 : Int32) ≤ nI i from nI_ge (b := 6) (by omega) (by decide)), if_pos rfl, nI_1]
      exact ih (i + 1) g (by omega) (by omega) (by omega)
  have key : ∀ (k i g : Nat), 6 - i = k → i ≤ 6 → k < g → (∀ p, p < i → A p = B p) → X_Model_isAs_L5 fuel (nI e) (nI d) M g 1 (nI i) = some (if eqW A B then 1 else 0, M) := by
    intro k
    induction k with
    | zero =>
      intro i g g1 g2 g3 h
      obtain ⟨g, rfl⟩ : ∃ e, g = e + 1 := ⟨g - 1, by omega⟩
      have e : i = 6 := by omega
      subst e
      show (if (6 : Int32) ≤ nI 6 then zr 1 M else _) = _
      rw [if_pos (by decide), if_pos (eqW_iff.mpr h)]
      rfl
    | succ k ih =>
      intro i g g1 g2 g3 h
      obtain ⟨g, rfl⟩ : ∃ e, g = e + 1 := ⟨g - 1, by omega⟩
      have hi : i < 6 := by omega
      show (if (6 : Int32) ≤ nI i then _ else (if (1 : Int32) = 0 then X_Model_isAs_L5 fuel (nI e) (nI d) M g 0 (nI i + 1) else gd (((6 : Int32) * nI e) + nI i) 1206 (gd (((6 : Int32) * nI d) + nI i) 1206 (if (lg_cmp (M.2 20 (((6 : Int32) * nI e) + nI i).toNatClampNeg) (M.2 20 (((6 : Int32) * nI d) + nI i).toNatClampNeg)) = 0 then X_Model_isAs_L5 fuel (nI e) (nI d) M g 1 (nI i + 1) else X_Model_isAs_L5 fuel (nI e) (nI d) M g 0 (nI i + 1))))) = _
      have ca := cdN_9 (hA i).1 (hA i).2
      have cb := cdN_9 (hB i).1 (hB i).2
      rw [if_neg (show ¬ (6 : Int32) ≤ nI i from nI_ge (b := 6) hi (by decide)), if_neg i10, show (6 : Int32) = nI 6 from rfl, pk_mul, pk_mul, nI_add, nI_add, gd_in (vp_in_nI (by omega) (by decide)), gd_in (vp_in_nI (by omega) (by decide)), nI_clamp (by omega), nI_clamp (by omega), h1 i hi, h2 i hi, nI_1]
      by_cases e2 : A i = B i
      · rw [if_pos (by rw [l_cmp0, e2])]
        exact ih (i + 1) g (by omega) (by omega) (by omega) (fun p hp => by
          by_cases e3 : p = i
          · rw [e3]; exact e2
          · exact h p (by omega))
      · rw [if_neg (by rw [l_cmp0]; exact fun q => e2 (cdN_inj (hA i).1.2 (hB i).1.2 ((l_eq (by omega) (by omega)).mp q))), z k (i + 1) g (by omega) (by omega) (by omega), if_neg (fun q => e2 (eqW_iff.mp q i hi))]
  exact key 6 0 fuel rfl (by decide) (by decide) (fun p hp => by omega)
def mN (a k : Nat) : Prop := mh 0 a k ∨ a = 20
theorem mN_S {M M' : Mem} (h : Fr mN M M') : Fr mS M M' := h.mono (fun a k q => q.elim mh_mS (fun r => by unfold mS; omega))
theorem mN_MC {M M' : Mem} {R : Rl} (h : MC M R) (ho : Fr mN M M') : MC M' R := h.fr ho (fun k hk q => q.elim (mh_MC k hk) (fun r => by omega)) (fun a k ha q => q.elim (mh_MC2 a k ha) (fun r => by simp only [List.mem_cons, List.not_mem_nil, or_false] at ha; omega))
theorem m_comes_in {M : Mem} {q : Nat → Nat → List Nat} (hq : ∀ e, OkW (q e)) {d : Nat} (hd : d < 201) (a : Int32) (kz : Mem → Option (Int32 × Mem)) (ky : Int32 → Mem → Option (Int32 × Mem)) (h : ∀ e, e ≤ d → ∀ p, p < 6 → M.2 20 (6 * e + p) = lN (cdN (q e p))) : X_Model_comes_L43 fuel a (nI d) kz ky fuel (nI 0) M = (match sFd q d d 0 with | some e => ky (nI e) M | none => kz M) := by
  have key : ∀ (k i g : Nat), d - i = k → i ≤ d → k < g → X_Model_comes_L43 fuel a (nI d) kz ky g (nI i) M = (match sFd q d k i with | some e => ky (nI e) M | none => kz M) := by
    intro k
    induction k with
    | zero =>
      intro i g g1 g2 g3
      obtain ⟨g, rfl⟩ : ∃ e, g = e + 1 := ⟨g - 1, by omega⟩
      show (if nI d ≤ nI i then kz M else _) = _
      rw [if_pos (nI_le (by omega) (by omega))]
      rfl
    | succ k ih =>
      intro i g g1 g2 g3
      obtain ⟨g, rfl⟩ : ∃ e, g = e + 1 := ⟨g - 1, by omega⟩
      show (if nI d ≤ nI i then kz M else bd (X_Model_isAs fuel (nI i) (nI d) M) fun r11 M12 => (if r11 = 0 then X_Model_comes_L43 fuel a (nI d) kz ky g (nI i + 1) M12 else ky (nI i) M12)) = _
      rw [if_neg (nI_ge (by omega) (by omega)), m_isAs (hq i) (hq d) hd (by omega) (h i (by omega)) (h d (Nat.le_refl _)), bd_ret]
      unfold sFd
      by_cases e : eqW (q i) (q d) = true
      · rw [if_pos e, if_pos e, if_neg i10]
      · rw [if_neg e, if_neg e, if_pos rfl, nI_1]
        exact ih (i + 1) g (by omega) (by omega) (by omega)
  exact key d 0 fuel rfl (Nat.zero_le _) (by have := fu; omega)
theorem m_comes_L {M : Mem} {S : Ab} (hS : Ok S) (hM : MA M S) (a : Int32) : ∀ (k d g : Nat) (N : Mem), 201 - d = k → 1 ≤ d → d ≤ 201 → k < g → Fr mN M N → LyM N 15 (60 * 0) (daysF S.R S.A.gl (d - 1) S.A.W) → (∀ e, e < d → ∀ p, p < 6 → N.2 20 (6 * e + p) = lN (cdN (daysF S.R S.A.gl e S.A.W p))) → ∃ M', X_Model_comes_L24 fuel a (fun y16 y17 M18 => (if a = 0 then some (y17, M18) else some ((y16 - y17), M18))) g (nI d) N = some (comF (fun e => daysF S.R S.A.gl e S.A.W) a k d, M') ∧ Fr mN M M' := by
  have ok : ∀ e, OkW (daysF S.R S.A.gl e S.A.W) := fun e => (daysF_ok hS.hR e hS.hA.1 hS.hA.2.1).1
  intro k
  induction k with
  | zero =>
    intro d g N g1 g0 g2 g3 hN hr h
    obtain ⟨g, rfl⟩ : ∃ e, g = e + 1 := ⟨g - 1, by omega⟩
    have e : d = 201 := by omega
    subst e
    refine ⟨N, ?_, hN⟩
    show (if (200 : Int32) < nI 201 then _ else _) = _
    rw [if_pos (by decide)]
    rfl
  | succ k ih =>
    intro d g N g1 g0 g2 g3 hN hr h
    obtain ⟨g, rfl⟩ : ∃ e, g = e + 1 := ⟨g - 1, by omega⟩
    have lt200 : ¬ (200 : Int32) < nI d := Int32.not_lt.mpr (nI_le (b := 200) (by omega) (by decide))
    have hG : GlM N 60 S.A.gl := by
      have := hM.a.2.1
      rw [Nat.zero_add] at this
      exact this.fr hN (fun k _ _ q => q.elim (mh_1 k) (fun r => by omega))
    obtain ⟨M1, k1, k2, k3⟩ := m_aDay fuel (by decide) hS.hR hS.hA.2.2.1 (mN_MC hM.c hN) hG (ok (d - 1)) hr
    have ed : feastF S.R S.A.gl S.R.2.2.2.2 (daysF S.R S.A.gl (d - 1) S.A.W) = daysF S.R S.A.gl d S.A.W := by
      have := daysF_succ S.R S.A.gl (d - 1) S.A.W
      rw [show d - 1 + 1 = d by omega] at this
      exact this.symm
    rw [ed] at k3
    obtain ⟨M2, u1, u2, u3⟩ := m_notes (n := fuel) (by decide) (ok d) k3 (d := d) (by omega)
    have fr : Fr mN M M2 := (hN.trans (k2.mono (fun _ _ q => Or.inl q))).trans (u2.mono (fun _ _ q => Or.inr q.1))
    have all : ∀ e, e ≤ d → ∀ p, p < 6 → M2.2 20 (6 * e + p) = lN (cdN (daysF S.R S.A.gl e S.A.W p)) := fun e he p hp => by
      by_cases e2 : e = d
      · rw [e2]; exact u3 p hp
      · rw [(u2 20 _ (by unfold rg; omega)).2, (k2 20 _ (by unfold mh mk rg; omega)).2]
        exact h e (by omega) p hp
    have lin := m_comes_in (q := fun e => daysF S.R S.A.gl e S.A.W) ok (d := d) (by omega) a (fun M13 => X_Model_comes_L24 fuel a (fun y16 y17 M18 => (if a = 0 then some (y17, M18) else some ((y16 - y17), M18))) g (nI d + 1) M13) (fun y14 M15 => (if a = 0 then some (y14, M15) else some ((nI d - y14), M15))) all
    have un : X_Model_comes_L24 fuel a (fun y16 y17 M18 => (if a = 0 then some (y17, M18) else some ((y16 - y17), M18))) (g + 1) (nI d) N = X_Model_comes_L43 fuel a (nI d) (fun M13 => X_Model_comes_L24 fuel a (fun y16 y17 M18 => (if a = 0 then some (y17, M18) else some ((y16 - y17), M18))) g (nI d + 1) M13) (fun y14 M15 => (if a = 0 then some (y14, M15) else some ((nI d - y14), M15))) fuel (nI 0) M2 := by
      show (if (200 : Int32) < nI d then _ else bd (X_Model_aDay fuel (nI 0) N) fun _ M8 => bd (X_Model_notes fuel (nI d) M8) fun _ M10 => X_Model_comes_L43 fuel a (nI d) _ _ fuel (nI 0) M10) = _
      rw [if_neg lt200, k1, bd_ret, u1, bd_ret]
    rw [un, lin]
    unfold comF
    cases hs : sFd (fun e => daysF S.R S.A.gl e S.A.W) d d 0 with
    | some e =>
      refine ⟨M2, ?_, fr⟩
      show (if a = 0 then some (nI e, M2) else some ((nI d - nI e), M2)) = some ((if a = 0 then nI e else nI d - nI e), M2)
      split <;> rfl
    | none =>
      have ly : LyM M2 15 (60 * 0) (daysF S.R S.A.gl (d + 1 - 1) S.A.W) := k3.fr (ok d) u2 (fun k _ _ => by unfold rg; omega)
      show ∃ M', X_Model_comes_L24 fuel a _ g (nI d + 1) M2 = some (comF (fun e => daysF S.R S.A.gl e S.A.W) a k (d + 1), M') ∧ _
      rw [nI_1]
      exact ih (d + 1) g M2 (by omega) (by omega) (by omega) (by omega) fr ly (fun e he => all e (by omega))
theorem sim_comes (a0 : Int32) : Sm (fun M => X_ShakeHands_comes fuel a0 M) (fun M => X_Model_comes fuel a0 M) := by
  refine Sm_q (q := fun S => if vN a0 2 then comF (fun e => daysF S.R S.A.gl e S.A.W) a0 201 0 else -1) (fun M S hS hM => ?_) (fun M S hS hM => ?_)
  · dsimp only
    unfold X_ShakeHands_comes
    rw [in01]
    by_cases h : vN a0 2 = true
    · obtain ⟨h1, h2⟩ := vN_y (by decide) h
      rw [if_pos h, if_pos h]
      have c1 : Off [39] M (cpL M 17 0 39 0 6) := Off.cpL (by decide)
      have c2 : rowsAt (cpL M 17 0 39 0 6) 39 S.A.W := fun p hp => by
        show (if 39 = 39 ∧ 0 ≤ p ∧ p < 0 + 6 then M.2 17 (0 + (p - 0)) else _) = _
        rw [if_pos ⟨rfl, by omega, by omega⟩, Nat.zero_add, Nat.sub_zero]
        exact hM.a.2.2.1 p hp
      obtain ⟨M', q1, q2⟩ := x_comes_L hS a0 201 0 fuel (cpL M 17 0 39 0 6) rfl (by decide) (by decide) (hM.off (xS_of c1 (by decide))) (fun e he => by omega) c2
      have un : X_Habit_comesBack fuel a0 M = some (comF (fun e => daysF S.R S.A.gl e S.A.W) a0 201 0, M') := by
        unfold X_Habit_comesBack gc
        rw [if_neg (by decide)]
        exact q1
      refine ⟨M', ?_, (xS_of c1 (by decide)).trans q2⟩
      unfold nm
      dsimp only
      by_cases e : a0 = 1
      · rw [if_pos e]
        rw [e] at un
        rw [un, bd_ret, e]
      · rw [if_neg e]
        have e0 : a0 = 0 := by
          generalize pN a0 = k at *
          match k, h1 with
          | 0, _ => exact h2
          | 1, _ => exact absurd h2 e
        rw [e0] at un
        rw [un, bd_ret, e0]
    · rw [if_neg h, if_neg h]
      exact ⟨M, rfl, Off.rf⟩
  · dsimp only
    unfold X_Model_comes
    have e3 := m_inV fuel (P := 2) (by decide) a0 M
    rw [show (nI 2 - 1 : Int32).toInt64 = 1 by decide] at e3
    rw [e3, bd_ret]
    by_cases h : vN a0 2 = true
    · rw [if_pos h, if_pos h, if_neg i10, show (0 : Int32) = nI 0 from rfl, m0_b, bd_ret]
      obtain ⟨M1, u1, u2, u3⟩ := m_notes (n := fuel) (by decide) hS.hA.1 (m0_ly hS hM) (d := 0) (by decide)
      have fr : Fr mN M M1 := ((m0_fr M).mono (fun _ _ q => Or.inl q)).trans (u2.mono (fun _ _ q => Or.inr q.1))
      have ly : LyM M1 15 (60 * 0) S.A.W := (m0_ly hS hM).fr hS.hA.1 u2 (fun k _ _ => by unfold rg; omega)
      obtain ⟨M', q1, q2⟩ := m_comes_L hS hM a0 200 1 fuel M1 rfl (by decide) (by decide) (by decide) fr ly (fun e he p hp => by
        have : e = 0 := by omega
        subst this
        exact u3 p hp)
      rw [u1, bd_ret]
      exact ⟨M', q1, mN_S q2⟩
    · rw [if_neg h, if_neg h, if_pos rfl]
      exact ⟨M, rfl, Fr.rf⟩
end
section
/-! THE REFERENCE: its draft -/
def DM (M : Mem) (R : Rl) (W : Nat → List Nat) (g : Nat) : Prop := M.1 0 12 = nI R.1 ∧ M.1 0 13 = nI R.2.1 ∧ M.1 0 14 = nI R.2.2.1.length ∧ M.1 0 15 = nI R.2.2.2.1.length ∧ M.1 0 16 = nI R.2.2.2.2.length ∧
  (∀ j q, R.2.2.1[j]? = some q → M.1 8 (3 * j) = nI q.1 ∧ M.1 8 (3 * j + 1) = nI q.2.1 ∧ M.1 8 (3 * j + 2) = nI q.2.2) ∧ (∀ i h, R.2.2.2.1[i]? = some h → M.1 9 i = nI h) ∧ (∀ i h, R.2.2.2.2[i]? = some h → M.1 10 i = nI h) ∧
  LyM M 11 0 W ∧ ∀ p, p < 6 → M.1 12 p = nI (if g.testBit p then 1 else 0)
def kd (a k : Nat) : Prop := (2 ≤ a ∧ a ≤ 5) ∨ (a = 1 ∧ k < 78) ∨ (a = 0 ∧ 2 ≤ k ∧ k ≤ 6)
theorem m_kd42 (n : Nat) (hn : 100 ≤ n) (kx : Mem → Option (Unit × Mem)) (N : Mem) : X_Model_keepDraft_L42 n kx n (nI 0) N = kx (cpI N 8 0 3 0 12) := by
  have key : ∀ (d i f : Nat), 12 - i = d → i ≤ 12 → d < f → X_Model_keepDraft_L42 n kx f (nI i) (cpI N 8 0 3 0 i) = kx (cpI N 8 0 3 0 12) := by
    intro d
    induction d with
    | zero =>
      intro i f h1 h2 h3
      obtain ⟨f, rfl⟩ : ∃ g, f = g + 1 := ⟨f - 1, by omega⟩
      have e : i = 12 := by omega
      subst e
      show (if (12 : Int32) ≤ nI 12 then _ else _) = _
      rw [if_pos (by decide)]
    | succ d ih =>
      intro i f h1 h2 h3
      obtain ⟨f, rfl⟩ : ∃ g, f = g + 1 := ⟨f - 1, by omega⟩
      generalize hN : cpI N 8 0 3 0 i = P
      show (if (12 : Int32) ≤ nI i then _ else gd (nI i) 12 (gd (nI i) 12 (X_Model_keepDraft_L42 n kx f (nI i + 1) (si P 3 ((nI i).toNatClampNeg) (P.1 8 (nI i).toNatClampNeg))))) = _
      rw [if_neg (show ¬ (12 : Int32) ≤ nI i from nI_ge (b := 12) (by omega) (by decide)), gd_in (vp_in_nI (by omega) (by decide)), gd_in (vp_in_nI (by omega) (by decide)), nI_clamp (by omega), nI_1, ← hN]
      have := cp_step (M := N) (a := 8) (sp := 0) (b := 3) (dp := 0) (i := i) (Or.inl (by decide))
      rw [Nat.zero_add] at this
      rw [this]
      exact ih (i + 1) f (by omega) (by omega) (by omega)
  have := key 12 0 n rfl (by decide) (by omega)
  rw [cp_0] at this
  exact this
theorem m_kd68 (n : Nat) (hn : 100 ≤ n) (kx : Mem → Option (Unit × Mem)) (N : Mem) : X_Model_keepDraft_L68 n kx n (nI 0) N = kx (cpI N 9 0 4 0 16) := by
  have key : ∀ (d i f : Nat), 16 - i = d → i ≤ 16 → d < f → X_Model_keepDraft_L68 n kx f (nI i) (cpI N 9 0 4 0 i) = kx (cpI N 9 0 4 0 16) := by
    intro d
    induction d with
    | zero =>
      intro i f h1 h2 h3
      obtain ⟨f, rfl⟩ : ∃ g, f = g + 1 := ⟨f - 1, by omega⟩
      have e : i = 16 := by omega
      subst e
      show (if (16 : Int32) ≤ nI 16 then _ else _) = _
      rw [if_pos (by decide)]
    | succ d ih =>
      intro i f h1 h2 h3
      obtain ⟨f, rfl⟩ : ∃ g, f = g + 1 := ⟨f - 1, by omega⟩
      generalize hN : cpI N 9 0 4 0 i = P
      show (if (16 : Int32) ≤ nI i then _ else gd (nI i) 16 (gd (nI i) 16 (X_Model_keepDraft_L68 n kx f (nI i + 1) (si P 4 ((nI i).toNatClampNeg) (P.1 9 (nI i).toNatClampNeg))))) = _
      rw [if_neg (show ¬ (16 : Int32) ≤ nI i from nI_ge (b := 16) (by omega) (by decide)), gd_in (vp_in_nI (by omega) (by decide)), gd_in (vp_in_nI (by omega) (by decide)), nI_clamp (by omega), nI_1, ← hN]
      have := cp_step (M := N) (a := 9) (sp := 0) (b := 4) (dp := 0) (i := i) (Or.inl (by decide))
      rw [Nat.zero_add] at this
      rw [this]
      exact ih (i + 1) f (by omega) (by omega) (by omega)
  have := key 16 0 n rfl (by decide) (by omega)
  rw [cp_0] at this
  exact this
theorem m_kd94 (n : Nat) (hn : 100 ≤ n) (kx : Mem → Option (Unit × Mem)) (N : Mem) : X_Model_keepDraft_L94 n kx n (nI 0) N = kx (cpI N 10 0 5 0 8) := by
  have key : ∀ (d i f : Nat), 8 - i = d → i ≤ 8 → d < f → X_Model_keepDraft_L94 n kx f (nI i) (cpI N 10 0 5 0 i) = kx (cpI N 10 0 5 0 8) := by
    intro d
    induction d with
    | zero =>
      intro i f h1 h2 h3
      obtain ⟨f, rfl⟩ : ∃ g, f = g + 1 := ⟨f - 1, by omega⟩
      have e : i = 8 := by omega
      subst e
      show (if (8 : Int32) ≤ nI 8 then _ else _) = _
      rw [if_pos (by decide)]
    | succ d ih =>
      intro i f h1 h2 h3
      obtain ⟨f, rfl⟩ : ∃ g, f = g + 1 := ⟨f - 1, by omega⟩
      generalize hN : cpI N 10 0 5 0 i = P
      show (if (8 : Int32) ≤ nI i then _ else gd (nI i) 8 (gd (nI i) 8 (X_Model_keepDraft_L94 n kx f (nI i + 1) (si P 5 ((nI i).toNatClampNeg) (P.1 10 (nI i).toNatClampNeg))))) = _
      rw [if_neg (show ¬ (8 : Int32) ≤ nI i from nI_ge (b := 8) (by omega) (by decide)), gd_in (vp_in_nI (by omega) (by decide)), gd_in (vp_in_nI (by omega) (by decide)), nI_clamp (by omega), nI_1, ← hN]
      have := cp_step (M := N) (a := 10) (sp := 0) (b := 5) (dp := 0) (i := i) (Or.inl (by decide))
      rw [Nat.zero_add] at this
      rw [this]
      exact ih (i + 1) f (by omega) (by omega) (by omega)
  have := key 8 0 n rfl (by decide) (by omega)
  rw [cp_0] at this
  exact this
theorem m_kd120 (n : Nat) (hn : 100 ≤ n) (kx : Mem → Option (Unit × Mem)) {N : Mem} {g : Nat} (hG : ∀ p, p < 6 → N.1 12 p = nI (if g.testBit p then 1 else 0)) : ∃ M', X_Model_keepDraft_L120 n kx n (nI 0) N = kx M' ∧ Fr (rg 1 0 78) N M' ∧ (∀ j, j < 60 → M'.1 1 j = N.1 11 j) ∧ GlM M' 60 g ∧ GlM M' 66 0 := by
  have key : ∀ (d i f : Nat) (Q : Mem), 78 - i = d → i ≤ 78 → d < f → Fr (rg 1 0 78) N Q → (∀ j, j < 60 → j < i → Q.1 1 j = N.1 11 j) → (∀ p, p < 6 → 60 + p < i → Q.1 1 (60 + p) = nI (if g.testBit p then 1 else 0)) → (∀ p, p < 6 → 66 + p < i → Q.1 1 (66 + p) = 0) → ∃ M', X_Model_keepDraft_L120 n kx f (nI i) Q = kx M' ∧ Fr (rg 1 0 78) N M' ∧ (∀ j, j < 60 → M'.1 1 j = N.1 11 j) ∧ GlM M' 60 g ∧ GlM M' 66 0 := by
    intro d
    induction d with
    | zero =>
      intro i f Q h1 h2 h3 h4 h5 h6 h7
      obtain ⟨f, rfl⟩ : ∃ g, f = g + 1 := ⟨f - 1, by omega⟩
      have e : i = 78 := by omega
      subst e
      refine ⟨Q, ?_, h4, fun j hj => h5 j hj (by omega), fun p hp => h6 p hp (by omega), fun p hp => ?_⟩
      · show (if (78 : Int32) ≤ nI 78 then _ else _) = _
        rw [if_pos (by decide)]
      · rw [h7 p hp (by omega)]
        simp
        rfl
    | succ d ih =>
      intro i f Q h1 h2 h3 h4 h5 h6 h7
      obtain ⟨f, rfl⟩ : ∃ g, f = g + 1 := ⟨f - 1, by omega⟩
      have hi : i < 78 := by omega
      have step : ∀ v : Int32, (i < 60 → v = N.1 11 i) → (∀ p, p < 6 → i = 60 + p → v = nI (if g.testBit p then 1 else 0)) → (66 ≤ i → v = 0) → ∃ M', X_Model_keepDraft_L120 n kx f (nI i + 1) (si Q 1 i v) = kx M' ∧ Fr (rg 1 0 78) N M' ∧ (∀ j, j < 60 → M'.1 1 j = N.1 11 j) ∧ GlM M' 60 g ∧ GlM M' 66 0 := by
        intro v v1 v2 v3
        rw [nI_1]
        refine ih (i + 1) f (si Q 1 i v) (by omega) (by omega) (by omega) (h4.trans (Fr.si ⟨rfl, by omega, by omega⟩)) (fun j hj hj2 => ?_) (fun p hp hp2 => ?_) (fun p hp hp2 => ?_)
        · by_cases e : j = i
          · rw [e, si_at]; exact v1 (by omega)
          · rw [si_ne (Or.inr e)]; exact h5 j hj (by omega)
        · by_cases e : 60 + p = i
          · rw [e, si_at]; exact v2 p hp e.symm
          · rw [si_ne (Or.inr e)]; exact h6 p hp (by omega)
        · by_cases e : 66 + p = i
          · rw [e, si_at]; exact v3 (by omega)
          · rw [si_ne (Or.inr e)]; exact h7 p hp (by omega)
      have un : X_Model_keepDraft_L120 n kx (f + 1) (nI i) Q = if 60 ≤ nI i then (if 66 ≤ nI i then X_Model_keepDraft_L120 n kx f (nI i + 1) (si Q 1 i 0) else gd (nI i - 60) 6 (bd (X_Model_flag n (Q.1 12 (nI i - 60).toNatClampNeg) Q) fun r10 M11 => X_Model_keepDraft_L120 n kx f (nI i + 1) (si M11 1 i r10))) else X_Model_keepDraft_L120 n kx f (nI i + 1) (si Q 1 i (Q.1 11 i)) := by
        show (if (78 : Int32) ≤ nI i then kx Q else _) = _
        rw [if_neg (show ¬ (78 : Int32) ≤ nI i from nI_ge (b := 78) (by omega) (by decide))]
        have hv : vp_in (nI i) 234 := vp_in_nI (by omega) (by decide)
        simp only [nm, gd_in hv]
        rw [nI_clamp (by omega)]
        by_cases e : 60 ≤ nI i
        · rw [if_pos e, if_pos e]
        · rw [if_neg e, if_neg e]
          have : i < 60 := by
            by_cases h : i < 60
            · exact h
            · exact absurd (nI_le (a := 60) (by omega) (by omega)) e
          rw [gd_in (vp_in_nI (by omega) (by decide))]
      rw [un]
      by_cases c1 : i < 60
      · rw [if_neg (show ¬ (60 : Int32) ≤ nI i from nI_ge (b := 60) c1 (by decide)), (h4 11 i (by unfold rg; omega)).1]
        exact step _ (fun _ => rfl) (fun p hp e => by omega) (fun h => by omega)
      · rw [if_pos (show (60 : Int32) ≤ nI i from nI_le (a := 60) (by omega) (by omega))]
        by_cases c2 : i < 66
        · rw [if_neg (show ¬ (66 : Int32) ≤ nI i from nI_ge (b := 66) c2 (by decide)), show (60 : Int32) = nI 60 from rfl, pk_sub (by omega), gd_in (vp_in_nI (by omega) (by decide)), nI_clamp (by omega), (h4 12 _ (by unfold rg; omega)).1, hG (i - 60) (by omega)]
          have fl : ∀ (c : Bool) (N : Mem), X_Model_flag n (nI (if c then 1 else 0)) N = some (nI (if c then 1 else 0), N) := fun c N => by cases c <;> rfl
          rw [fl, bd_ret]
          exact step _ (fun h => by omega) (fun p hp e => by rw [show p = i - 60 by omega]) (fun h => by omega)
        · rw [if_pos (show (66 : Int32) ≤ nI i from nI_le (a := 66) (by omega) (by omega))]
          exact step _ (fun h => by omega) (fun p hp e => by omega) (fun _ => rfl)
  exact key 78 0 n N rfl (by decide) (by omega) Fr.rf (fun j _ h => by omega) (fun p _ h => by omega) (fun p _ h => by omega)
theorem cp_get {M : Mem} {a sp b dp n k j : Nat} (h : dp ≤ k) (h2 : k < dp + n) (hj : sp + (k - dp) = j) : (cpI M a sp b dp n).1 b k = M.1 a j := by
  show (if b = b ∧ dp ≤ k ∧ k < dp + n then M.1 a (sp + (k - dp)) else _) = _
  rw [if_pos ⟨rfl, h, h2⟩, hj]
theorem m_keepDraft (n : Nat) (hn : 100 ≤ n) {M : Mem} {R : Rl} {W : Nat → List Nat} {g : Nat} (hR : OkR R) (hW : OkW W) (hD : DM M R W g) (h67 : ∀ h, h < 15 → M.1 6 h = nI (les h) ∧ M.1 7 h = nI (gre h)) : ∃ M', X_Model_keepDraft n M = some ((), M') ∧ MC M' R ∧ (∀ sg, MMi M' 0 (W, g, 0, sg)) ∧ M'.1 2 0 = 0 ∧ M'.1 2 1 = 0 ∧ Fr kd M M' := by
  obtain ⟨d1, d2, d3, d4, d5, d6, d7, d8, d9, d10⟩ := hD
  have l1 := hR.2.2.2.2.1
  have l2 := hR.2.2.2.2.2.2.1
  have l3 := hR.2.2.2.2.2.2.2.2.1
  generalize hM5 : si (si (si (si (si M 0 2 (nI R.1)) 0 3 (nI R.2.1)) 0 4 (nI R.2.2.1.length)) 0 5 (nI R.2.2.2.1.length)) 0 6 (nI R.2.2.2.2.length) = M5
  have f5 : Fr kd M M5 := by
    rw [← hM5]
    exact ((((Fr.si (by unfold kd; omega)).trans (Fr.si (by unfold kd; omega))).trans (Fr.si (by unfold kd; omega))).trans (Fr.si (by unfold kd; omega))).trans (Fr.si (by unfold kd; omega))
  have un : X_Model_keepDraft n M = X_Model_keepDraft_L42 n (fun M5 => X_Model_keepDraft_L68 n (fun M6 => X_Model_keepDraft_L94 n (fun M7 => X_Model_keepDraft_L120 n (fun M12 => some ((), si (si M12 2 0 0) 2 1 0)) n (nI 0) M7) n (nI 0) M6) n (nI 0) M5) n (nI 0) M5 := by
    rw [← hM5, ← d1, ← d2, ← d3, ← d4, ← d5]
    rfl
  generalize hP : cpI (cpI (cpI M5 8 0 3 0 12) 9 0 4 0 16) 10 0 5 0 8 = P
  have fP : Fr kd M P := by
    rw [← hP]
    exact (((f5.trans (Fr.cpI (fun k _ _ => by unfold kd; omega))).trans (Fr.cpI (fun k _ _ => by unfold kd; omega))).trans (Fr.cpI (fun k _ _ => by unfold kd; omega)))
  obtain ⟨Q, q1, q2, q3, q4, q5⟩ := m_kd120 n hn (fun M12 => some ((), si (si M12 2 0 0) 2 1 0)) (N := P) (g := g) (fun p hp => by rw [(fP 12 p (by unfold kd; omega)).1]; exact d10 p hp)
  have fQ : Fr kd M (si (si Q 2 0 0) 2 1 0) := (fP.trans (q2.mono (fun a k h => by unfold rg at h; unfold kd; omega))).trans ((Fr.si (by unfold kd; omega)).trans (Fr.si (by unfold kd; omega)))
  have offQ : ∀ a k, a ≠ 1 → a ≠ 2 → (si (si Q 2 0 0) 2 1 0).1 a k = P.1 a k := fun a k h1 h2 => by
    rw [si_ne (Or.inl h2), si_ne (Or.inl h2), (q2 a k (by unfold rg; omega)).1]
  have p3 : ∀ k, k < 12 → P.1 3 k = M.1 8 k := fun k hk => by
    rw [← hP, (cpI_off (by decide)).1, (cpI_off (by decide)).1, cp_get (by omega) (by omega) (show 0 + (k - 0) = k by omega), (f5 8 k (by unfold kd; omega)).1]
  have p4 : ∀ k, k < 16 → P.1 4 k = M.1 9 k := fun k hk => by
    rw [← hP, (cpI_off (by decide)).1, cp_get (by omega) (by omega) (show 0 + (k - 0) = k by omega), (cpI_off (by decide)).1, (f5 9 k (by unfold kd; omega)).1]
  have p5 : ∀ k, k < 8 → P.1 5 k = M.1 10 k := fun k hk => by
    rw [← hP, cp_get (by omega) (by omega) (show 0 + (k - 0) = k by omega), (cpI_off (by decide)).1, (cpI_off (by decide)).1, (f5 10 k (by unfold kd; omega)).1]
  have p0 : ∀ k, P.1 0 k = M5.1 0 k := fun k => by rw [← hP, (cpI_off (by decide)).1, (cpI_off (by decide)).1, (cpI_off (by decide)).1]
  refine ⟨_, by rw [un, m_kd42 n hn, m_kd68 n hn, m_kd94 n hn, hP, q1], ⟨?_, ?_, ?_, ?_, ?_, fun j q hq => ?_, fun i h hi => ?_, fun i h hi => ?_, fun h hh => ?_⟩, fun sg => ⟨fun p hp => ?_, fun p hp => ?_, fun p hp => ?_, fun p hp hs => ?_⟩, ?_, ?_, fQ⟩
  · rw [offQ 0 2 (by decide) (by decide), p0, ← hM5, si_ne (Or.inr (by decide)), si_ne (Or.inr (by decide)), si_ne (Or.inr (by decide)), si_ne (Or.inr (by decide)), si_at]
  · rw [offQ 0 3 (by decide) (by decide), p0, ← hM5, si_ne (Or.inr (by decide)), si_ne (Or.inr (by decide)), si_ne (Or.inr (by decide)), si_at]
  · rw [offQ 0 4 (by decide) (by decide), p0, ← hM5, si_ne (Or.inr (by decide)), si_ne (Or.inr (by decide)), si_at]
  · rw [offQ 0 5 (by decide) (by decide), p0, ← hM5, si_ne (Or.inr (by decide)), si_at]
  · rw [offQ 0 6 (by decide) (by decide), p0, ← hM5, si_at]
  · have := (List.getElem?_eq_some_iff.mp hq).1
    rw [offQ 3 _ (by decide) (by decide), offQ 3 _ (by decide) (by decide), offQ 3 _ (by decide) (by decide), p3 _ (by omega), p3 _ (by omega), p3 _ (by omega)]
    exact d6 j q hq
  · have := (List.getElem?_eq_some_iff.mp hi).1
    rw [offQ 4 _ (by decide) (by decide), p4 _ (by omega)]
    exact d7 i h hi
  · have := (List.getElem?_eq_some_iff.mp hi).1
    rw [offQ 5 _ (by decide) (by decide), p5 _ (by omega)]
    exact d8 i h hi
  · rw [(fQ 6 h (by unfold kd; omega)).1, (fQ 7 h (by unfold kd; omega)).1]
    exact h67 h hh
  · have hl := (hW p).2
    have hr := d9 p hp
    have o : ∀ k, k < 60 → (si (si Q 2 0 0) 2 1 0).1 1 k = M.1 11 k := fun k hk => by
      rw [si_ne (Or.inl (by decide)), si_ne (Or.inl (by decide)), q3 k hk, (fP 11 k (by unfold kd; omega)).1]
    refine ⟨by rw [o _ (by omega)]; exact hr.1, fun i t hi => ?_⟩
    have := (List.getElem?_eq_some_iff.mp hi).1
    have hi' : (W p)[i]? = some t := hi
    have : i < (W p).length := this
    rw [o _ (by omega)]
    exact hr.2 i t hi'
  · have := q4 p hp
    rw [si_ne (Or.inl (by decide)), si_ne (Or.inl (by decide)), show 0 + 60 + p = 60 + p by omega]
    exact this
  · have := q5 p hp
    rw [si_ne (Or.inl (by decide)), si_ne (Or.inl (by decide)), show 0 + 66 + p = 66 + p by omega]
    exact this
  · exact absurd (show (0 : Nat).testBit p = true from hs) (by simp)
  · rw [si_ne (Or.inr (by decide)), si_at]
  · rw [si_at]
end
section
/-! BOTH OBJECTS MADE -/
def fd (a k : Nat) : Prop := (11 ≤ a ∧ a ≤ 13) ∨ (a = 0 ∧ ((12 ≤ k ∧ k ≤ 17) ∨ k = 24))
def R0 : Rl := (3, 9, [], [], [])
theorem R0_ok : OkR R0 := ⟨by decide, by decide, by decide, by decide, by decide, fun q h => (List.not_mem_nil h).elim, by decide, fun q h => (List.not_mem_nil h).elim, by decide, fun q h => (List.not_mem_nil h).elim⟩
theorem m_firstDraft (n : Nat) (hn : 100 ≤ n) (M : Mem) : ∃ M', X_Model_firstDraft n M = some ((), M') ∧ DM M' R0 (fun _ => []) 0 ∧ M'.1 0 17 = 0 ∧ M'.1 0 24 = 0 ∧ (∀ p, p < 6 → M'.1 13 p = 0) ∧ (∀ j, j < 60 → M'.1 11 j = 0) ∧ Fr fd M M' := by
  have k2 : ∀ (d i f : Nat) (N : Mem), 6 - i = d → i ≤ 6 → d < f → (∀ p, p < i → N.1 12 p = 0 ∧ N.1 13 p = 0) → ∃ M', X_Model_firstDraft_L59 n f (nI i) N = some ((), M') ∧ Fr (fun a _ => a = 12 ∨ a = 13) N M' ∧ ∀ p, p < 6 → M'.1 12 p = 0 ∧ M'.1 13 p = 0 := by
    intro d
    induction d with
    | zero =>
      intro i f N h1 h2 h3 h
      obtain ⟨f, rfl⟩ : ∃ g, f = g + 1 := ⟨f - 1, by omega⟩
      have e : i = 6 := by omega
      subst e
      refine ⟨N, ?_, Fr.rf, h⟩
      show (if (6 : Int32) ≤ nI 6 then _ else _) = _
      rw [if_pos (by decide)]
    | succ d ih =>
      intro i f N h1 h2 h3 h
      obtain ⟨f, rfl⟩ : ∃ g, f = g + 1 := ⟨f - 1, by omega⟩
      have hi : i < 6 := by omega
      obtain ⟨M', q1, q2, q3⟩ := ih (i + 1) f (si (si N 12 i 0) 13 i 0) (by omega) (by omega) (by omega) (fun p hp => by
        constructor
        · rw [si_ne (Or.inl (by decide))]
          by_cases e : p = i
          · rw [e, si_at]
          · rw [si_ne (Or.inr e)]; exact (h p (by omega)).1
        · by_cases e : p = i
          · rw [e, si_at]
          · rw [si_ne (Or.inr e), si_ne (Or.inl (by decide))]; exact (h p (by omega)).2)
      refine ⟨M', ?_, ((Fr.si (Or.inl rfl)).trans (Fr.si (Or.inr rfl))).trans q2, q3⟩
      show (if (6 : Int32) ≤ nI i then _ else gd (nI i) 6 (gd (nI i) 6 (X_Model_firstDraft_L59 n f (nI i + 1) (si (si N 12 (nI i).toNatClampNeg 0) 13 (nI i).toNatClampNeg 0)))) = _
      rw [if_neg (show ¬ (6 : Int32) ≤ nI i from nI_ge (b := 6) hi (by decide)), gd_in (vp_in_nI (by omega) (by decide)), gd_in (vp_in_nI (by omega) (by decide)), nI_clamp (by omega), nI_1]
      exact q1
  have k1 : ∀ (kx : Mem → Option (Unit × Mem)) (d i f : Nat) (N : Mem), 60 - i = d → i ≤ 60 → d < f → (∀ p, p < i → N.1 11 p = 0) → ∃ M', X_Model_firstDraft_L38 n kx f (nI i) N = kx M' ∧ Fr (fun a _ => a = 11) N M' ∧ ∀ p, p < 60 → M'.1 11 p = 0 := by
    intro kx d
    induction d with
    | zero =>
      intro i f N h1 h2 h3 h
      obtain ⟨f, rfl⟩ : ∃ g, f = g + 1 := ⟨f - 1, by omega⟩
      have e : i = 60 := by omega
      subst e
      refine ⟨N, ?_, Fr.rf, h⟩
      show (if (60 : Int32) ≤ nI 60 then _ else _) = _
      rw [if_pos (by decide)]
    | succ d ih =>
      intro i f N h1 h2 h3 h
      obtain ⟨f, rfl⟩ : ∃ g, f = g + 1 := ⟨f - 1, by omega⟩
      have hi : i < 60 := by omega
      obtain ⟨M', q1, q2, q3⟩ := ih (i + 1) f (si N 11 i 0) (by omega) (by omega) (by omega) (fun p hp => by
        by_cases e : p = i
        · rw [e, si_at]
        · rw [si_ne (Or.inr e)]; exact h p (by omega))
      refine ⟨M', ?_, (Fr.si (P := fun a _ => a = 11) rfl).trans q2, q3⟩
      show (if (60 : Int32) ≤ nI i then _ else gd (nI i) 60 (X_Model_firstDraft_L38 n kx f (nI i + 1) (si N 11 (nI i).toNatClampNeg 0))) = _
      rw [if_neg (show ¬ (60 : Int32) ≤ nI i from nI_ge (b := 60) hi (by decide)), gd_in (vp_in_nI (by omega) (by decide)), nI_clamp (by omega), nI_1]
      exact q1
  generalize hM0 : si (si (si (si (si (si (si M 0 12 3) 0 13 9) 0 14 0) 0 15 0) 0 16 0) 0 17 0) 0 24 0 = M0
  have f0 : Fr fd M M0 := by
    rw [← hM0]
    exact ((((((Fr.si (by unfold fd; omega)).trans (Fr.si (by unfold fd; omega))).trans (Fr.si (by unfold fd; omega))).trans (Fr.si (by unfold fd; omega))).trans (Fr.si (by unfold fd; omega))).trans (Fr.si (by unfold fd; omega))).trans (Fr.si (by unfold fd; omega))
  obtain ⟨M1, a1, a2, a3⟩ := k1 (fun M1 => X_Model_firstDraft_L59 n n 0 M1) 60 0 n M0 rfl (by decide) (by omega) (fun p hp => by omega)
  obtain ⟨M2, b1, b2, b3⟩ := k2 6 0 n M1 rfl (by decide) (by omega) (fun p hp => by omega)
  have un : X_Model_firstDraft n M = X_Model_firstDraft_L38 n (fun M1 => X_Model_firstDraft_L59 n n 0 M1) n (nI 0) M0 := by rw [← hM0]; rfl
  have fr : Fr fd M M2 := (f0.trans (a2.mono (fun a k h => by unfold fd; omega))).trans (b2.mono (fun a k h => by unfold fd; omega))
  have e0 : ∀ k, M2.1 0 k = M0.1 0 k := fun k => by rw [(b2 0 k (by omega)).1, (a2 0 k (by omega)).1]
  have e11 : ∀ j, j < 60 → M2.1 11 j = 0 := fun j hj => by rw [(b2 11 j (by omega)).1]; exact a3 j hj
  refine ⟨M2, by rw [un, a1]; exact b1, ⟨?_, ?_, ?_, ?_, ?_, fun j q hq => ?_, fun i h hi => ?_, fun i h hi => ?_, fun p hp => ⟨?_, fun i t hi => ?_⟩, fun p hp => ?_⟩, ?_, ?_, fun p hp => (b3 p hp).2, e11, fr⟩
  · rw [e0, ← hM0]; rfl
  · rw [e0, ← hM0]; rfl
  · rw [e0, ← hM0]; rfl
  · rw [e0, ← hM0]; rfl
  · rw [e0, ← hM0]; rfl
  · cases hq
  · cases hi
  · cases hi
  · rw [e11 _ (by omega)]; rfl
  · cases hi
  · rw [(b3 p hp).1]; simp; rfl
  · rw [e0, ← hM0]; rfl
  · rw [e0, ← hM0]; rfl
def tri (b : Nat) : Nat := b * (b - 1) / 2
theorem tri_pr : ∀ b, b < 6 → ∀ a, a < b → prN a b = tri b + a ∧ les (tri b + a) = a ∧ gre (tri b + a) = b ∧ tri b + a < 15 := by decide +kernel
theorem tri_s : ∀ b, b < 6 → tri b + b = tri (b + 1) := by decide +kernel
def T67 (N : Mem) (c : Nat) : Prop := ∀ h, h < c → N.1 6 h = nI (les h) ∧ N.1 7 h = nI (gre h)
def ta (a _k : Nat) : Prop := a = 6 ∨ a = 7
theorem m_init_in (n : Nat) (hn : 100 ≤ n) {b : Nat} (hb : b < 6) (kx : Mem → Option (Unit × Mem)) : ∀ (d a f : Nat) (N : Mem), b - a = d → a ≤ b → d < f → T67 N (tri b + a) → ∃ M', X_Model_init_L235 n (nI b) kx f (nI a) N = kx M' ∧ Fr ta N M' ∧ T67 M' (tri (b + 1)) := by
  intro d
  induction d with
  | zero =>
    intro a f N h1 h2 h3 h
    obtain ⟨f, rfl⟩ : ∃ g, f = g + 1 := ⟨f - 1, by omega⟩
    have e : a = b := by omega
    subst e
    refine ⟨N, ?_, Fr.rf, by rw [← tri_s a hb]; exact h⟩
    show (if nI a ≤ nI a then kx N else _) = _
    rw [if_pos (nI_le (Nat.le_refl _) (by omega))]
  | succ d ih =>
    intro a f N h1 h2 h3 h
    obtain ⟨f, rfl⟩ : ∃ g, f = g + 1 := ⟨f - 1, by omega⟩
    have hab : a < b := by omega
    obtain ⟨t1, t2, t3, t4⟩ := tri_pr b hb a hab
    obtain ⟨M', q1, q2, q3⟩ := ih (a + 1) f (si (si N 6 (tri b + a) (nI a)) 7 (tri b + a) (nI b)) (by omega) (by omega) (by omega) (fun h2 hh => by
      by_cases e : h2 = tri b + a
      · constructor
        · rw [si_ne (Or.inl (by decide)), e, si_at, t2]
        · rw [e, si_at, t3]
      · constructor
        · rw [si_ne (Or.inl (by decide)), si_ne (Or.inr e)]; exact (h h2 (by omega)).1
        · rw [si_ne (Or.inr e), si_ne (Or.inl (by decide))]; exact (h h2 (by omega)).2)
    refine ⟨M', ?_, ((Fr.si (P := ta) (Or.inl rfl)).trans (Fr.si (P := ta) (Or.inr rfl))).trans q2, q3⟩
    show (if nI b ≤ nI a then kx N else bd (X_Model_pairOf n (nI a) (nI b) N) fun r2 M3 => gd r2 15 (bd (X_Model_pairOf n (nI a) (nI b) (si M3 6 (r2.toNatClampNeg) (nI a))) fun r5 M6 => gd r5 15 (X_Model_init_L235 n (nI b) kx f (nI a + 1) (si M6 7 (r5.toNatClampNeg) (nI b))))) = _
    rw [if_neg (nI_ge hab (by omega)), m_pairOf n (by omega) (by omega) (by omega), bd_ret, t1, gd_in (vp_in_nI t4 (by decide)), nI_clamp (by omega), m_pairOf n (by omega) (by omega) (by omega), bd_ret, t1, gd_in (vp_in_nI t4 (by decide)), nI_clamp (by omega), nI_1]
    exact q1
theorem m_init_tab (n : Nat) (hn : 100 ≤ n) (kx : Mem → Option (Unit × Mem)) : ∀ (d b f : Nat) (N : Mem), 6 - b = d → 1 ≤ b → b ≤ 6 → d < f → T67 N (tri b) → ∃ M', X_Model_init_L227 n kx f (nI b) N = kx M' ∧ Fr ta N M' ∧ T67 M' 15 := by
  intro d
  induction d with
  | zero =>
    intro b f N h1 h0 h2 h3 h
    obtain ⟨f, rfl⟩ : ∃ g, f = g + 1 := ⟨f - 1, by omega⟩
    have e : b = 6 := by omega
    subst e
    refine ⟨N, ?_, Fr.rf, h⟩
    show (if (6 : Int32) ≤ nI 6 then kx N else _) = _
    rw [if_pos (by decide)]
  | succ d ih =>
    intro b f N h1 h0 h2 h3 h
    obtain ⟨f, rfl⟩ : ∃ g, f = g + 1 := ⟨f - 1, by omega⟩
    obtain ⟨M1, a1, a2, a3⟩ := m_init_in n hn (b := b) (by omega) (fun M7 => X_Model_init_L227 n kx f (nI b + 1) M7) b 0 n N rfl (Nat.zero_le _) (by omega) h
    obtain ⟨M2, b1, b2, b3⟩ := ih (b + 1) f M1 (by omega) (by omega) (by omega) (by omega) a3
    refine ⟨M2, ?_, a2.trans b2, b3⟩
    show (if (6 : Int32) ≤ nI b then kx N else X_Model_init_L235 n (nI b) (fun M7 => X_Model_init_L227 n kx f (nI b + 1) M7) n (nI 0) N) = _
    rw [if_neg (show ¬ (6 : Int32) ≤ nI b from nI_ge (b := 6) (by omega) (by decide)), a1, nI_1]
    exact b1
theorem m_init_sh (n : Nat) (kx : Mem → Option (Unit × Mem)) : ∀ (d i f : Nat) (N : Mem), 4 - i = d → i ≤ 4 → d < f → (∀ k, k < i → N.1 23 k = -4) → ∃ M', X_Model_init_L206 n kx f (nI i) N = kx M' ∧ Fr (fun a _ => a = 23) N M' ∧ ∀ k, k < 4 → M'.1 23 k = -4 := by
  intro d
  induction d with
  | zero =>
    intro i f N h1 h2 h3 h
    obtain ⟨f, rfl⟩ : ∃ g, f = g + 1 := ⟨f - 1, by omega⟩
    have e : i = 4 := by omega
    subst e
    refine ⟨N, ?_, Fr.rf, h⟩
    show (if (4 : Int32) ≤ nI 4 then kx N else _) = _
    rw [if_pos (by decide)]
  | succ d ih =>
    intro i f N h1 h2 h3 h
    obtain ⟨f, rfl⟩ : ∃ g, f = g + 1 := ⟨f - 1, by omega⟩
    obtain ⟨M', q1, q2, q3⟩ := ih (i + 1) f (si N 23 i (-4)) (by omega) (by omega) (by omega) (fun p hp => by
      by_cases e : p = i
      · rw [e, si_at]
      · rw [si_ne (Or.inr e)]; exact h p (by omega))
    refine ⟨M', ?_, (Fr.si (P := fun a _ => a = 23) rfl).trans q2, q3⟩
    show (if (4 : Int32) ≤ nI i then _ else gd (nI i) 4 (X_Model_init_L206 n kx f (nI i + 1) (si N 23 (nI i).toNatClampNeg (-4)))) = _
    rw [if_neg (show ¬ (4 : Int32) ≤ nI i from nI_ge (b := 4) (by omega) (by decide)), gd_in (vp_in_nI (by omega) (by decide)), nI_clamp (by omega), nI_1]
    exact q1
def S0 : Ab := (R0, (fun _ => [], 0, 0, fun _ => 0), (fun _ => (fun _ => [], 0, 0, fun _ => 0)), 0, [], 0, 0, fun _ => none, fun _ _ => 0)
theorem S0_ok : Ok S0 := ⟨R0_ok, ⟨fun p => ⟨⟨List.nodup_nil, fun t (h : t ∈ ([] : List Nat)) => (List.not_mem_nil h).elim⟩, Nat.zero_le _⟩, fun p _ => rfl, by decide, by decide, fun p => (by decide : 0 < 65536)⟩, fun k _ h => absurd (show (0 : Nat).testBit k = true from h) (by simp), by decide, by decide, fun x h => (List.not_mem_nil h).elim, by decide, by decide, fun k l z h => (by cases h)⟩
theorem sim_fresh : ∃ M9, X_Model_init fuel zM = some ((), M9) ∧ XA (si (si (si (si zM 4 0 3) 4 1 9) 11 0 3) 11 1 9) S0 ∧ MA M9 S0 := by
  obtain ⟨M1, a1, a2, a3⟩ := m_init_sh fuel (fun M1 => X_Model_init_L227 fuel (fun M8 => bd (X_Model_firstDraft fuel M8) fun _ M10 => bd (X_Model_keepDraft fuel M10) fun _ M12 => some ((), M12)) fuel 1 M1) 4 0 fuel zM rfl (by decide) (by decide) (fun k hk => by omega)
  obtain ⟨M2, b1, b2, b3⟩ := m_init_tab fuel (by decide) (fun M8 => bd (X_Model_firstDraft fuel M8) fun _ M10 => bd (X_Model_keepDraft fuel M10) fun _ M12 => some ((), M12)) 5 1 fuel M1 rfl (by decide) (by decide) (by decide) (fun h hh => absurd hh (by show ¬ h < 0; omega))
  obtain ⟨M3, c1, c2, -, -, -, -, c3⟩ := m_firstDraft fuel (by decide) M2
  have w0 : OkW (fun _ : Nat => ([] : List Nat)) := fun p => ⟨⟨List.nodup_nil, by simp⟩, Nat.zero_le _⟩
  obtain ⟨M4, d1, d2, d3, d4, d5, d6⟩ := m_keepDraft fuel (by decide) R0_ok w0 c2 (fun h hh => by
    rw [(c3 6 h (by unfold fd; omega)).1, (c3 7 h (by unfold fd; omega)).1]
    exact b3 h hh)
  refine ⟨M4, ?_, ?_, ?_⟩
  · have un : X_Model_init fuel zM = X_Model_init_L206 fuel (fun M1 => X_Model_init_L227 fuel (fun M8 => bd (X_Model_firstDraft fuel M8) fun _ M10 => bd (X_Model_keepDraft fuel M10) fun _ M12 => some ((), M12)) fuel 1 M1) fuel (nI 0) zM := rfl
    rw [un, a1]
    refine Eq.trans b1 ?_
    rw [c1, bd_ret, d1, bd_ret]
  · refine ⟨⟨rfl, rfl, rfl, rfl, rfl, fun j q h => (by cases h), fun i h hi => (by cases hi), fun i h hi => (by cases hi)⟩, ⟨rfl, rfl, fun p _ => rfl, fun p _ h => absurd (show (0 : Nat).testBit p = true from h) (by simp)⟩, fun k _ h => absurd (show (0 : Nat).testBit k = true from h) (by simp), rfl, rfl, rfl, fun i x h => (by cases h), rfl, fun k hk => ?_⟩
    show (si (si (si (si zM 4 0 3) 4 1 9) 11 0 3) 11 1 9).1 (41 + 2 * k) 0 = 0
    rw [si_ne (Or.inl (by omega)), si_ne (Or.inl (by omega)), si_ne (Or.inl (by omega)), si_ne (Or.inl (by omega))]
    rfl
  · have z : ∀ a k, ¬ kd a k → ¬ fd a k → ¬ ta a k → a ≠ 23 → M4.1 a k = 0 := fun a k h1 h2 h3 h4 => by
      rw [(d6 a k h1).1, (c3 a k h2).1, (b2 a k h3).1, (a2 a k h4).1]
      rfl
    refine ⟨d2, d3 _, fun k _ h => absurd (show (0 : Nat).testBit k = true from h) (by simp), fun k hk => ?_, ?_, ?_, fun i x h => (by cases h), ?_, fun k hk => ?_⟩
    · show M4.1 2 k = nI (if (0 : Nat).testBit k then 1 else 0)
      rw [Nat.zero_testBit]
      match k, hk with
      | 0, _ => exact d4
      | 1, _ => exact d5
    · exact z 0 54 (by unfold kd; omega) (by unfold fd; omega) (by unfold ta; omega) (by decide)
    · exact z 0 26 (by unfold kd; omega) (by unfold fd; omega) (by unfold ta; omega) (by decide)
    · exact z 0 31 (by unfold kd; omega) (by unfold fd; omega) (by unfold ta; omega) (by decide)
    · show M4.1 23 k = -4
      rw [(d6 23 k (by unfold kd; omega)).1, (c3 23 k (by unfold fd; omega)).1, (b2 23 k (by unfold ta; omega)).1]
      exact a3 k hk
theorem sim_init : ∃ M9, X_Model_init fuel zM = some ((), M9) ∧ Rel (si (si (si (si zM 4 0 3) 4 1 9) 11 0 3) 11 1 9) M9 := by
  obtain ⟨M9, h1, h2, h3⟩ := sim_fresh
  exact ⟨M9, h1, S0, S0_ok, h2, h3⟩
end
