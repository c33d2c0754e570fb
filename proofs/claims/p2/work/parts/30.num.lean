/-! NUMBERS: ints and longs as naturals; bits; bitCount -/
theorem nI_bv (n : Nat) : (nI n).toBitVec = BitVec.ofNat 32 n := rfl
theorem i32_ext {x y : Int32} (h : x.toBitVec = y.toBitVec) : x = y := Int32.toBitVec_inj.mp h
theorem i64_ext {x y : Int64} (h : x.toBitVec = y.toBitVec) : x = y := Int64.toBitVec_inj.mp h
theorem lN_tb (n : Nat) : (lN n).toBitVec = BitVec.ofNat 64 n := rfl
theorem i_and (a b : Nat) : nI a &&& nI b = nI (a &&& b) := i32_ext (by
  show (nI a).toBitVec &&& (nI b).toBitVec = BitVec.ofNat 32 (a &&& b)
  rw [nI_bv, nI_bv]
  apply BitVec.eq_of_toNat_eq
  simp only [BitVec.toNat_and, BitVec.toNat_ofNat]
  rw [Nat.and_mod_two_pow])
theorem i_or (a b : Nat) : nI a ||| nI b = nI (a ||| b) := i32_ext (by
  show (nI a).toBitVec ||| (nI b).toBitVec = BitVec.ofNat 32 (a ||| b)
  rw [nI_bv, nI_bv]
  apply BitVec.eq_of_toNat_eq
  simp only [BitVec.toNat_or, BitVec.toNat_ofNat]
  rw [Nat.or_mod_two_pow])
theorem i_xor (a b : Nat) : nI a ^^^ nI b = nI (a ^^^ b) := i32_ext (by
  show (nI a).toBitVec ^^^ (nI b).toBitVec = BitVec.ofNat 32 (a ^^^ b)
  rw [nI_bv, nI_bv]
  apply BitVec.eq_of_toNat_eq
  simp only [BitVec.toNat_xor, BitVec.toNat_ofNat]
  rw [Nat.xor_mod_two_pow])
theorem l_and (a b : Nat) : lN a &&& lN b = lN (a &&& b) := i64_ext (by
  show (lN a).toBitVec &&& (lN b).toBitVec = BitVec.ofNat 64 (a &&& b)
  rw [lN_tb, lN_tb]
  apply BitVec.eq_of_toNat_eq
  simp only [BitVec.toNat_and, BitVec.toNat_ofNat]
  rw [Nat.and_mod_two_pow])
theorem l_or (a b : Nat) : lN a ||| lN b = lN (a ||| b) := i64_ext (by
  show (lN a).toBitVec ||| (lN b).toBitVec = BitVec.ofNat 64 (a ||| b)
  rw [lN_tb, lN_tb]
  apply BitVec.eq_of_toNat_eq
  simp only [BitVec.toNat_or, BitVec.toNat_ofNat]
  rw [Nat.or_mod_two_pow])
theorem cnt_l : ∀ k : Nat, k < 64 → ((nI k).toInt64 &&& 63).toBitVec.smod 64 = BitVec.ofNat 64 k := by decide +kernel
theorem cnt_lu : ∀ k : Nat, k < 64 → (((nI k).toInt64.toUInt64 &&& Int64.toUInt64 63).toBitVec % 64).toNat = k := by decide +kernel
theorem cnt_i : ∀ k : Nat, k < 32 → ((nI k &&& 31).toBitVec.smod 32).toNat = k := by decide +kernel
theorem cnt_iu : ∀ k : Nat, k < 32 → (((nI k).toUInt32 &&& Int32.toUInt32 31).toBitVec % 32).toNat = k := by decide +kernel
theorem i_ushr {a k : Nat} (ha : a < 2 ^ 32) (hk : k < 32) : ((nI a).toUInt32 >>> ((nI k).toUInt32 &&& Int32.toUInt32 31)).toInt32 = nI (a / 2 ^ k) := pk_ushrN ha (nI k) k (cnt_iu k hk)
theorem i_shl {a k : Nat} (hk : k < 32) (h : a * 2 ^ k < 2 ^ 32) : nI a <<< (nI k &&& 31) = nI (a * 2 ^ k) := pk_shlN (nI k &&& 31) k (cnt_i k hk) h
theorem i_shl1 {k : Nat} (hk : k < 32) : (1 : Int32) <<< (nI k &&& 31) = nI (2 ^ k) := by
  have h := i_shl (a := 1) hk (by
    have := Nat.pow_lt_pow_right (a := 2) (by decide) hk
    omega)
  rw [Nat.one_mul] at h
  exact h
theorem i_shr {a k : Nat} (ha : a < 2 ^ 31) (hk : k < 32) : nI a >>> (nI k &&& 31) = nI (a / 2 ^ k) := pk_shrN ha (nI k &&& 31) k (cnt_i k hk)
theorem l_ushr {a k : Nat} (ha : a < 2 ^ 64) (hk : k < 64) : ((lN a).toUInt64 >>> ((nI k).toInt64.toUInt64 &&& Int64.toUInt64 63)).toInt64 = lN (a / 2 ^ k) := i64_ext (by
  apply BitVec.eq_of_toNat_eq
  show ((lN a).toBitVec >>> (((nI k).toInt64.toUInt64 &&& Int64.toUInt64 63).toBitVec % 64)).toNat = (BitVec.ofNat 64 (a / 2 ^ k)).toNat
  rw [BitVec.ushiftRight_eq', cnt_lu k hk, BitVec.toNat_ushiftRight, lN_tb, BitVec.toNat_ofNat, Nat.mod_eq_of_lt ha, BitVec.toNat_ofNat, Nat.shiftRight_eq_div_pow, Nat.mod_eq_of_lt (Nat.lt_of_le_of_lt (Nat.div_le_self _ _) ha)])
theorem l_shl (a : Nat) {k : Nat} (hk : k < 64) : lN a <<< ((nI k).toInt64 &&& 63) = lN (a * 2 ^ k) := i64_ext (by
  apply BitVec.eq_of_toNat_eq
  show ((lN a).toBitVec <<< (((nI k).toInt64 &&& 63).toBitVec.smod 64)).toNat = (BitVec.ofNat 64 (a * 2 ^ k)).toNat
  rw [cnt_l k hk, BitVec.shiftLeft_eq', BitVec.toNat_shiftLeft, lN_tb, BitVec.toNat_ofNat, BitVec.toNat_ofNat, BitVec.toNat_ofNat, Nat.mod_eq_of_lt (show k < 2 ^ 64 by omega), Nat.shiftLeft_eq, Nat.mod_mul_mod])
theorem l_i {a : Nat} (h : a < 2 ^ 31) : (nI a).toInt64 = lN a := nI_l h
theorem l_to (a : Nat) : (lN a).toInt32 = nI a := lN_i a
theorem i_eq {a b : Nat} (ha : a < 2 ^ 31) (hb : b < 2 ^ 31) : nI a = nI b ↔ a = b := nI_eq ha hb
theorem l_eq {a b : Nat} (ha : a < 2 ^ 63) (hb : b < 2 ^ 63) : lN a = lN b ↔ a = b := pk_lEQ ha hb
theorem l_cmp0 (x y : Int64) : lg_cmp x y = 0 ↔ x = y := by
  unfold lg_cmp
  constructor
  · intro h
    by_cases h1 : x > y
    · rw [if_pos h1] at h; exact absurd h (by decide)
    · rw [if_neg h1] at h
      by_cases h2 : x = y
      · exact h2
      · rw [if_neg h2] at h; exact absurd h (by decide)
  · intro h
    subst h
    rw [if_neg Int64.lt_irrefl, if_pos rfl]
-- how many bits: popN n k of the first n
def popN : Nat → Nat → Nat
  | 0, _ => 0
  | n + 1, k => (if k.testBit n then 1 else 0) + popN n k
def swar (k : Nat) : Nat :=
  let a := k - ((k / 2) &&& 1431655765)
  let b := (a &&& 858993459) + ((a / 4) &&& 858993459)
  let c := (b + b / 16) &&& 252645135
  let d := c + c / 256
  let e := d + d / 65536
  e &&& 63
theorem and_split {u p : Nat} (v q : Nat) (hu : u < 256) (hp : p < 256) : (256 * v + u) &&& (256 * q + p) = 256 * (v &&& q) + (u &&& p) := by
  apply Nat.eq_of_testBit_eq
  intro j
  have h1 := Nat.testBit_two_pow_mul_add v (i := 8) (b := u) hu j
  have h2 := Nat.testBit_two_pow_mul_add q (i := 8) (b := p) hp j
  have hup : u &&& p < 2 ^ 8 := Nat.lt_of_le_of_lt Nat.and_le_left hu
  have h3 := Nat.testBit_two_pow_mul_add (v &&& q) (i := 8) (b := u &&& p) hup j
  rw [show (256 : Nat) = 2 ^ 8 from rfl, Nat.testBit_and, h1, h2, h3]
  by_cases h : j < 8
  · simp [h]
  · simp [h]
def f1 (x : Nat) : Nat := x - ((x / 2) &&& 85)
def f2 (x : Nat) : Nat := (x &&& 51) + ((x / 4) &&& 51)
def f3 (x : Nat) : Nat := (x + x / 16) % 16
theorem f1_ok : ∀ x, x < 256 → ∀ b, b < 2 → ((x / 2 + 128 * b) &&& 85 = (x / 2) &&& 85) ∧ (x / 2) &&& 85 ≤ x ∧ f1 x < 256 ∧ f2 (f1 x) < 69 ∧ f2 (f1 x) % 16 < 5 ∧ f3 (f2 (f1 x)) = popN 8 x := by decide +kernel
theorem f2_ok : ∀ x, x < 256 → ∀ b, b < 4 → ((x / 4 + 64 * b) &&& 51 = (x / 4) &&& 51) := by decide +kernel
theorem popN_add (n : Nat) {x : Nat} (y : Nat) (hx : x < 256) : popN (8 + n) (256 * y + x) = popN 8 x + popN n y := by
  induction n with
  | zero =>
    show popN 8 (256 * y + x) = popN 8 x + 0
    have h : ∀ j, j < 8 → (256 * y + x).testBit j = x.testBit j := fun j hj => by
      rw [show (256 : Nat) = 2 ^ 8 from rfl, Nat.testBit_two_pow_mul_add y hx j, if_pos hj]
    simp [popN, h]
  | succ n ih =>
    show (if (256 * y + x).testBit (8 + n) then 1 else 0) + popN (8 + n) (256 * y + x) = popN 8 x + ((if y.testBit n then 1 else 0) + popN n y)
    have h := Nat.testBit_two_pow_mul_add y (i := 8) hx (8 + n)
    rw [if_neg (show ¬ 8 + n < 8 by omega), show 8 + n - 8 = n by omega] at h
    rw [ih, show (256 : Nat) = 2 ^ 8 from rfl, h]
    omega
theorem swar_pop {k : Nat} (h : k < 65536) : swar k = popN 16 k := by
  obtain ⟨x, y, hx, hy, rfl⟩ : ∃ x y, x < 256 ∧ y < 256 ∧ k = 256 * y + x := ⟨k % 256, k / 256, by omega, by omega, by omega⟩
  obtain ⟨a1, a2, a3, a4, a5, a6⟩ := f1_ok x hx (y % 2) (by omega)
  obtain ⟨b1, b2, b3, b4, b5, b6⟩ := f1_ok y hy 0 (by decide)
  have c1 := f2_ok (f1 x) a3 (f1 y % 4) (by omega)
  rw [show (16 : Nat) = 8 + 8 from rfl, popN_add 8 y hx, ← a6, ← b6]
  have d1 : (256 * y + x) / 2 &&& 1431655765 = 256 * ((y / 2) &&& 85) + ((x / 2) &&& 85) := by
    rw [show (256 * y + x) / 2 = 256 * (y / 2) + (x / 2 + 128 * (y % 2)) by omega, show (1431655765 : Nat) = 256 * 5592405 + 85 from rfl, and_split _ _ (by omega) (by decide), a1]
    congr 2
    rw [show (5592405 : Nat) = 256 * 21845 + 85 from rfl]
    have := and_split (u := y / 2) (p := 85) 0 21845 (by omega) (by decide)
    simpa using this
  have d2 : (256 * y + x) - (256 * ((y / 2) &&& 85) + ((x / 2) &&& 85)) = 256 * f1 y + f1 x := by
    unfold f1
    omega
  have d3 : (256 * f1 y + f1 x) &&& 858993459 = 256 * (f1 y &&& 51) + (f1 x &&& 51) := by
    rw [show (858993459 : Nat) = 256 * 3355443 + 51 from rfl, and_split _ _ a3 (by decide)]
    congr 2
    rw [show (3355443 : Nat) = 256 * 13107 + 51 from rfl]
    have := and_split (u := f1 y) (p := 51) 0 13107 b3 (by decide)
    simpa using this
  have d4 : (256 * f1 y + f1 x) / 4 &&& 858993459 = 256 * (f1 y / 4 &&& 51) + (f1 x / 4 &&& 51) := by
    rw [show (256 * f1 y + f1 x) / 4 = 256 * (f1 y / 4) + (f1 x / 4 + 64 * (f1 y % 4)) by omega, show (858993459 : Nat) = 256 * 3355443 + 51 from rfl, and_split _ _ (by omega) (by decide), c1]
    congr 2
    rw [show (3355443 : Nat) = 256 * 13107 + 51 from rfl]
    have := and_split (u := f1 y / 4) (p := 51) 0 13107 (by omega) (by decide)
    simpa using this
  have d5 : (256 * (f1 y &&& 51) + (f1 x &&& 51)) + (256 * (f1 y / 4 &&& 51) + (f1 x / 4 &&& 51)) = 256 * f2 (f1 y) + f2 (f1 x) := by
    unfold f2
    omega
  generalize f2 (f1 x) = u at *
  generalize f2 (f1 y) = v at *
  have d6 : ((256 * v + u) + (256 * v + u) / 16) &&& 252645135 = 256 * f3 v + f3 u := by
    have e : (256 * v + u) + (256 * v + u) / 16 = 256 * (v + v / 16) + (u + u / 16 + 16 * (v % 16)) := by omega
    rw [e, show (252645135 : Nat) = 256 * 986895 + 15 from rfl, and_split _ _ (by omega) (by decide)]
    have e1 : (u + u / 16 + 16 * (v % 16)) &&& 15 = f3 u := by
      rw [show (15 : Nat) = 2 ^ 4 - 1 from rfl, Nat.and_two_pow_sub_one_eq_mod]
      unfold f3
      omega
    have e2 : (v + v / 16) &&& 986895 = f3 v := by
      rw [show (986895 : Nat) = 256 * 3855 + 15 from rfl]
      have := and_split (u := v + v / 16) (p := 15) 0 3855 (by omega) (by decide)
      simp only [Nat.mul_zero, Nat.zero_add, Nat.zero_and] at this
      rw [this, show (15 : Nat) = 2 ^ 4 - 1 from rfl, Nat.and_two_pow_sub_one_eq_mod]
      rfl
    rw [e1, e2]
  have hu : f3 u < 16 := Nat.mod_lt _ (by decide)
  have hv : f3 v < 16 := Nat.mod_lt _ (by decide)
  have hu9 : f3 u ≤ 8 := by
    have : ∀ u, u < 69 → u % 16 < 5 → f3 u ≤ 8 := by decide +kernel
    exact this u a4 a5
  have hv9 : f3 v ≤ 8 := by
    have : ∀ u, u < 69 → u % 16 < 5 → f3 u ≤ 8 := by decide +kernel
    exact this v b4 b5
  unfold swar
  dsimp only
  rw [d1, d2, d3, d4, d5, d6]
  generalize f3 u = c0 at *
  generalize f3 v = c1 at *
  rw [show (256 * c1 + c0) / 256 = c1 by omega, show (256 * c1 + c0 + c1) / 65536 = 0 by omega, show (63 : Nat) = 2 ^ 6 - 1 from rfl, Nat.and_two_pow_sub_one_eq_mod]
  omega
-- the calculus of pure residues
def T {α : Type} (F : Option (α × Mem)) (Q : α → Mem → Prop) : Prop := ∃ r M, F = some (r, M) ∧ Q r M
theorem T_some {α : Type} {r : α} {M : Mem} {Q : α → Mem → Prop} (h : Q r M) : T (some (r, M)) Q := ⟨r, M, rfl, h⟩
theorem T_mono {α : Type} {F : Option (α × Mem)} {P Q : α → Mem → Prop} (h : T F P) (hPQ : ∀ r M, P r M → Q r M) : T F Q := by
  obtain ⟨r, M, e, h⟩ := h
  exact ⟨r, M, e, hPQ r M h⟩
theorem T_bd {α β : Type} {F : Option (α × Mem)} {f : α → Mem → Option (β × Mem)} {P : α → Mem → Prop} {Q : β → Mem → Prop} (h : T F P) (k : ∀ r M, P r M → T (f r M) Q) : T (bd F f) Q := by
  obtain ⟨r, M, e, h⟩ := h
  rw [e]
  exact k r M h
theorem T_bdE {α β : Type} {F : Option (α × Mem)} {f : α → Mem → Option (β × Mem)} {r : α} {M : Mem} {Q : β → Mem → Prop} (h : F = some (r, M)) (k : T (f r M) Q) : T (bd F f) Q := by
  rw [h]
  exact k
theorem T_nm {α β : Type} {e : α} {f : α → Option (β × Mem)} {Q : β → Mem → Prop} (k : T (f e) Q) : T (nm e f) Q := k
theorem T_gd {α : Type} {i : Int32} {n : Nat} {F : Option (α × Mem)} {Q : α → Mem → Prop} (h : vp_in i n) (k : T F Q) : T (gd i n F) Q := by
  unfold gd
  rw [if_neg h]
  exact k
theorem T_ite {α : Type} {c : Prop} [Decidable c] {F G : Option (α × Mem)} {Q : α → Mem → Prop} (h1 : c → T F Q) (h2 : ¬ c → T G Q) : T (if c then F else G) Q := by
  by_cases h : c
  · rw [if_pos h]; exact h1 h
  · rw [if_neg h]; exact h2 h
theorem T_pos {α : Type} {c : Prop} [Decidable c] {F G : Option (α × Mem)} {Q : α → Mem → Prop} (h : c) (k : T F Q) : T (if c then F else G) Q := by rw [if_pos h]; exact k
theorem T_neg {α : Type} {c : Prop} [Decidable c] {F G : Option (α × Mem)} {Q : α → Mem → Prop} (h : ¬ c) (k : T G Q) : T (if c then F else G) Q := by rw [if_neg h]; exact k
theorem T_zr {x : Int32} {M : Mem} {Q : Int32 → Mem → Prop} (h : x = 0 ∨ x = 1) (k : Q x M) : T (zr x M) Q := by
  unfold zr
  rw [if_pos h]
  exact T_some k
theorem T_gc {α : Type} {sp dp n : Int32} {n0 n1 : Nat} {F : Option (α × Mem)} {Q : α → Mem → Prop} (h : ¬ (sp < 0 ∨ dp < 0 ∨ n < 0 ∨ n0 < sp.toNatClampNeg + n.toNatClampNeg ∨ n1 < dp.toNatClampNeg + n.toNatClampNeg)) (k : T F Q) : T (gc sp dp n n0 n1 F) Q := by
  unfold gc
  rw [if_neg h]
  exact k
theorem T_eq {α : Type} {F : Option (α × Mem)} {r : α} {M : Mem} (h : T F (fun r2 M2 => r2 = r ∧ M2 = M)) : F = some (r, M) := by
  obtain ⟨r2, M2, e, rfl, rfl⟩ := h
  exact e
