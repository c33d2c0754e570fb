/-! SEARCH: rounds, as choices and as masks -/
def TK (R : Rl) (g : Nat) (K : WW → Prop) : Nat → Nat → WW → Prop
  | 0, _, W => K W
  | j + 1, b, W => TK R g K j b W ∨ (free R.1 g (14 - j) = true ∧ b &&& two_ (14 - j) = 0 ∧ TK R g K j (b ||| two_ (14 - j)) (handF R g (14 - j) W))
theorem TK_iff {R : Rl} {g : Nat} {K : WW → Prop} : ∀ (j : Nat), j ≤ 15 → ∀ (b : Nat) (W : WW), TK R g K j b W ↔ (K W ∨ ∃ x, 15 - j ≤ x ∧ x < 15 ∧ free R.1 g x = true ∧ b &&& two_ x = 0 ∧ TK R g K (14 - x) (b ||| two_ x) (handF R g x W))
  | 0, _, b, W => ⟨Or.inl, fun h => h.elim id (fun ⟨x, h1, h2, _⟩ => by omega)⟩
  | j + 1, hj, b, W => by
    have ih := TK_iff (R := R) (g := g) (K := K) j (by omega) b W
    constructor
    · intro h
      rcases h with h | ⟨h1, h2, h3⟩
      · rcases ih.mp h with h | ⟨x, h1, h2, h3⟩
        · exact Or.inl h
        · exact Or.inr ⟨x, by omega, h2, h3⟩
      · refine Or.inr ⟨14 - j, by omega, by omega, h1, h2, ?_⟩
        rw [show 14 - (14 - j) = j by omega]
        exact h3
    · intro h
      rcases h with h | ⟨x, h1, h2, h3, h4, h5⟩
      · exact Or.inl (ih.mpr (Or.inl h))
      · by_cases e : x = 14 - j
        · subst e
          rw [show 14 - (14 - j) = j by omega] at h5
          exact Or.inr ⟨h3, h4, h5⟩
        · exact Or.inl (ih.mpr (Or.inr ⟨x, by omega, h2, h3, h4, h5⟩))
def isRd (P g m : Nat) : Nat → Nat → Bool
  | 0, _ => true
  | j + 1, b => if m.testBit (14 - j) then (free P g (14 - j) && (decide (b &&& two_ (14 - j) = 0) && isRd P g m j (b ||| two_ (14 - j)))) else isRd P g m j b
def ap (R : Rl) (g m : Nat) : Nat → WW → WW
  | 0, W => W
  | j + 1, W => ap R g m j (if m.testBit (14 - j) then handF R g (14 - j) W else W)
theorem isRd_congr {P g m m' : Nat} : ∀ (j : Nat), j ≤ 15 → (∀ x, 15 - j ≤ x → x < 15 → m.testBit x = m'.testBit x) → ∀ b, isRd P g m j b = isRd P g m' j b
  | 0, _, _, b => rfl
  | j + 1, hj, h, b => by
    unfold isRd
    rw [h (14 - j) (by omega) (by omega), isRd_congr j (by omega) (fun x h1 h2 => h x (by omega) h2), isRd_congr j (by omega) (fun x h1 h2 => h x (by omega) h2)]
theorem ap_congr {R : Rl} {g m m' : Nat} : ∀ (j : Nat), j ≤ 15 → (∀ x, 15 - j ≤ x → x < 15 → m.testBit x = m'.testBit x) → ∀ W, ap R g m j W = ap R g m' j W
  | 0, _, _, W => rfl
  | j + 1, hj, h, W => by
    unfold ap
    rw [h (14 - j) (by omega) (by omega), ap_congr j (by omega) (fun x h1 h2 => h x (by omega) h2)]
theorem TK_mask {R : Rl} {g : Nat} {K : WW → Prop} : ∀ (j : Nat), j ≤ 15 → ∀ (b : Nat) (W : WW), TK R g K j b W ↔ ∃ m, m < 2 ^ 15 ∧ isRd R.1 g m j b = true ∧ K (ap R g m j W)
  | 0, _, b, W => ⟨fun h => ⟨0, by decide, rfl, h⟩, fun ⟨m, _, _, h⟩ => h⟩
  | j + 1, hj, b, W => by
    constructor
    · intro h
      rcases h with h | ⟨h1, h2, h3⟩
      · obtain ⟨m, m1, m2, m3⟩ := (TK_mask j (by omega) b W).mp h
        have hc : ∀ x, 15 - j ≤ x → x < 15 → (clN m (14 - j)).testBit x = m.testBit x := fun x h1 h2 => by
          rw [clN_bit, decide_eq_true (show x ≠ 14 - j by omega), Bool.and_true]
        have h0 : (clN m (14 - j)).testBit (14 - j) = false := by
          rw [clN_bit, decide_eq_false (by simp), Bool.and_false]
        refine ⟨clN m (14 - j), clN_lt m1, ?_, ?_⟩
        · unfold isRd
          rw [h0, if_neg Bool.false_ne_true, isRd_congr j (by omega) hc]
          exact m2
        · unfold ap
          rw [h0, ap_congr j (by omega) hc]
          exact m3
      · obtain ⟨m, m1, m2, m3⟩ := (TK_mask j (by omega) _ _).mp h3
        have hc : ∀ x, 15 - j ≤ x → x < 15 → (m ||| 2 ^ (14 - j)).testBit x = m.testBit x := fun x h1 h2 => by
          rw [or_bit, decide_eq_false (show ¬ 14 - j = x by omega), Bool.or_false]
        have h0 : (m ||| 2 ^ (14 - j)).testBit (14 - j) = true := by
          rw [or_bit, decide_eq_true rfl, Bool.or_true]
        refine ⟨m ||| 2 ^ (14 - j), Nat.or_lt_two_pow m1 (Nat.pow_lt_pow_right (by decide) (by omega)), ?_, ?_⟩
        · unfold isRd
          rw [h0, if_pos rfl, h1, decide_eq_true h2, isRd_congr j (by omega) hc, m2]
          rfl
        · unfold ap
          rw [h0, if_pos rfl, ap_congr j (by omega) hc]
          exact m3
    · intro ⟨m, m1, m2, m3⟩
      unfold isRd at m2
      unfold ap at m3
      cases e : m.testBit (14 - j) with
      | false =>
        rw [e] at m2 m3
        exact Or.inl ((TK_mask j (by omega) b W).mpr ⟨m, m1, m2, m3⟩)
      | true =>
        rw [e, if_pos rfl] at m2 m3
        rw [Bool.and_eq_true, Bool.and_eq_true] at m2
        exact Or.inr ⟨m2.1, of_decide_eq_true m2.2.1, (TK_mask j (by omega) _ _).mpr ⟨m, m1, m2.2.2, m3⟩⟩
theorem ap_0 (R : Rl) (g : Nat) : ∀ (j : Nat) (W : WW), ap R g 0 j W = W
  | 0, W => rfl
  | j + 1, W => by
    unfold ap
    rw [Nat.zero_testBit]
    exact ap_0 R g j W
theorem isRd_0 (P g : Nat) : ∀ (j b : Nat), isRd P g 0 j b = true
  | 0, b => rfl
  | j + 1, b => by
    unfold isRd
    rw [Nat.zero_testBit]
    exact isRd_0 P g j b
theorem pop_two : ∀ b, b < 64 → ∀ x, x < 15 → b &&& two_ x = 0 → popN 16 (b ||| two_ x) = popN 16 b + 2 ∧ popN 16 b ≤ 4 := by decide +kernel
theorem isRd_pop {P g m : Nat} : ∀ (j : Nat), j ≤ 15 → ∀ b, b < 64 → isRd P g m j b = true → 2 * popN 15 m + popN 16 b ≤ 6 + 2 * popN (15 - j) m
  | 0, _, b, hb, _ => by
    have : ∀ b, b < 64 → popN 16 b ≤ 6 := by decide +kernel
    have := this b hb
    show 2 * popN 15 m + _ ≤ 6 + 2 * popN 15 m
    omega
  | j + 1, hj, b, hb, h => by
    have e2 : popN (15 - j) m = (if m.testBit (14 - j) then 1 else 0) + popN (14 - j) m := by
      rw [show 15 - j = 14 - j + 1 by omega]; rfl
    rw [show 15 - (j + 1) = 14 - j by omega]
    unfold isRd at h
    cases e : m.testBit (14 - j) with
    | false =>
      rw [e, if_neg Bool.false_ne_true] at h
      rw [e, if_neg Bool.false_ne_true] at e2
      have := isRd_pop j (by omega) b hb h
      omega
    | true =>
      rw [e, if_pos rfl, Bool.and_eq_true, Bool.and_eq_true] at h
      rw [e, if_pos rfl] at e2
      have hx : 14 - j < 15 := by omega
      have h1 := pop_two b hb (14 - j) hx (of_decide_eq_true h.2.1)
      have := isRd_pop j (by omega) _ (Nat.or_lt_two_pow (n := 6) hb (two_lt _ hx)) h.2.2
      omega
theorem isRd_3 {P g m : Nat} (h : isRd P g m 15 0 = true) (hm : m < 2 ^ 15) : popN 16 m ≤ 3 := by
  have := isRd_pop 15 (Nat.le_refl _) 0 (by decide) h
  have e0 : popN 16 0 = 0 := by decide
  have e1 : popN (15 - 15) m = 0 := rfl
  rw [pop_16 hm (by decide)]
  omega
def vld (P g m : Nat) : Bool := decide (m ≠ 0) && isRd P g m 15 0
def vls (P g : Nat) : Nat → List Nat
  | 0 => []
  | v + 1 => if vld P g v then vls P g v ++ [v] else vls P g v
theorem vls_mem {P g m : Nat} : ∀ v, m ∈ vls P g v ↔ (m < v ∧ vld P g m = true)
  | 0 => ⟨fun h => absurd h List.not_mem_nil, fun h => by omega⟩
  | v + 1 => by
    have ih := vls_mem (P := P) (g := g) (m := m) v
    unfold vls
    split
    · rename_i e
      rw [List.mem_append, ih, List.mem_singleton]
      constructor
      · intro h
        rcases h with h | h
        · exact ⟨by omega, h.2⟩
        · rw [h]; exact ⟨by omega, e⟩
      · intro h
        by_cases q : m = v
        · exact Or.inr q
        · exact Or.inl ⟨by omega, h.2⟩
    · rename_i e
      rw [ih]
      constructor
      · intro h; exact ⟨by omega, h.2⟩
      · intro h
        refine ⟨?_, h.2⟩
        have : m ≠ v := fun q => e (by rw [← q]; exact h.2)
        omega
def dn (m : Nat) : Nat → Nat → Bool
  | 0, _ => true
  | j + 1, b => if m.testBit j then (decide (b &&& two_ j = 0) && dn m j (b ||| two_ j)) else dn m j b
def dc : Nat → Nat → Nat
  | 0, _ => 1
  | j + 1, b => dc j b + (if b &&& two_ j = 0 then dc j (b ||| two_ j) else 0)
def dls (j b o : Nat) : Nat → Nat
  | 0 => 0
  | v + 1 => dls j b o v + (if dn (o + v) j b then 1 else 0)
theorem dn_s (m j b : Nat) : dn m (j + 1) b = if m.testBit j then (decide (b &&& two_ j = 0) && dn m j (b ||| two_ j)) else dn m j b := rfl
theorem dc_s (j b : Nat) : dc (j + 1) b = dc j b + (if b &&& two_ j = 0 then dc j (b ||| two_ j) else 0) := rfl
theorem dn_congr {m m' : Nat} : ∀ (j : Nat), (∀ x, x < j → m.testBit x = m'.testBit x) → ∀ b, dn m j b = dn m' j b
  | 0, _, b => rfl
  | j + 1, h, b => by
    unfold dn
    rw [h j (by omega), dn_congr j (fun x h1 => h x (by omega)), dn_congr j (fun x h1 => h x (by omega))]
theorem dls_add (j b o : Nat) (u : Nat) : ∀ v, dls j b o (u + v) = dls j b o u + dls j b (o + u) v
  | 0 => rfl
  | v + 1 => by
    show dls j b o (u + v) + (if dn (o + (u + v)) j b then 1 else 0) = dls j b o u + (dls j b (o + u) v + (if dn (o + u + v) j b then 1 else 0))
    rw [dls_add j b o u v, Nat.add_assoc o u v]
    omega
theorem dls_dc : ∀ (j b o : Nat), 2 ^ j ∣ o → dls j b o (2 ^ j) = dc j b
  | 0, b, o, _ => rfl
  | j + 1, b, o, h => by
    obtain ⟨q, hq⟩ := h
    have hb : ∀ i, i < 2 ^ j → (o + i).testBit j = false := fun i hi => by
      rw [hq, Nat.testBit_eq_decide_div_mod_eq, show 2 ^ (j + 1) * q + i = i + 2 ^ j * (2 * q) by rw [Nat.pow_succ, Nat.mul_assoc]; omega, Nat.add_mul_div_left _ _ (Nat.two_pow_pos j), Nat.div_eq_of_lt hi, Nat.zero_add, Nat.mul_mod_right]
      rfl
    have hb2 : ∀ i, i < 2 ^ j → (o + 2 ^ j + i).testBit j = true := fun i hi => by
      rw [hq, Nat.testBit_eq_decide_div_mod_eq, show 2 ^ (j + 1) * q + 2 ^ j + i = i + 2 ^ j * (2 * q + 1) by rw [Nat.pow_succ, Nat.mul_assoc, Nat.mul_add]; omega, Nat.add_mul_div_left _ _ (Nat.two_pow_pos j), Nat.div_eq_of_lt hi, Nat.zero_add]
      rw [Nat.mul_add_mod]
      rfl
    have s1 : ∀ v, v ≤ 2 ^ j → dls (j + 1) b o v = dls j b o v := by
      intro v
      induction v with
      | zero => intro _; rfl
      | succ v ih =>
        intro hv
        show dls (j + 1) b o v + (if dn (o + v) (j + 1) b then 1 else 0) = dls j b o v + (if dn (o + v) j b then 1 else 0)
        rw [ih (by omega), dn_s, hb v (by omega), if_neg Bool.false_ne_true]
    have s2 : ∀ v, v ≤ 2 ^ j → dls (j + 1) b (o + 2 ^ j) v = if b &&& two_ j = 0 then dls j (b ||| two_ j) (o + 2 ^ j) v else 0 := by
      intro v
      induction v with
      | zero => intro _; split <;> rfl
      | succ v ih =>
        intro hv
        show dls (j + 1) b (o + 2 ^ j) v + (if dn (o + 2 ^ j + v) (j + 1) b then 1 else 0) = _
        rw [ih (by omega)]
        rw [dn_s, hb2 v (by omega), if_pos rfl]
        by_cases e : b &&& two_ j = 0
        · rw [if_pos e, if_pos e, decide_eq_true e]
          rfl
        · rw [if_neg e, if_neg e, decide_eq_false e]
          rfl
    rw [show 2 ^ (j + 1) = 2 ^ j + 2 ^ j by rw [Nat.pow_succ]; omega, dls_add, s1 _ (Nat.le_refl _), s2 _ (Nat.le_refl _), dls_dc j b o ⟨2 * q, by rw [hq, Nat.pow_succ, Nat.mul_assoc]⟩]
    rw [dc_s]
    by_cases e : b &&& two_ j = 0
    · rw [if_pos e, if_pos e, dls_dc j _ (o + 2 ^ j) ⟨2 * q + 1, by rw [hq, Nat.pow_succ, Nat.mul_assoc, Nat.mul_add]; omega⟩]
    · rw [if_neg e, if_neg e]
theorem dc_76 : dc 15 0 = 76 := by decide +kernel
theorem z_or (a b : Nat) : (a ||| b = 0) ↔ (a = 0 ∧ b = 0) := ⟨fun h => ⟨Nat.le_zero.mp (h ▸ Nat.left_le_or), Nat.le_zero.mp (h ▸ Nat.right_le_or)⟩, fun h => by rw [h.1, h.2]; rfl⟩
theorem z_oa (a b c : Nat) : ((a ||| b) &&& c = 0) ↔ (a &&& c = 0 ∧ b &&& c = 0) := by
  rw [Nat.and_or_distrib_right, z_or]
theorem isRd_dis {P g m : Nat} : ∀ (j : Nat), j ≤ 15 → ∀ b, isRd P g m j b = true → (∀ x, 15 - j ≤ x → x < 15 → m.testBit x = true → free P g x = true ∧ b &&& two_ x = 0) ∧ ∀ x y, 15 - j ≤ x → x < y → y < 15 → m.testBit x = true → m.testBit y = true → two_ x &&& two_ y = 0
  | 0, _, b, _ => ⟨fun x h1 h2 => by omega, fun x y h1 h2 h3 => by omega⟩
  | j + 1, hj, b, h => by
    unfold isRd at h
    cases e : m.testBit (14 - j) with
    | false =>
      rw [e, if_neg Bool.false_ne_true] at h
      obtain ⟨i1, i2⟩ := isRd_dis j (by omega) b h
      refine ⟨fun x h1 h2 h3 => ?_, fun x y h1 h2 h3 h4 h5 => ?_⟩
      · by_cases q : x = 14 - j
        · rw [q, e] at h3; exact absurd h3 Bool.false_ne_true
        · exact i1 x (by omega) h2 h3
      · by_cases q : x = 14 - j
        · rw [q, e] at h4; exact absurd h4 Bool.false_ne_true
        · exact i2 x y (by omega) h2 h3 h4 h5
    | true =>
      rw [e, if_pos rfl, Bool.and_eq_true, Bool.and_eq_true] at h
      obtain ⟨i1, i2⟩ := isRd_dis j (by omega) _ h.2.2
      refine ⟨fun x h1 h2 h3 => ?_, fun x y h1 h2 h3 h4 h5 => ?_⟩
      · by_cases q : x = 14 - j
        · rw [q]; exact ⟨h.1, of_decide_eq_true h.2.1⟩
        · have := i1 x (by omega) h2 h3
          exact ⟨this.1, ((z_oa _ _ _).mp this.2).1⟩
      · by_cases q : x = 14 - j
        · have := i1 y (by omega) h3 h5
          rw [q]
          exact ((z_oa _ _ _).mp this.2).2
        · exact i2 x y (by omega) h2 h3 h4 h5
theorem dn_of {m : Nat} (hd : ∀ x y, x < y → y < 15 → m.testBit x = true → m.testBit y = true → two_ x &&& two_ y = 0) : ∀ (j : Nat), j ≤ 15 → ∀ b, (∀ x, x < j → m.testBit x = true → b &&& two_ x = 0) → dn m j b = true
  | 0, _, b, _ => rfl
  | j + 1, hj, b, h => by
    rw [dn_s]
    cases e : m.testBit j with
    | false =>
      rw [if_neg Bool.false_ne_true]
      exact dn_of hd j (by omega) b (fun x h1 h2 => h x (by omega) h2)
    | true =>
      rw [if_pos rfl, decide_eq_true (h j (by omega) e), Bool.true_and]
      refine dn_of hd j (by omega) _ (fun x h1 h2 => (z_oa _ _ _).mpr ⟨h x (by omega) h2, ?_⟩)
      rw [Nat.and_comm]
      exact hd x j h1 (by omega) h2 e
theorem vld_dn {P g m : Nat} (h : isRd P g m 15 0 = true) : dn m 15 0 = true := by
  obtain ⟨_, i2⟩ := isRd_dis 15 (Nat.le_refl _) 0 h
  exact dn_of (fun x y h1 h2 h3 h4 => i2 x y (by omega) h1 h2 h3 h4) 15 (Nat.le_refl _) 0 (fun x _ _ => Nat.zero_and _)
theorem vls_dls (P g : Nat) : ∀ v, (vls P g (v + 1)).length + 1 ≤ dls 15 0 0 (v + 1)
  | 0 => by
    have h1 : vls P g (0 + 1) = [] := by
      unfold vls
      rw [if_neg]
      · rfl
      · unfold vld; simp
    have h2 : dls 15 0 0 (0 + 1) = 1 := by
      show 0 + (if dn (0 + 0) 15 0 then 1 else 0) = 1
      rw [if_pos (by decide +kernel)]
    rw [h1, h2]
    exact Nat.le_refl _
  | v + 1 => by
    have ih := vls_dls P g v
    have e1 : vls P g (v + 1 + 1) = if vld P g (v + 1) then vls P g (v + 1) ++ [v + 1] else vls P g (v + 1) := rfl
    have e2 : dls 15 0 0 (v + 1 + 1) = dls 15 0 0 (v + 1) + (if dn (0 + (v + 1)) 15 0 then 1 else 0) := rfl
    rw [e1, e2]
    by_cases e : vld P g (v + 1) = true
    · have e3 : isRd P g (v + 1) 15 0 = true := by
        unfold vld at e
        rw [Bool.and_eq_true] at e
        exact e.2
      rw [if_pos e, if_pos (by rw [Nat.zero_add]; exact vld_dn e3), List.length_append]
      simp only [List.length_cons, List.length_nil]
      omega
    · rw [if_neg e]
      omega
theorem dls_mono (j b o v : Nat) : ∀ d, dls j b o v ≤ dls j b o (v + d)
  | 0 => Nat.le_refl _
  | d + 1 => Nat.le_trans (dls_mono j b o v d) (Nat.le_add_right _ _)
theorem vls_75 (P g : Nat) {v : Nat} (hv : v ≤ 32768) : (vls P g v).length ≤ 75 := by
  rcases Nat.eq_zero_or_pos v with e | e
  · rw [e]; exact Nat.zero_le _
  · obtain ⟨k, rfl⟩ : ∃ q, v = q + 1 := ⟨v - 1, by omega⟩
    have h1 := vls_dls P g k
    have h2 := dls_mono 15 0 0 (k + 1) (32768 - (k + 1))
    have h3 := dls_dc 15 0 0 ⟨0, rfl⟩
    rw [dc_76] at h3
    rw [show k + 1 + (32768 - (k + 1)) = 2 ^ 15 by omega, h3] at h2
    omega
