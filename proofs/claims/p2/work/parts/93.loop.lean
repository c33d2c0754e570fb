/-! THE TEXT: what a draft is, and the lines one behind another -/
def GD (D : Dr) : Prop := (2 ≤ D.R.1 ∧ D.R.1 ≤ 6 ∧ 1 ≤ D.R.2.1 ∧ D.R.2.1 ≤ 9) ∧ (D.R.2.2.1.length ≤ 4 ∧ ∀ q ∈ D.R.2.2.1, jOk q) ∧ (D.R.2.2.2.1.length ≤ 16 ∧ ∀ h ∈ D.R.2.2.2.1, h < 15 ∧ gre h ≤ D.hi) ∧ (D.R.2.2.2.2.length ≤ 8 ∧ ∀ h ∈ D.R.2.2.2.2, h < 15 ∧ gre h ≤ D.hi) ∧ (OkW D.W ∧ (∀ p, D.kn.testBit p = false → D.W p = []) ∧ (∀ p, (D.W p).length ≤ D.lg) ∧ (D.lg = 0 ∨ ∃ p, (D.W p).length = D.lg)) ∧ (D.gl < 64 ∧ ∀ p, D.gl.testBit p = true → p ≤ D.hi) ∧ (D.kn < 64 ∧ ∀ p, D.kn.testBit p = true → p ≤ D.hi) ∧ D.hi < 6 ∧ D.pT < 2 ∧ D.hT < 2 ∧ D.lg ≤ 9
theorem GD.v {D : Dr} (h : GD D) : VE D := ⟨⟨h.2.1.1, h.2.2.1.1, h.2.2.2.1.1, h.2.2.2.2.2.1.1, h.2.2.2.2.2.2.2.2.1, h.2.2.2.2.2.2.2.2.2.1, h.2.2.2.2.2.2.1.1, h.2.2.2.2.2.2.2.1, h.2.2.2.2.2.2.2.2.2.2⟩, fun p _ q => h.2.2.2.2.1.2.1 p q⟩
theorem or64 {a p : Nat} (h : a < 64) (hp : p ≤ 5) : a ||| 2 ^ p < 64 := Nat.or_lt_two_pow (n := 6) h (Nat.pow_lt_pow_right (by decide) (by omega))
theorem GD.glo {D : Dr} (h : GD D) {r : Nat} (hr : r ≤ 5) : GD (D.R, D.W, D.gl ||| 2 ^ r, D.pT, D.hT, D.kn, max D.hi r, D.lg) := by
  obtain ⟨a1, a2, a3, a4, a5, a6, a7, a8, a9, a10, a11⟩ := h
  refine ⟨a1, a2, ⟨a3.1, fun h hh => ⟨(a3.2 h hh).1, Nat.le_trans (a3.2 h hh).2 (Nat.le_max_left _ _)⟩⟩, ⟨a4.1, fun h hh => ⟨(a4.2 h hh).1, Nat.le_trans (a4.2 h hh).2 (Nat.le_max_left _ _)⟩⟩, a5, ⟨or64 a6.1 hr, fun p hp => ?_⟩, ⟨a7.1, fun p hp => Nat.le_trans (a7.2 p hp) (Nat.le_max_left _ _)⟩, ?_, a9, a10, a11⟩
  · have hp : (D.gl ||| 2 ^ r).testBit p = true := hp
    rw [or_bit, Bool.or_eq_true] at hp
    show p ≤ max D.hi r
    rcases hp with hp | hp
    · have := a6.2 p hp; omega
    · have := of_decide_eq_true hp; omega
  · show max D.hi r < 6
    omega
theorem GD.peo {D : Dr} (h : GD D) {r : Nat} (h1 : 2 ≤ r) (h2 : r ≤ 6) : GD ((r, D.R.2), D.W, D.gl, 1, D.hT, D.kn, D.hi, D.lg) := ⟨⟨h1, h2, h.1.2.2⟩, h.2.1, h.2.2.1, h.2.2.2.1, h.2.2.2.2.1, h.2.2.2.2.2.1, h.2.2.2.2.2.2.1, h.2.2.2.2.2.2.2.1, by show 1 < 2; decide, h.2.2.2.2.2.2.2.2.2.1, h.2.2.2.2.2.2.2.2.2.2⟩
theorem GD.hol {D : Dr} (h : GD D) {r : Nat} (h1 : 1 ≤ r) (h2 : r ≤ 9) : GD ((D.R.1, r, D.R.2.2), D.W, D.gl, D.pT, 1, D.kn, D.hi, D.lg) := ⟨⟨h.1.1, h.1.2.1, h1, h2⟩, h.2.1, h.2.2.1, h.2.2.2.1, h.2.2.2.2.1, h.2.2.2.2.2.1, h.2.2.2.2.2.2.1, h.2.2.2.2.2.2.2.1, h.2.2.2.2.2.2.2.2.1, by show 1 < 2; decide, h.2.2.2.2.2.2.2.2.2.2⟩
theorem GD.joi {D : Dr} (h : GD D) {q : Jn} (hq : jOk q) (hl : D.R.2.2.1.length < 4) : GD ((D.R.1, D.R.2.1, D.R.2.2.1 ++ [q], D.R.2.2.2), D.2) := ⟨h.1, ⟨by show (D.R.2.2.1 ++ [q]).length ≤ 4; rw [List.length_append, List.length_singleton]; omega, fun x hx => (List.mem_append.mp hx).elim (h.2.1.2 x) (fun r => by rw [List.mem_singleton.mp r]; exact hq)⟩, h.2.2⟩
theorem GD.hi' {D : Dr} (h : GD D) {m : Nat} (hm : m ≤ 5) : GD (D.R, D.W, D.gl, D.pT, D.hT, D.kn, max D.hi m, D.lg) := by
  obtain ⟨a1, a2, a3, a4, a5, a6, a7, a8, a9, a10, a11⟩ := h
  exact ⟨a1, a2, ⟨a3.1, fun h hh => ⟨(a3.2 h hh).1, Nat.le_trans (a3.2 h hh).2 (Nat.le_max_left _ _)⟩⟩, ⟨a4.1, fun h hh => ⟨(a4.2 h hh).1, Nat.le_trans (a4.2 h hh).2 (Nat.le_max_left _ _)⟩⟩, a5, ⟨a6.1, fun p hp => Nat.le_trans (a6.2 p hp) (Nat.le_max_left _ _)⟩, ⟨a7.1, fun p hp => Nat.le_trans (a7.2 p hp) (Nat.le_max_left _ _)⟩, by show max D.hi m < 6; omega, a9, a10, a11⟩
theorem GD.han {D : Dr} (h : GD D) {v : Nat} (hv : v < 15 ∧ gre v ≤ D.hi) (hl : D.R.2.2.2.1.length < 16) : GD ((D.R.1, D.R.2.1, D.R.2.2.1, D.R.2.2.2.1 ++ [v], D.R.2.2.2.2), D.2) := ⟨h.1, h.2.1, ⟨by show (D.R.2.2.2.1 ++ [v]).length ≤ 16; rw [List.length_append, List.length_singleton]; omega, fun x hx => (List.mem_append.mp hx).elim (h.2.2.1.2 x) (fun r => by rw [List.mem_singleton.mp r]; exact hv)⟩, h.2.2.2⟩
theorem GD.day {D : Dr} (h : GD D) {v : Nat} (hv : v < 15 ∧ gre v ≤ D.hi) (hl : D.R.2.2.2.2.length < 8) : GD ((D.R.1, D.R.2.1, D.R.2.2.1, D.R.2.2.2.1, D.R.2.2.2.2 ++ [v]), D.2) := ⟨h.1, h.2.1, h.2.2.1, ⟨by show (D.R.2.2.2.2 ++ [v]).length ≤ 8; rw [List.length_append, List.length_singleton]; omega, fun x hx => (List.mem_append.mp hx).elim (h.2.2.2.1.2 x) (fun r => by rw [List.mem_singleton.mp r]; exact hv)⟩, h.2.2.2.2⟩
theorem GD.row {D : Dr} (h : GD D) {p : Nat} {l : List Nat} (hp : p ≤ 5) (hk : D.kn.testBit p = false) (hr : Ro l) (h9 : l.length ≤ 9) : GD (D.R, updW D.W p l, D.gl, D.pT, D.hT, D.kn ||| 2 ^ p, max D.hi p, max D.lg l.length) := by
  have h' := h.hi' hp
  obtain ⟨a1, a2, a3, a4, a5, a6, a7, a8, a9, a10, a11⟩ := h
  obtain ⟨b1, b2, b3, b4⟩ := a5
  refine ⟨a1, a2, h'.2.2.1, h'.2.2.2.1, ⟨OkW.upd b1 p hr h9, fun q hq => ?_, fun q => ?_, ?_⟩, h'.2.2.2.2.2.1, ⟨or64 a7.1 hp, fun q hq => ?_⟩, h'.2.2.2.2.2.2.2.1, a9, a10, by show max D.lg l.length ≤ 9; omega⟩
  · have hq : (D.kn ||| 2 ^ p).testBit q = false := hq
    rw [or_bit, Bool.or_eq_false_iff] at hq
    have := of_decide_eq_false hq.2
    show updW D.W p l q = []
    unfold updW
    rw [if_neg (fun r => this r.symm)]
    exact b2 q hq.1
  · show (updW D.W p l q).length ≤ max D.lg l.length
    unfold updW
    split
    · exact Nat.le_max_right _ _
    · exact Nat.le_trans (b3 q) (Nat.le_max_left _ _)
  · show max D.lg l.length = 0 ∨ ∃ q, (updW D.W p l q).length = max D.lg l.length
    by_cases e : D.lg ≤ l.length
    · right
      refine ⟨p, ?_⟩
      unfold updW
      rw [if_pos rfl, Nat.max_eq_right e]
    · rcases b4 with b4 | ⟨q, b4⟩
      · omega
      · right
        refine ⟨q, ?_⟩
        have : q ≠ p := fun r => by
          rw [r, b2 p hk, List.length_nil] at b4
          omega
        unfold updW
        rw [if_neg this, b4, Nat.max_eq_left (by omega)]
  · have hq : (D.kn ||| 2 ^ p).testBit q = true := hq
    rw [or_bit, Bool.or_eq_true] at hq
    show q ≤ max D.hi p
    rcases hq with hq | hq
    · have := a7.2 q hq; omega
    · have := of_decide_eq_true hq; omega
-- the place only grows
theorem rfs_at {c : Bool} {f : Nat} {s : Tk} : (rfs c f s).2 = s.2 := by
  unfold rfs
  split
  · split <;> rfl
  · rfl
theorem rn_gt {tp : List Nat} {lo hi k p : Nat} (h : inr tp lo hi p = true) (hk : 0 < k) : p + 1 ≤ rn tp lo hi k p := by
  obtain ⟨k, rfl⟩ : ∃ q, k = q + 1 := ⟨k - 1, by omega⟩
  unfold rn
  rw [if_pos h]
  exact (rn_le k (p + 1) (inr_lt h)).1
theorem rdX_at0 {tp : List Nat} {s : Tk} (h : s.2.1 ≤ tp.length) : s.2.1 ≤ (rdX tp s).2.1 ∧ (s.1 = 0 → (rdX tp s).2.2.2.1 ≤ (rdX tp s).2.1) ∧ (s.1 = 0 → (rdX tp s).1 = 0 → (rdX tp s).2.2.1 ≠ 0 → s.2.1 < (rdX tp s).2.1) := by
  unfold rdX
  by_cases e : s.1 = 0
  · rw [if_pos e]
    obtain ⟨q1, q2⟩ := rn_le (tp := tp) (lo := 32) (hi := 32) tp.length s.2.1 h
    generalize rn tp 32 32 tp.length s.2.1 = q at q1 q2
    dsimp only
    by_cases eq : q < tp.length
    · rw [if_pos eq]
      by_cases e1 : inr tp 97 122 q = true
      · rw [if_pos e1]
        have := rn_gt (k := tp.length) e1 (by omega)
        exact ⟨by show s.2.1 ≤ rn tp 97 122 tp.length q; omega, fun _ => by show q ≤ rn tp 97 122 tp.length q; omega, fun _ _ _ => by show s.2.1 < rn tp 97 122 tp.length q; omega⟩
      · rw [if_neg e1]
        by_cases e2 : inr tp 48 57 q = true
        · rw [if_pos e2]
          have := rn_gt (k := tp.length) e2 (by omega)
          exact ⟨by show s.2.1 ≤ rn tp 48 57 tp.length q; omega, fun _ => by show q ≤ rn tp 48 57 tp.length q; omega, fun _ _ _ => by show s.2.1 < rn tp 48 57 tp.length q; omega⟩
        · rw [if_neg e2]
          by_cases e3 : inr tp 59 59 q = true
          · rw [if_pos e3]
            exact ⟨by show s.2.1 ≤ q + 1; omega, fun _ => by show q ≤ q + 1; omega, fun _ _ _ => by show s.2.1 < q + 1; omega⟩
          · rw [if_neg e3]
            exact ⟨q1, fun _ => Nat.le_refl _, fun _ (r : 1 = 0) _ => absurd r (by decide)⟩
    · rw [if_neg eq]
      exact ⟨q1, fun _ => Nat.le_refl _, fun _ _ (r : 0 ≠ 0) => absurd rfl r⟩
  · rw [if_neg e]
    exact ⟨Nat.le_refl _, fun q => absurd q e, fun q => absurd q e⟩
theorem rdX_at {tp : List Nat} {s : Tk} (h : OkT tp s) : s.2.1 ≤ (rdX tp s).2.1 ∧ (s.1 = 0 → (rdX tp s).2.2.2.1 ≤ (rdX tp s).2.1) ∧ (s.1 = 0 → (rdX tp s).1 = 0 → (rdX tp s).2.2.1 ≠ 0 → s.2.1 < (rdX tp s).2.1) := rdX_at0 h.2.1
theorem rdX_ok0 {tp : List Nat} {s : Tk} (e : s.1 = 0) (h : s.2.1 ≤ tp.length) (h0 : (rdX tp s).1 = 0) : OkT tp (rdX tp s) := by
  have key : rdX tp s = rdX tp (0, s.2.1, 0, 0, s.2.2.2.2) := by
    unfold rdX at h0 ⊢
    rw [if_pos e] at h0 ⊢
    rw [if_pos (show ((0, s.2.1, 0, 0, s.2.2.2.2) : Tk).1 = 0 from rfl)]
    dsimp only at h0 ⊢
    by_cases eq : rn tp 32 32 tp.length s.2.1 < tp.length
    · rw [if_pos eq] at h0 ⊢
      rw [if_pos eq]
      by_cases e1 : inr tp 97 122 (rn tp 32 32 tp.length s.2.1) = true
      · rw [if_pos e1, if_pos e1]
      · rw [if_neg e1] at h0 ⊢
        rw [if_neg e1]
        by_cases e2 : inr tp 48 57 (rn tp 32 32 tp.length s.2.1) = true
        · rw [if_pos e2, if_pos e2]
        · rw [if_neg e2] at h0 ⊢
          rw [if_neg e2]
          by_cases e3 : inr tp 59 59 (rn tp 32 32 tp.length s.2.1) = true
          · rw [if_pos e3, if_pos e3]
          · rw [if_neg e3] at h0
            exact absurd (show 1 = 0 from h0) (by decide)
    · rw [if_neg eq, if_neg eq]
  rw [key]
  exact rdX_ok ⟨by show 0 < 8; decide, h, fun _ (q : 0 = 2) => absurd q (by decide), by show 0 < 4; decide⟩
theorem tkN_at {tp : List Nat} {s : Tk} {lo hi : Nat} (h : OkT tp s) : s.2.1 ≤ (tkN tp lo hi s).2.1 := by
  have e : (tkN tp lo hi s).2 = (rdX tp s).2 := by
    show (btN lo hi (rdX tp s)).2 = _
    unfold btN
    rw [rfs_at, rfs_at]
  rw [e]
  exact (rdX_at h).1
theorem tkS_at {tp : List Nat} {s : Tk} (h : OkT tp s) : s.2.1 ≤ (tkS tp s).2.1 := by
  unfold tkS
  rw [rfs_at]
  exact (rdX_at h).1
theorem rwL_at {tp : List Nat} : ∀ k l (s : Tk), OkT tp s → s.2.1 ≤ (rwL tp k l s).2.2.1 ∧ OkT tp (rwL tp k l s).2
  | 0, l, s, h => ⟨Nat.le_refl _, h⟩
  | k + 1, l, s, h => by
    unfold rwL
    split
    · have h1 : OkT tp (thS l (vaN 0 (bd15 s)) (bd15 s)) := rfs_ok (by decide) (rfs_ok (by decide) (rfs_ok (by decide) h))
      have e1 : (thS l (vaN 0 (bd15 s)) (bd15 s)).2 = s.2 := by unfold thS bd15; rw [rfs_at, rfs_at, rfs_at]
      obtain ⟨i1, i2⟩ := rwL_at k (thL l (vaN 0 (bd15 s))) _ (rdX_ok h1)
      have := (rdX_at h1).1
      rw [e1] at this
      exact ⟨Nat.le_trans this i1, i2⟩
    · exact ⟨Nat.le_refl _, h⟩
theorem at_S {tp : List Nat} {s : Tk} {c : Bool} {f : Nat} (hf : 0 < f ∧ f < 8) (h : OkT tp s) : s.2.1 ≤ (tkS tp (rfs c f s)).2.1 := by
  have i := tkS_at (rfs_ok (c := c) hf h)
  rw [rfs_at] at i
  exact i
theorem at_N {tp : List Nat} {s : Tk} {c : Bool} {f lo hi : Nat} (hf : 0 < f ∧ f < 8) (h : OkT tp s) : s.2.1 ≤ (tkN tp lo hi (rfs c f s)).2.1 ∧ OkT tp (tkN tp lo hi (rfs c f s)) := by
  have i := tkN_at (lo := lo) (hi := hi) (rfs_ok (c := c) hf h)
  rw [rfs_at] at i
  exact ⟨i, tkN_ok (rfs_ok hf h)⟩
theorem at_NS {tp : List Nat} {s : Tk} {c : Bool} {f lo hi : Nat} (hf : 0 < f ∧ f < 8) (h : OkT tp s) : s.2.1 ≤ (tkS tp (tkN tp lo hi (rfs c f s))).2.1 := by
  obtain ⟨i1, i2⟩ := at_N (c := c) (lo := lo) (hi := hi) hf h
  exact Nat.le_trans i1 (tkS_at i2)
theorem pa_at {tp : List Nat} {s : Tk} (h : OkT tp s) : s.2.1 ≤ (paS tp s).2.1 := by
  have o1 := tkN_ok (lo := 0) (hi := 5) h
  have i1 := tkN_at (lo := 0) (hi := 5) h
  have o2 := tkN_ok (lo := 0) (hi := 5) o1
  have i2 := tkN_at (lo := 0) (hi := 5) o1
  unfold paS paB paA
  exact Nat.le_trans i1 (Nat.le_trans i2 (at_S (by decide) o2))
theorem jo_at {tp : List Nat} {s : Tk} (h : OkT tp s) : s.2.1 ≤ (joS tp s).2.1 := by
  have o1 := tkN_ok (lo := 0) (hi := 15) h
  have i1 := tkN_at (lo := 0) (hi := 15) h
  have o2 := tkN_ok (lo := 0) (hi := 15) o1
  have i2 := tkN_at (lo := 0) (hi := 15) o1
  unfold joS joC joB joA
  generalize tkN tp 0 15 (tkN tp 0 15 s) = b at o2 i2
  generalize tkN tp 0 15 s = a at o1 i1 i2
  obtain ⟨i3, o3⟩ := at_N (tp := tp) (c := decide (vaN 0 b = vaN 0 a)) (f := 4) (lo := 0) (hi := 15) (by decide) o2
  exact Nat.le_trans i1 (Nat.le_trans i2 (Nat.le_trans i3 (at_S (by decide) o3)))
theorem kn_at {tp : List Nat} {s : Tk} {D : Dr} (h : OkT tp s) : s.2.1 ≤ (knS tp s D).2.1 := by
  have o1 := tkN_ok (lo := 0) (hi := 5) h
  have i1 := tkN_at (lo := 0) (hi := 5) h
  unfold knS knE
  rw [rfs_at]
  have k : OkT tp (knC tp s D) ∧ s.2.1 ≤ (knC tp s D).2.1 := by
    unfold knC knB knA
    obtain ⟨i3, o3⟩ := at_N (tp := tp) (c := D.kn.testBit (vaN 0 (tkN tp 0 5 s))) (f := 4) (lo := 0) (hi := 15) (by decide) o1
    exact ⟨o3, Nat.le_trans i1 i3⟩
  generalize knC tp s D = c at k
  have o4 : OkT tp (thS [] (vaN 0 c) c) := rfs_ok (by decide) (rfs_ok (by decide) k.1)
  have e4 : (thS [] (vaN 0 c) c).2 = c.2 := by unfold thS; rw [rfs_at, rfs_at]
  have i5 := (rdX_at o4).1
  rw [e4] at i5
  exact Nat.le_trans k.2 (Nat.le_trans i5 (rwL_at 9 (thL [] (vaN 0 c)) _ (rdX_ok o4)).1)
theorem lnS_at {tp : List Nat} {s : Tk} {D : Dr} (h : OkT tp s) : s.2.1 ≤ (lnS tp s D).2.1 := by
  have hr : ∀ f, s.2.1 ≤ (rfs true f s).2.1 := fun f => by rw [rfs_at]; exact Nat.le_refl _
  unfold lnS
  split
  · split
    · unfold peoS; exact at_NS (by decide) h
    · unfold holS; exact at_NS (by decide) h
    · exact kn_at h
    · split
      · exact jo_at h
      · exact hr 5
    · split
      · exact pa_at h
      · exact hr 5
    · split
      · exact pa_at h
      · exact hr 5
    · unfold gloS
      exact Nat.le_trans (tkN_at (lo := 0) (hi := 5) h) (at_S (by decide) (tkN_ok h))
    · exact hr 2
  · exact hr 2
theorem rwL_0 {tp : List Nat} {k : Nat} {l : List Nat} {s : Tk} (h : (rwL tp k l s).2.1 = 0) : s.1 = 0 := by
  by_cases q : s.1 = 0
  · exact q
  · rw [rwL_bad q] at h
    exact absurd h q
theorem rwL_ro {tp : List Nat} : ∀ k l (s : Tk), Ro l → l.length ≤ 9 → Ro (rwL tp k l s).1 ∧ (rwL tp k l s).1.length ≤ 9
  | 0, l, s, h1, h2 => ⟨h1, h2⟩
  | k + 1, l, s, h1, h2 => by
    unfold rwL
    split
    · obtain ⟨z1, z2⟩ := thL_ok (t := vaN 0 (bd15 s)) h1 h2 (by have := bd15_le s; omega)
      exact rwL_ro k _ _ z1 z2
    · exact ⟨h1, h2⟩
theorem GD.pa {tp : List Nat} {s : Tk} {D : Dr} (h : GD D) (h0 : (paS tp s).1 = 0) : GD (paH tp s D) ∧ paV tp s < 15 ∧ gre (paV tp s) ≤ (paH tp s D).hi := by
  have va : vaN 0 (paA tp s) ≤ 5 := (vaN_le (tp := tp) (s := s) (show 0 ≤ 5 by decide)).2
  have vb : vaN 0 (paB tp s) ≤ 5 := (vaN_le (tp := tp) (s := paA tp s) (show 0 ≤ 5 by decide)).2
  have e3 := paS_0 h0
  have ev : paV tp s = prN (vaN 0 (paA tp s)) (vaN 0 (paB tp s)) := if_pos h0
  obtain ⟨p1, p2, p3⟩ := pr_ok (vaN 0 (paA tp s)) (by omega) (vaN 0 (paB tp s)) (by omega) (fun q => e3 q.symm)
  refine ⟨h.hi' (m := max (vaN 0 (paA tp s)) (vaN 0 (paB tp s))) (by omega), by rw [ev]; exact p1, ?_⟩
  rw [ev, p3]
  show max _ _ ≤ max D.hi (max (vaN 0 (paA tp s)) (vaN 0 (paB tp s)))
  omega
theorem jo_0 {tp : List Nat} {s : Tk} (h : (joS tp s).1 = 0) : (vaN 0 (joC tp s) ≠ vaN 0 (joA tp s) ∧ vaN 0 (joC tp s) ≠ vaN 0 (joB tp s)) ∧ vaN 0 (joB tp s) ≠ vaN 0 (joA tp s) := by
  have c0 : (joC tp s).1 = 0 ∧ ¬ (vaN 0 (joC tp s) = vaN 0 (joA tp s) ∨ vaN 0 (joC tp s) = vaN 0 (joB tp s)) := by
    unfold joS at h
    generalize joC tp s = c at h ⊢
    generalize joB tp s = b at h ⊢
    generalize joA tp s = a at h ⊢
    have e := rfs_0 (by decide) (tkS_0 h).1
    exact ⟨e.1, of_decide_eq_false e.2.1⟩
  have b0 : vaN 0 (joB tp s) ≠ vaN 0 (joA tp s) := by
    have h := c0.1
    unfold joC at h
    generalize joB tp s = b at h ⊢
    generalize joA tp s = a at h ⊢
    have e := rd_0 (tkN_0 h).1
    exact of_decide_eq_false (rfs_0 (by decide) e).2.1
  exact ⟨⟨fun q => c0.2 (Or.inl q), fun q => c0.2 (Or.inr q)⟩, b0⟩
theorem kn_0 {tp : List Nat} {s : Tk} {D : Dr} (h : (knS tp s D).1 = 0) : D.kn.testBit (vaN 0 (knA tp s)) = false := by
  unfold knS at h
  have a1 : (knE tp s D).2.1 = 0 := by
    generalize knE tp s D = e at h ⊢
    exact (rfs_0 (by decide) h).1
  unfold knE at a1
  have a2 : (knC tp s D).1 = 0 := by
    generalize knC tp s D = c at a1 ⊢
    have e := rd_0 (rwL_0 a1)
    unfold thS at e
    exact (rfs_0 (by decide) (rfs_0 (by decide) e).1).1
  unfold knC at a2
  have a3 : (knB tp s D).1 = 0 := by
    generalize knB tp s D = c at a2 ⊢
    exact rd_0 (tkN_0 a2).1
  unfold knB at a3
  generalize knA tp s = a at a3 ⊢
  exact (rfs_0 (by decide) a3).2.1
theorem joi_G {D : Dr} (h : GD D) {x y z : Nat} (hx : x ≤ 15) (hy : y ≤ 15) (hz : z ≤ 15) (h1 : z ≠ x) (h2 : z ≠ y) (h3 : y ≠ x) (hj : D.R.2.2.1.length < 4) : GD ((D.R.1, D.R.2.1, D.R.2.2.1 ++ [(x, y, z)], D.R.2.2.2), D.2) := h.joi (q := (x, y, z)) ⟨by show x < 16; omega, by show y < 16; omega, by show z < 16; omega, fun q => h3 q.symm, fun q => h1 q.symm, fun q => h2 q.symm⟩ hj
theorem GD.line {tp : List Nat} {s : Tk} {D : Dr} (h : GD D) (h0 : (lnS tp s D).1 = 0) : GD (lnD tp s D) := by
  unfold lnS at h0
  unfold lnD
  by_cases e1 : s.2.2.1 = 1
  · rw [if_pos e1] at h0 ⊢
    generalize nmI tp s.2.2.2.1 s.2.1 = k at h0 ⊢
    match k with
    | 0 =>
      obtain ⟨v1, v2⟩ := vaN_le (tp := tp) (s := rfs (decide (D.pT ≠ 0)) 4 s) (lo := 2) (hi := 6) (by decide)
      exact h.peo v1 v2
    | 1 =>
      obtain ⟨v1, v2⟩ := vaN_le (tp := tp) (s := rfs (decide (D.hT ≠ 0)) 4 s) (lo := 1) (hi := 9) (by decide)
      exact h.hol v1 v2
    | 2 =>
      have h0 : (knS tp s D).1 = 0 := h0
      have r0 : Ro ([] : List Nat) := ⟨List.nodup_nil, fun t q => absurd q List.not_mem_nil⟩
      have hp : vaN 0 (knA tp s) ≤ 5 := (vaN_le (tp := tp) (s := s) (show 0 ≤ 5 by decide)).2
      have hc : vaN 0 (knC tp s D) ≤ 15 := (vaN_le (tp := tp) (s := knB tp s D) (show 0 ≤ 15 by decide)).2
      have a5 := kn_0 h0
      obtain ⟨b1, b2⟩ := thL_ok (t := vaN 0 (knC tp s D)) r0 (by decide) (by omega)
      obtain ⟨c1, c2⟩ := rwL_ro (tp := tp) 9 _ (rdX tp (thS [] (vaN 0 (knC tp s D)) (knC tp s D))) b1 b2
      exact h.row hp a5 c1 c2
    | 3 =>
      by_cases hj : D.R.2.2.1.length < 4
      · have h0 : (if D.R.2.2.1.length < 4 then joS tp s else rfs true 5 s).1 = 0 := h0
        show GD (if D.R.2.2.1.length < 4 then joD tp s D else D)
        rw [if_pos hj] at h0 ⊢
        have va : vaN 0 (joA tp s) ≤ 15 := (vaN_le (tp := tp) (s := s) (show 0 ≤ 15 by decide)).2
        have vb : vaN 0 (joB tp s) ≤ 15 := (vaN_le (tp := tp) (s := joA tp s) (show 0 ≤ 15 by decide)).2
        have vc : vaN 0 (joC tp s) ≤ 15 := (vaN_le (tp := tp) (s := rfs (decide (vaN 0 (joB tp s) = vaN 0 (joA tp s))) 4 (joB tp s)) (show 0 ≤ 15 by decide)).2
        obtain ⟨⟨j1, j2⟩, j3⟩ := jo_0 h0
        unfold joD
        generalize vaN 0 (joA tp s) = x at *
        generalize vaN 0 (joB tp s) = y at *
        generalize vaN 0 (joC tp s) = z at *
        exact joi_G h va vb vc j1 j2 j3 hj
      · show GD (if D.R.2.2.1.length < 4 then joD tp s D else D)
        rw [if_neg hj]; exact h
    | 4 =>
      by_cases hj : D.R.2.2.2.1.length < 16
      · have h0 : (if D.R.2.2.2.1.length < 16 then paS tp s else rfs true 5 s).1 = 0 := h0
        show GD (if D.R.2.2.2.1.length < 16 then haD tp s D else D)
        rw [if_pos hj] at h0 ⊢
        obtain ⟨g1, g2⟩ := h.pa h0
        exact g1.han g2 hj
      · show GD (if D.R.2.2.2.1.length < 16 then haD tp s D else D)
        rw [if_neg hj]; exact h
    | 5 =>
      by_cases hj : D.R.2.2.2.2.length < 8
      · have h0 : (if D.R.2.2.2.2.length < 8 then paS tp s else rfs true 5 s).1 = 0 := h0
        show GD (if D.R.2.2.2.2.length < 8 then daD tp s D else D)
        rw [if_pos hj] at h0 ⊢
        obtain ⟨g1, g2⟩ := h.pa h0
        exact g1.day g2 hj
      · show GD (if D.R.2.2.2.2.length < 8 then daD tp s D else D)
        rw [if_neg hj]; exact h
    | 6 => exact h.glo (vaN_le (tp := tp) (s := s) (show 0 ≤ 5 by decide)).2
    | k + 7 => exact h
  · rw [if_neg e1]; exact h
def LE (tp : List Nat) (X Y X' Y' : Mem) (s' : Tk) (t' : Tm) : Prop := XTp X' tp ∧ XT X' s' ∧ s'.1 < 8 ∧ MTp Y' tp ∧ OkM tp t' ∧ MT Y' t' ∧ QT s' t' ∧ (s'.1 = 0 → ∃ D', XD X' D' ∧ YD Y' D' ∧ GD D') ∧ Fr xd X X' ∧ Fr yd Y Y'
theorem text_loop (n : Nat) (hn : 400 ≤ n) (kx ky : Int32 → Mem → Option (Int32 × Mem)) {tp : List Nat} (hL : tp.length ≤ 320) : ∀ m v f g X Y s t D, tp.length ≤ s.2.1 + m → m + 1 < f → m + 1 < g → v ≤ s.2.1 → s.1 = 0 → (XTp X tp ∧ s.2.1 ≤ tp.length ∧ XT X s ∧ XD X D) → GD D → YW Y tp t D → QT (rdX tp s) t → ∃ X' Y' s' t' v', X_Teller_tell_L6 n kx f (nI v) X = kx (nI v') X' ∧ X_Model_text_L20 n ky g (nI v) Y = ky (nI v') Y' ∧ LE tp X Y X' Y' s' t' := by
  intro m
  induction m with
  | zero =>
    intro v f g X Y s t D h1 h2 h3 h4 h5 hX hG hY hQ
    obtain ⟨f, rfl⟩ : ∃ q, f = q + 1 := ⟨f - 1, by omega⟩
    obtain ⟨g, rfl⟩ : ∃ q, g = q + 1 := ⟨g - 1, by omega⟩
    obtain ⟨X1, a1, a2, a3⟩ := x_readToken n hn hX.1 (by rw [h5]; decide) hX.2.1 hX.2.2.1
    have hat := hX.2.1
    have hra := rdX_at0 hat
    have hok := rdX_ok0 h5 hat
    have hq8 := (QT_8 (tp := tp) hQ).1
    have xT : XTp X1 tp := hX.1.dr (xt_xd a3)
    have xD : XD X1 D := hX.2.2.2.tk a3
    refine ⟨X1, Y, rdX tp s, t, v, ?_, ?_, xT, a2, hq8, hY.1, hY.2.1, hY.2.2.1, hQ, fun q => ⟨D, xD, (hY.2.2.2 ((Q_0 hQ).mp q)).1, hG⟩, xt_xd a3, Fr.rf⟩
    · show (if (X.1 1 1) < nI v then kx (nI v) X else bd (X_Teller_readToken n X) fun _ M4 => (if (M4.1 3 3) = 0 then (if (M4.1 3 7) = 0 then kx (nI v) M4 else _) else kx (nI v) M4)) = _
      rw [hX.1.1, if_neg (Int32.not_lt.mpr (nI_le (by omega) (by omega))), a1, bd_ret, a2.1, a2.2.2.1]
      by_cases e0 : (rdX tp s).1 = 0
      · have ek : (rdX tp s).2.2.1 = 0 := by
          by_cases q : (rdX tp s).2.2.1 = 0
          · exact q
          · have := hra.2.2 h5 e0 q
            have := (hok e0).2.1
            omega
        rw [if_pos (show nI (rdX tp s).1 = 0 by rw [e0]; rfl), if_pos (show nI (rdX tp s).2.2.1 = 0 by rw [ek]; rfl)]
      · rw [if_neg (fun q => e0 ((i_z (by omega)).mp q))]
    · show (if (Y.1 0 31) = 0 then (if (Y.1 0 29) = 0 then ky (nI v) Y else _) else ky (nI v) Y) = _
      rw [hY.2.2.1.1, hY.2.2.1.2.2.2.2.1]
      by_cases e0 : t.1 = 0
      · have ek : t.2.2.2.2.1 = 0 := by
          rcases hQ with hQ | hQ
          · by_cases q : (rdX tp s).2.2.1 = 0
            · rw [← hQ.2.2.2.1]; exact q
            · have := hra.2.2 h5 hQ.1 q
              have := (hok hQ.1).2.1
              omega
          · exact absurd e0 hQ.2.1
        rw [if_pos (show nI t.1 = 0 by rw [e0]; rfl), if_pos (show nI t.2.2.2.2.1 = 0 by rw [ek]; rfl)]
      · rw [if_neg (fun q => e0 ((i_z (by have := hY.2.1.1; omega)).mp q))]
  | succ m ih =>
    intro v f g X Y s t D h1 h2 h3 h4 h5 hX hG hY hQ
    obtain ⟨f, rfl⟩ : ∃ q, f = q + 1 := ⟨f - 1, by omega⟩
    obtain ⟨g, rfl⟩ : ∃ q, g = q + 1 := ⟨g - 1, by omega⟩
    obtain ⟨X1, a1, a2, a3⟩ := x_readToken n hn hX.1 (by rw [h5]; decide) hX.2.1 hX.2.2.1
    have hat := hX.2.1
    have hra := rdX_at0 hat
    have hok := rdX_ok0 h5 hat
    have hq8 := (QT_8 (tp := tp) hQ).1
    have xT : XTp X1 tp := hX.1.dr (xt_xd a3)
    have xD : XD X1 D := hX.2.2.2.tk a3
    have unx : X_Teller_tell_L6 n kx (f + 1) (nI v) X = (if nI (rdX tp s).1 = 0 then (if nI (rdX tp s).2.2.1 = 0 then kx (nI v) X1 else bd (X_Teller_tellLine n X1) fun _ M6 => X_Teller_tell_L6 n kx f (nI (v + 1)) M6) else kx (nI v) X1) := by
      show (if (X.1 1 1) < nI v then kx (nI v) X else bd (X_Teller_readToken n X) fun _ M4 => (if (M4.1 3 3) = 0 then (if (M4.1 3 7) = 0 then kx (nI v) M4 else bd (X_Teller_tellLine n M4) fun _ M6 => X_Teller_tell_L6 n kx f (nI v + 1) M6) else kx (nI v) M4)) = _
      rw [hX.1.1, if_neg (Int32.not_lt.mpr (nI_le (by omega) (by omega))), a1, bd_ret, a2.1, a2.2.2.1, nI_1]
    have uny : X_Model_text_L20 n ky (g + 1) (nI v) Y = (if nI t.1 = 0 then (if nI t.2.2.2.2.1 = 0 then ky (nI v) Y else bd (X_Model_readLine n Y) fun _ M7 => X_Model_text_L20 n ky g (nI (v + 1)) M7) else ky (nI v) Y) := by
      show (if (Y.1 0 31) = 0 then (if (Y.1 0 29) = 0 then ky (nI v) Y else bd (X_Model_readLine n Y) fun _ M7 => X_Model_text_L20 n ky g (nI v + 1) M7) else ky (nI v) Y) = _
      rw [hY.2.2.1.1, hY.2.2.1.2.2.2.2.1, nI_1]
    have stop : ∀ (hx : X_Teller_tell_L6 n kx (f + 1) (nI v) X = kx (nI v) X1) (hy : X_Model_text_L20 n ky (g + 1) (nI v) Y = ky (nI v) Y), ∃ X' Y' s' t' v', X_Teller_tell_L6 n kx (f + 1) (nI v) X = kx (nI v') X' ∧ X_Model_text_L20 n ky (g + 1) (nI v) Y = ky (nI v') Y' ∧ LE tp X Y X' Y' s' t' := fun hx hy => ⟨X1, Y, rdX tp s, t, v, hx, hy, xT, a2, hq8, hY.1, hY.2.1, hY.2.2.1, hQ, fun q => ⟨D, xD, (hY.2.2.2 ((Q_0 hQ).mp q)).1, hG⟩, xt_xd a3, Fr.rf⟩
    by_cases e0 : (rdX tp s).1 = 0
    · have hok := hok e0
      have a2 : XS X1 tp (rdX tp s) D := ⟨xT, hok, a2, xD⟩
      have t0 := (Q_0 hQ).mp e0
      have hQok : Qok (rdX tp s) t := by
        rcases hQ with q | q
        · exact q
        · exact absurd t0 q.2.1
      rw [if_pos (show nI (rdX tp s).1 = 0 by rw [e0]; rfl)] at unx
      rw [if_pos (show nI t.1 = 0 by rw [t0]; rfl)] at uny
      by_cases ek : (rdX tp s).2.2.1 = 0
      · rw [if_pos (show nI (rdX tp s).2.2.1 = 0 by rw [ek]; rfl)] at unx
        rw [if_pos (show nI t.2.2.2.2.1 = 0 by rw [← hQok.2.2.2.1, ek]; rfl)] at uny
        exact stop unx uny
      · rw [if_neg (fun q => ek ((i_z (by have := hok.2.2.2; omega)).mp q))] at unx
        rw [if_neg (fun q => ek ((i_z (by have := hok.2.2.2; omega)).mp (by rw [hQok.2.2.2.1]; exact q)))] at uny
        obtain ⟨X6, b1, b2, b3⟩ := x_line n hn hG.v.1 a2 (hra.2.1 h5)
        have hYS : YS Y tp t D := ⟨hY.1, hY.2.1, hY.2.2.1, hY.2.2.2 t0⟩
        obtain ⟨Y7, t7, c1, c2, c3, c4⟩ := m_line n hn hG.v hYS hQok hok (hra.2.1 h5)
        rw [b1, bd_ret] at unx
        rw [c1, bd_ret] at uny
        have lt := hra.2.2 h5 e0 ek
        have la := lnS_at (D := D) hok
        have fx := (xt_xd a3).trans b3
        by_cases l0 : (lnS tp (rdX tp s) D).1 = 0
        · obtain ⟨X', Y', s', t', v', g1, g2, g3⟩ := ih (v + 1) f g X6 Y7 (lnS tp (rdX tp s) D) t7 (lnD tp (rdX tp s) D) (by omega) (by omega) (by omega) (by omega) l0 ⟨b2.1, b2.2.1.2.1, b2.2.2⟩ (hG.line l0) c2 c3
          obtain ⟨i1, i2, i3, i4, i5, i6, i7, i8, i9, i10'⟩ := g3
          exact ⟨X', Y', s', t', v', unx.trans g1, uny.trans g2, i1, i2, i3, i4, i5, i6, i7, i8, fx.trans i9, c4.trans i10'⟩
        · -- a fault in the line: both stop ahead of the next
          obtain ⟨f, rfl⟩ : ∃ q, f = q + 1 := ⟨f - 1, by omega⟩
          obtain ⟨g, rfl⟩ : ∃ q, g = q + 1 := ⟨g - 1, by omega⟩
          rw [rdX_bad l0] at c3
          have t7b : t7.1 ≠ 0 := fun q => l0 ((Q_0 c3).mpr q)
          have e6 : (X6.1 3 3) ≠ 0 := fun q => l0 ((i_z (by have := b2.2.1.1; omega)).mp (b2.2.2.1.1.symm.trans q))
          have ux2 : X_Teller_tell_L6 n kx (f + 1) (nI (v + 1)) X6 = kx (nI (v + 1)) X6 := by
            show (if (X6.1 1 1) < nI (v + 1) then kx (nI (v + 1)) X6 else bd (X_Teller_readToken n X6) fun _ M4 => (if (M4.1 3 3) = 0 then (if (M4.1 3 7) = 0 then kx (nI (v + 1)) M4 else _) else kx (nI (v + 1)) M4)) = _
            have rt : X_Teller_readToken n X6 = some ((), X6) := by
              unfold X_Teller_readToken
              rw [if_neg e6]
            rw [rt, bd_ret, if_neg e6]
            split <;> rfl
          have uy2 : X_Model_text_L20 n ky (g + 1) (nI (v + 1)) Y7 = ky (nI (v + 1)) Y7 := by
            show (if (Y7.1 0 31) = 0 then _ else ky (nI (v + 1)) Y7) = _
            rw [c2.2.2.1.1, if_neg (fun q => t7b ((i_z (by have := c2.2.1.1; omega)).mp q))]
          exact ⟨X6, Y7, lnS tp (rdX tp s) D, t7, v + 1, unx.trans ux2, uny.trans uy2, b2.1, b2.2.2.1, b2.2.1.1, c2.1, c2.2.1, c2.2.2.1, c3, fun q => absurd q l0, fx, c4⟩
    · have t0 : t.1 ≠ 0 := fun q => e0 ((Q_0 hQ).mpr q)
      rw [if_neg (fun q => e0 ((i_z (by omega)).mp q))] at unx
      rw [if_neg (fun q => t0 ((i_z (by have := hY.2.1.1; omega)).mp q))] at uny
      exact stop unx uny
theorem rdM_ok0 {tp : List Nat} {t : Tm} (e : t.1 = 0) (h : t.2.2.1 ≤ tp.length) : OkM tp (rdM tp t) := by
  have key : rdM tp t = rdM tp (0, t.2.1, t.2.2.1, 0, 0, t.2.2.2.2.2) := by
    unfold rdM
    rw [if_pos e, if_pos (show ((0, t.2.1, t.2.2.1, 0, 0, t.2.2.2.2.2) : Tm).1 = 0 from rfl)]
  rw [key]
  exact rdM_ok ⟨by show 0 < 8; decide, h, fun _ (q : 0 = 2) => absurd q (by decide), by show 0 < 4; decide⟩
