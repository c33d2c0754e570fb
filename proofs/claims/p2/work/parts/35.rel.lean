/-! THE ABSTRACT STATE; what both memories have of it -/
abbrev Mi : Type := (Nat → List Nat) × Nat × Nat × (Nat → Nat)
abbrev Mi.W (m : Mi) : Nat → List Nat := Prod.fst m
abbrev Mi.gl (m : Mi) : Nat := (Prod.snd m).1
abbrev Mi.sn (m : Mi) : Nat := (Prod.snd m).2.1
abbrev Mi.sg (m : Mi) : Nat → Nat := (Prod.snd m).2.2
abbrev Ab : Type := Rl × Mi × (Nat → Mi) × Nat × List Nat × Nat × Nat × (Nat → Option (Nat × Nat)) × (Nat → Nat → Int32)
abbrev Ab.R (S : Ab) : Rl := Prod.fst S
abbrev Ab.A (S : Ab) : Mi := (Prod.snd S).1
abbrev Ab.I (S : Ab) : Nat → Mi := (Prod.snd S).2.1
abbrev Ab.kp (S : Ab) : Nat := (Prod.snd S).2.2.1
abbrev Ab.tp (S : Ab) : List Nat := (Prod.snd S).2.2.2.1
abbrev Ab.ft (S : Ab) : Nat := (Prod.snd S).2.2.2.2.1
abbrev Ab.tn (S : Ab) : Nat := (Prod.snd S).2.2.2.2.2.1
abbrev Ab.sh (S : Ab) : Nat → Option (Nat × Nat) := (Prod.snd S).2.2.2.2.2.2.1
abbrev Ab.ce (S : Ab) : Nat → Nat → Int32 := (Prod.snd S).2.2.2.2.2.2.2
def OkMi (P : Nat) (m : Mi) : Prop := OkW m.W ∧ (∀ p, P ≤ p → m.W p = []) ∧ m.gl < 2 ^ P ∧ m.sn < 2 ^ P ∧ ∀ p, m.sg p < 65536
def Ok (S : Ab) : Prop :=
  (OkR S.R) ∧
  (OkMi S.R.1 S.A) ∧
  (∀ k, k < 2 → S.kp.testBit k = true → OkMi S.R.1 (S.I k)) ∧
  (S.kp < 4) ∧
  (S.tp.length ≤ 320) ∧
  (∀ x ∈ S.tp, x < 256) ∧
  (S.ft < 64) ∧
  (S.tn < 4) ∧
  (∀ k l z, S.sh k = some (l, z) → l < 3 ∧ z ≤ 40)
theorem Ok.hR {S : Ab} (h : Ok S) : OkR S.R := h.1
theorem Ok.hA {S : Ab} (h : Ok S) : OkMi S.R.1 S.A := h.2.1
theorem Ok.hI {S : Ab} (h : Ok S) : ∀ k, k < 2 → S.kp.testBit k = true → OkMi S.R.1 (S.I k) := h.2.2.1
theorem Ok.hk {S : Ab} (h : Ok S) : S.kp < 4 := h.2.2.2.1
theorem Ok.ht {S : Ab} (h : Ok S) : S.tp.length ≤ 320 := h.2.2.2.2.1
theorem Ok.hb {S : Ab} (h : Ok S) : ∀ x ∈ S.tp, x < 256 := h.2.2.2.2.2.1
theorem Ok.hf {S : Ab} (h : Ok S) : S.ft < 64 := h.2.2.2.2.2.2.1
theorem Ok.hn {S : Ab} (h : Ok S) : S.tn < 4 := h.2.2.2.2.2.2.2.1
theorem Ok.hs {S : Ab} (h : Ok S) : ∀ k l z, S.sh k = some (l, z) → l < 3 ∧ z ≤ 40 := h.2.2.2.2.2.2.2.2
def XMi (M : Mem) (o : Nat) (m : Mi) : Prop := M.1 o 1 = nI m.gl ∧ M.1 o 2 = nI m.sn ∧ rowsAt M (o + 1) m.W ∧ ∀ p, p < 6 → m.sn.testBit p = true → M.1 (o + 2) p = nI (m.sg p)
def sB (x : Nat) : Int32 := (nI x).toInt8.toInt32
def XSh (M : Mem) (k : Nat) (ce : Nat → Int32) : Option (Nat × Nat) → Prop
  | none => M.1 (41 + 2 * k) 0 = 0
  | some (l, z) => M.1 (41 + 2 * k) 0 = 1 ∧ M.1 (41 + 2 * k) 1 = nI z ∧ M.1 (41 + 2 * k) 2 = nI l ∧ ∀ i, i < 40 → M.1 (42 + 2 * k) i = ce i
def XA (M : Mem) (S : Ab) : Prop :=
  (XC M S.R) ∧
  (XMi M 16 S.A) ∧
  (∀ k, k < 2 → S.kp.testBit k = true → XMi M (20 + 3 * k) (S.I k)) ∧
  (M.1 0 9 = nI S.kp) ∧
  (M.1 0 10 = nI S.tn) ∧
  (M.1 1 1 = nI S.tp.length) ∧
  (∀ i x, S.tp[i]? = some x → M.1 2 i = sB x) ∧
  (M.1 3 3 = nI (S.ft % 8)) ∧
  (∀ k, k < 4 → XSh M k (S.ce k) (S.sh k))
theorem XA.c {M : Mem} {S : Ab} (h : XA M S) : XC M S.R := h.1
theorem XA.a {M : Mem} {S : Ab} (h : XA M S) : XMi M 16 S.A := h.2.1
theorem XA.i {M : Mem} {S : Ab} (h : XA M S) : ∀ k, k < 2 → S.kp.testBit k = true → XMi M (20 + 3 * k) (S.I k) := h.2.2.1
theorem XA.kp {M : Mem} {S : Ab} (h : XA M S) : M.1 0 9 = nI S.kp := h.2.2.2.1
theorem XA.tn {M : Mem} {S : Ab} (h : XA M S) : M.1 0 10 = nI S.tn := h.2.2.2.2.1
theorem XA.tl {M : Mem} {S : Ab} (h : XA M S) : M.1 1 1 = nI S.tp.length := h.2.2.2.2.2.1
theorem XA.tb {M : Mem} {S : Ab} (h : XA M S) : ∀ i x, S.tp[i]? = some x → M.1 2 i = sB x := h.2.2.2.2.2.2.1
theorem XA.ft {M : Mem} {S : Ab} (h : XA M S) : M.1 3 3 = nI (S.ft % 8) := h.2.2.2.2.2.2.2.1
theorem XA.sh {M : Mem} {S : Ab} (h : XA M S) : ∀ k, k < 4 → XSh M k (S.ce k) (S.sh k) := h.2.2.2.2.2.2.2.2
def MMi (M : Mem) (b : Nat) (m : Mi) : Prop := LyM M 1 b m.W ∧ GlM M (b + 60) m.gl ∧ GlM M (b + 66) m.sn ∧ ∀ p, p < 6 → m.sn.testBit p = true → M.1 1 (b + 72 + p) = nI (m.sg p)
def MSh (M : Mem) (k : Nat) (ce : Nat → Int32) : Option (Nat × Nat) → Prop
  | none => M.1 23 k = -4
  | some (l, z) => M.1 23 k = nI l ∧ M.1 24 k = nI z ∧ ∀ i, i < 40 → M.1 25 (40 * k + i) = ce i
def MA (M : Mem) (S : Ab) : Prop :=
  (MC M S.R) ∧
  (MMi M 0 S.A) ∧
  (∀ k, k < 2 → S.kp.testBit k = true → MMi M (78 * (k + 1)) (S.I k)) ∧
  (∀ k, k < 2 → M.1 2 k = nI (if S.kp.testBit k then 1 else 0)) ∧
  (M.1 0 54 = nI S.tn) ∧
  (M.1 0 26 = nI S.tp.length) ∧
  (∀ i x, S.tp[i]? = some x → M.1 14 i = nI x) ∧
  (M.1 0 31 = nI (S.ft / 8)) ∧
  (∀ k, k < 4 → MSh M k (S.ce k) (S.sh k))
theorem MA.c {M : Mem} {S : Ab} (h : MA M S) : MC M S.R := h.1
theorem MA.a {M : Mem} {S : Ab} (h : MA M S) : MMi M 0 S.A := h.2.1
theorem MA.i {M : Mem} {S : Ab} (h : MA M S) : ∀ k, k < 2 → S.kp.testBit k = true → MMi M (78 * (k + 1)) (S.I k) := h.2.2.1
theorem MA.kp {M : Mem} {S : Ab} (h : MA M S) : ∀ k, k < 2 → M.1 2 k = nI (if S.kp.testBit k then 1 else 0) := h.2.2.2.1
theorem MA.tn {M : Mem} {S : Ab} (h : MA M S) : M.1 0 54 = nI S.tn := h.2.2.2.2.1
theorem MA.tl {M : Mem} {S : Ab} (h : MA M S) : M.1 0 26 = nI S.tp.length := h.2.2.2.2.2.1
theorem MA.tb {M : Mem} {S : Ab} (h : MA M S) : ∀ i x, S.tp[i]? = some x → M.1 14 i = nI x := h.2.2.2.2.2.2.1
theorem MA.ft {M : Mem} {S : Ab} (h : MA M S) : M.1 0 31 = nI (S.ft / 8) := h.2.2.2.2.2.2.2.1
theorem MA.sh {M : Mem} {S : Ab} (h : MA M S) : ∀ k, k < 4 → MSh M k (S.ce k) (S.sh k) := h.2.2.2.2.2.2.2.2
def xS : List Nat := [4, 5, 6, 7, 8, 9, 10, 15, 26, 27, 28, 29, 30, 31, 32, 33, 34, 35, 36, 37, 38, 39, 49]
theorem xS_in {a : Nat} (h : a ∈ xS) : (4 ≤ a ∧ a ≤ 10) ∨ a = 15 ∨ (26 ≤ a ∧ a ≤ 39) ∨ a = 49 := by
  simp only [xS, List.mem_cons, List.not_mem_nil, or_false] at h
  omega
theorem XMi.off {S : List Nat} {M M' : Mem} {o : Nat} {m : Mi} (h : XMi M o m) (ho : Off S M M') (h1 : o ∉ S) (h2 : o + 1 ∉ S) (h3 : o + 2 ∉ S) : XMi M' o m := by
  obtain ⟨a1, a2, a3, a4⟩ := h
  refine ⟨by rw [(ho o h1).1]; exact a1, by rw [(ho o h1).1]; exact a2, a3.off ho h2, fun p hp hs => by rw [(ho _ h3).1]; exact a4 p hp hs⟩
theorem XSh.off {S : List Nat} {M M' : Mem} {k : Nat} {ce : Nat → Int32} {x : Option (Nat × Nat)} (h : XSh M k ce x) (ho : Off S M M') (h1 : 41 + 2 * k ∉ S) (h2 : 42 + 2 * k ∉ S) : XSh M' k ce x := by
  cases x with
  | none => exact (congrFun (ho _ h1).1 0).trans h
  | some q =>
    obtain ⟨a1, a2, a3, a4⟩ := h
    exact ⟨(congrFun (ho _ h1).1 0).trans a1, (congrFun (ho _ h1).1 1).trans a2, (congrFun (ho _ h1).1 2).trans a3, fun i hi => (congrFun (ho _ h2).1 i).trans (a4 i hi)⟩
theorem XA.off {M M' : Mem} {S : Ab} (h : XA M S) (ho : Off xS M M') : XA M' S :=
  ⟨h.c.off ho (by decide),
  h.a.off ho (by decide) (by decide) (by decide),
  fun k hk hs => (h.i k hk hs).off ho (fun q => by have := xS_in q; omega) (fun q => by have := xS_in q; omega) (fun q => by have := xS_in q; omega),
  (congrFun (ho 0 (by decide)).1 9).trans h.kp,
  (congrFun (ho 0 (by decide)).1 10).trans h.tn,
  (congrFun (ho 1 (by decide)).1 1).trans h.tl,
  fun i x hx => (congrFun (ho 2 (by decide)).1 i).trans (h.tb i x hx),
  (congrFun (ho 3 (by decide)).1 3).trans h.ft,
  fun k hk => (h.sh k hk).off ho (fun q => by have := xS_in q; omega) (fun q => by have := xS_in q; omega)⟩
def mS (a k : Nat) : Prop := (8 ≤ a ∧ a ≤ 13) ∨ (15 ≤ a ∧ a ≤ 22) ∨ (a = 0 ∧ ¬ (k = 2 ∨ k = 3 ∨ k = 4 ∨ k = 5 ∨ k = 6 ∨ k = 26 ∨ k = 31 ∨ k = 54))
theorem mh_mS {L a k : Nat} (h : mh L a k) : mS a k := by
  unfold mh mk rg at h
  unfold mS
  omega
theorem MMi.fr {P : Nat → Nat → Prop} {M M' : Mem} {b : Nat} {m : Mi} (h : MMi M b m) (hW : OkW m.W) (ho : Fr P M M') (hp : ∀ k, b ≤ k → k < b + 78 → ¬ P 1 k) : MMi M' b m := by
  obtain ⟨a1, a2, a3, a4⟩ := h
  refine ⟨a1.fr hW ho (fun k h1 h2 => hp k h1 (by omega)), a2.fr ho (fun k h1 h2 => hp k (by omega) (by omega)), a3.fr ho (fun k h1 h2 => hp k (by omega) (by omega)), fun p hp6 hs => ?_⟩
  rw [(ho 1 _ (hp _ (by omega) (by omega))).1]
  exact a4 p hp6 hs
theorem MSh.fr {P : Nat → Nat → Prop} {M M' : Mem} {k : Nat} {ce : Nat → Int32} {x : Option (Nat × Nat)} (h : MSh M k ce x) (ho : Fr P M M') (hp : ∀ a j, 23 ≤ a → a ≤ 25 → ¬ P a j) : MSh M' k ce x := by
  cases x with
  | none => exact (ho 23 k (hp _ _ (by decide) (by decide))).1.trans h
  | some q =>
    obtain ⟨a1, a2, a3⟩ := h
    exact ⟨(ho 23 k (hp _ _ (by decide) (by decide))).1.trans a1, (ho 24 k (hp _ _ (by decide) (by decide))).1.trans a2, fun i hi => (ho 25 _ (hp _ _ (by decide) (by decide))).1.trans (a3 i hi)⟩
theorem MA.fr {M M' : Mem} {S : Ab} (hS : Ok S) (h : MA M S) (ho : Fr mS M M') : MA M' S :=
  ⟨h.c.fr ho (fun k hk => by simp only [List.mem_cons, List.not_mem_nil, or_false] at hk; unfold mS; omega) (fun a k ha => by simp only [List.mem_cons, List.not_mem_nil, or_false] at ha; unfold mS; omega),
  h.a.fr hS.hA.1 ho (fun k _ _ => by unfold mS; omega),
  fun k hk hs => (h.i k hk hs).fr (hS.hI k hk hs).1 ho (fun k _ _ => by unfold mS; omega),
  fun k hk => by rw [(ho 2 k (by unfold mS; omega)).1]; exact h.kp k hk,
  by rw [(ho 0 54 (by unfold mS; omega)).1]; exact h.tn,
  by rw [(ho 0 26 (by unfold mS; omega)).1]; exact h.tl,
  fun i x hx => by rw [(ho 14 i (by unfold mS; omega)).1]; exact h.tb i x hx,
  by rw [(ho 0 31 (by unfold mS; omega)).1]; exact h.ft,
  fun k hk => (h.sh k hk).fr ho (fun a j _ _ => by unfold mS; omega)⟩
def fuel : Nat := 1048576
def Rel (Mx Mm : Mem) : Prop := ∃ S, Ok S ∧ XA Mx S ∧ MA Mm S
def Sm (f g : Mem → Option (Int32 × Mem)) : Prop := ∀ Mx Mm, Rel Mx Mm → ∃ r Mx2 Mm2, f Mx = some (r, Mx2) ∧ g Mm = some (r, Mm2) ∧ Rel Mx2 Mm2
-- questions
def Qx (f : Mem → Option (Int32 × Mem)) (q : Ab → Int32) : Prop := ∀ M S, Ok S → XA M S → ∃ M', f M = some (q S, M') ∧ Off xS M M'
def Qm (f : Mem → Option (Int32 × Mem)) (q : Ab → Int32) : Prop := ∀ M S, Ok S → MA M S → ∃ M', f M = some (q S, M') ∧ Fr mS M M'
-- S.ft holds two numbers: S.ft % 8 is the class's FAULT, S.ft / 8 the reference's (they differ at the tenth thing: REPORT.md, STATEMENT 1)
def Sw (f g : Mem → Option (Int32 × Mem)) : Prop := ∀ Mx Mm, Rel Mx Mm → ∃ r r' Mx2 Mm2, f Mx = some (r, Mx2) ∧ g Mm = some (r', Mm2) ∧ Rel Mx2 Mm2
theorem Sm_q {f g : Mem → Option (Int32 × Mem)} {q : Ab → Int32} (hx : Qx f q) (hm : Qm g q) : Sm f g := by
  intro Mx Mm ⟨S, h, h1, h2⟩
  obtain ⟨M1, g1, g2⟩ := hx Mx S h h1
  obtain ⟨M2, k1, k2⟩ := hm Mm S h h2
  exact ⟨q S, M1, M2, g1, k1, S, h, h1.off g2, h2.fr h k2⟩
-- deeds
def Ux (f : Mem → Option (Int32 × Mem)) (u : Ab → Int32 × Ab) : Prop := ∀ M S, Ok S → XA M S → ∃ M', f M = some ((u S).1, M') ∧ XA M' (u S).2
def Um (f : Mem → Option (Int32 × Mem)) (u : Ab → Int32 × Ab) : Prop := ∀ M S, Ok S → MA M S → ∃ M', f M = some ((u S).1, M') ∧ MA M' (u S).2
theorem Sm_u {f g : Mem → Option (Int32 × Mem)} {u : Ab → Int32 × Ab} (hx : Ux f u) (hm : Um g u) (hk : ∀ S, Ok S → Ok (u S).2) : Sm f g := by
  intro Mx Mm ⟨S, h, h1, h2⟩
  obtain ⟨M1, g1, g2⟩ := hx Mx S h h1
  obtain ⟨M2, k1, k2⟩ := hm Mm S h h2
  exact ⟨(u S).1, M1, M2, g1, k1, (u S).2, hk S h, g2, k2⟩
-- a number that is one of the first P
def vN (p : Int32) (P : Nat) : Bool := decide (0 ≤ p) && decide (p < nI P)
def pN (p : Int32) : Nat := p.toNatClampNeg
theorem vN_y {p : Int32} {P : Nat} (hP : P < 2 ^ 31) (h : vN p P = true) : pN p < P ∧ p = nI (pN p) := by
  unfold vN at h
  simp only [Bool.and_eq_true, decide_eq_true_eq] at h
  rcases i_cases p with h1 | ⟨k, h1, h2⟩
  · exact absurd (Int32.lt_of_le_of_lt h.1 h1) (by decide)
  · subst h2
    unfold pN
    rw [nI_clamp h1]
    exact ⟨(nI_ltI h1 hP).mp h.2, rfl⟩
theorem vN_k {k P : Nat} (hP : P < 2 ^ 31) (hk : k < 2 ^ 31) : vN (nI k) P = decide (k < P) := by
  unfold vN
  rw [show decide (0 ≤ nI k) = true by simpa using nI_pos' hk, Bool.true_and]
  exact decide_eq_decide.mpr (nI_ltI hk hP)
theorem vN_n {p : Int32} {P : Nat} (h : vN p P ≠ true) : p < 0 ∨ nI P ≤ p := by
  by_cases h0 : (0 : Int32) ≤ p
  · right
    by_cases h1 : p < nI P
    · exact absurd (by unfold vN; simp [h0, h1]) h
    · exact Int32.not_lt.mp h1
  · left
    exact Int32.not_le.mp h0
theorem x_in {P : Nat} {p : Int32} {α : Type} (a b : α) : (if p < 0 then a else if nI P ≤ p then a else b) = if vN p P then b else a := by
  by_cases h : vN p P = true
  · rw [if_pos h]
    unfold vN at h
    simp only [Bool.and_eq_true, decide_eq_true_eq] at h
    rw [if_neg (Int32.not_lt.mpr h.1), if_neg (Int32.not_le.mpr h.2)]
  · rw [if_neg h]
    rcases vN_n h with h1 | h1
    · rw [if_pos h1]
    · by_cases h2 : p < 0
      · rw [if_pos h2]
      · rw [if_neg h2, if_pos h1]
theorem m_inV (n : Nat) {P : Nat} (hP : P < 2 ^ 31) (p : Int32) (M : Mem) : X_Model_in n p.toInt64 0 (nI P - 1).toInt64 M = some (if vN p P then 1 else 0, M) := by
  by_cases h : vN p P = true
  · obtain ⟨h1, h2⟩ := vN_y hP h
    rw [if_pos h]
    have := m_inY n hP h1 M
    rw [← h2] at this
    rw [show nI P - 1 = nI (P - 1) from pk_sub (b := 1) (by omega)]
    exact this
  · rw [if_neg h]
    refine m_inN n hP (fun ⟨k, h1, h2⟩ => h ?_) M
    rw [h2, vN_k hP (by omega)]
    simpa using h1
