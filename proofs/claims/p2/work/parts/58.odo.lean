/-! SEARCH: the reference's odometer -/
def lrNext (n : Nat) (a1 a2 : Int32) (m : Nat) (v3 : Int32) (M19 : Mem) : Option (Int32 × Mem) := gd v3 4 (bd (X_Model_freeFrom n ((M19.1 17 v3.toNatClampNeg) + 1) M19) fun r20 M21 => gd v3 4 (X_Model_layRows_L73 n a1 a2 m v3 (si M21 17 (v3.toNatClampNeg) r20)))
def lrGood (n : Nat) (a1 a2 : Int32) (m : Nat) (v3 r15 : Int32) (M16 : Mem) : Option (Int32 × Mem) := if r15 = 0 then lrNext n a1 a2 m v3 M16 else bd (X_Model_isGood n (v3 + 1) M16) fun r22 M23 => if r22 = 0 then lrNext n a1 a2 m v3 M23 else bd (X_Model_aRow n a1 M23) fun _ M25 => lrNext n a1 a2 m v3 M25
def lrThen (n : Nat) (a1 a2 : Int32) (m : Nat) (v3 r15 : Int32) (M16 : Mem) : Option (Int32 × Mem) := if r15 = 0 then lrGood n a1 a2 m v3 r15 M16 else if a1 ≤ v3 + 1 then lrGood n a1 a2 m v3 r15 M16 else bd (X_Model_freeFrom n 0 M16) fun r26 M27 => gd (v3 + 1) 4 (X_Model_layRows_L73 n a1 a2 m (v3 + 1) (si M27 17 ((v3 + 1).toNatClampNeg) r26))
def lrDo (n : Nat) (a1 a2 : Int32) (m : Nat) (v3 : Int32) (M : Mem) : Option (Int32 × Mem) := bd (X_Model_copies n (v3 + 1) v3 M) fun _ M12 => gd v3 4 (bd (X_Model_shakes n (v3 + 1) (M12.1 17 v3.toNatClampNeg) 0 M12) fun _ M14 => bd (X_Model_isStill n (v3 + 1) M14) fun r15 M16 => lrThen n a1 a2 m v3 r15 M16)
def lrUp (n : Nat) (a1 a2 : Int32) (m : Nat) (v3 : Int32) (M : Mem) : Option (Int32 × Mem) := if (v3 + (-1)) < 0 then X_Model_layRows_L73 n a1 a2 m (v3 + (-1)) M else gd (v3 + (-1)) 4 (bd (X_Model_freeFrom n ((M.1 17 (v3 + (-1)).toNatClampNeg) + 1) M) fun r28 M29 => gd (v3 + (-1)) 4 (X_Model_layRows_L73 n a1 a2 m (v3 + (-1)) (si M29 17 ((v3 + (-1)).toNatClampNeg) r28)))
def lrK (n : Nat) (a1 a2 : Int32) (m : Nat) (v3 : Int32) (M : Mem) : Option (Int32 × Mem) := gd v3 4 (if (M.1 17 v3.toNatClampNeg) = 15 then lrUp n a1 a2 m v3 M else lrDo n a1 a2 m v3 M)
theorem L73_eq (n : Nat) (a1 a2 : Int32) (m : Nat) (v3 : Int32) (M : Mem) : X_Model_layRows_L73 n a1 a2 (m + 1) v3 M = if v3 < 0 then some ((M.1 0 43), M) else if a2 = 0 then lrK n a1 a2 m v3 M else if 0 < (M.1 0 43) then some ((M.1 0 43), M) else lrK n a1 a2 m v3 M := rfl
theorem L73_go {n : Nat} {a1 a2 : Int32} {m d : Nat} {M : Mem} (hd : d < 2 ^ 31) (h : a2 = 0 ∨ ¬ 0 < M.1 0 43) : X_Model_layRows_L73 n a1 a2 (m + 1) (nI d) M = lrK n a1 a2 m (nI d) M := by
  rw [L73_eq, if_neg (nI_pos hd)]
  by_cases e : a2 = 0
  · rw [if_pos e]
  · rw [if_neg e, if_neg (h.resolve_left e)]
def Kr (S : Ab) (v : Nat → Int32) (M : Mem) : Prop := MA M S ∧ M.1 0 38 = nI S.A.gl ∧ ∀ k, 39 ≤ k → k ≤ 42 → M.1 0 k = v k
def mg (d : Nat) (c k : Nat) : Prop := mk c k ∨ (c = 15 ∧ 60 * (d + 1) ≤ k)
def mf (d : Nat) (c k : Nat) : Prop := mg d c k ∨ (c = 17 ∧ d ≤ k) ∨ ar c k
theorem mf_S {d c k : Nat} (h : mf d c k) : mS c k ∧ ¬ (c = 0 ∧ 38 ≤ k ∧ k ≤ 42) := by
  unfold mf mg mk ar at h
  unfold mS
  omega
theorem Kr.fr {S : Ab} (hS : Ok S) {v : Nat → Int32} {M M' : Mem} {P : Nat → Nat → Prop} (h : Kr S v M) (hP : ∀ c k, P c k → mS c k ∧ ¬ (c = 0 ∧ 38 ≤ k ∧ k ≤ 42)) (ho : Fr P M M') : Kr S v M' :=
  ⟨h.1.fr hS (ho.mono (fun c k q => (hP c k q).1)), by rw [(ho 0 38 (fun q => (hP _ _ q).2 ⟨rfl, by omega, by omega⟩)).1]; exact h.2.1, fun k h1 h2 => by rw [(ho 0 k (fun q => (hP _ _ q).2 ⟨rfl, by omega, by omega⟩)).1]; exact h.2.2 k h1 h2⟩
theorem Dg.fr {P : Nat → Nat → Prop} {M M' : Mem} {w : List Nat} (h : Dg M w) (ho : Fr P M M') (hp : ∀ k, k < w.length → ¬ P 17 k) : Dg M' w := fun i x hi => by
  rw [(ho 17 i (hp i (List.getElem?_eq_some_iff.mp hi).1)).1]
  exact h i x hi
theorem Dg.snoc {M : Mem} {w : List Nat} {x : Nat} (h : Dg M w) (e : M.1 17 w.length = nI x) : Dg M (w ++ [x]) := fun i y hi => by
  by_cases q : i < w.length
  · rw [List.getElem?_append_left q] at hi
    exact h i y hi
  · have hl := (List.getElem?_eq_some_iff.mp hi).1
    rw [List.length_append, List.length_singleton] at hl
    have : i = w.length := by omega
    subst this
    rw [List.getElem?_append_right (Nat.le_refl _), Nat.sub_self] at hi
    rw [e, ← Option.some.inj hi]
theorem hand_free {R : Rl} {g x : Nat} {W : WW} (h : free R.1 g x = true) : handF R 0 x W = handF R g x W := by
  unfold free at h
  simp only [Bool.and_eq_true, Bool.not_eq_true'] at h
  unfold handF
  rw [h.2.1, h.2.2, Nat.zero_testBit, Nat.zero_testBit]
theorem free_P {P g x : Nat} (h : free P g x = true) : gre x < P := by
  unfold free at h
  rw [Bool.and_eq_true] at h
  exact of_decide_eq_true h.1
theorem m_hand1 (n : Nat) (hn : 61 ≤ n) {S : Ab} (hS : Ok S) {M : Mem} (hM : MA M S) {d x : Nat} (hd : d < 4) (hx : free S.R.1 S.A.gl x = true) (h15 : x < 15) {W : WW} (hW : OkW W) (hL : LyM M 15 (60 * d) W) (h17 : M.1 17 d = nI x) : ∃ M2, (∀ (F : Mem → Option (Int32 × Mem)), (bd (X_Model_copies n (nI d + 1) (nI d) M) fun _ M12 => gd (nI d) 4 (bd (X_Model_shakes n (nI d + 1) (M12.1 17 (nI d).toNatClampNeg) 0 M12) fun _ M14 => F M14)) = F M2) ∧ Fr (mg d) M M2 ∧ LyM M2 15 (60 * (d + 1)) (handF S.R S.A.gl x W) := by
  have f1 : Fr (mg d) M (cpI M 15 (60 * d) 15 (60 * (d + 1)) 60) := Fr.cpI (fun k h1 h2 => Or.inr ⟨rfl, h1⟩)
  have mgS : ∀ c k, mg d c k → mS c k := fun c k q => (mf_S (d := d) (Or.inl q)).1
  obtain ⟨M2, a1, a2, a3⟩ := m_shakes n (by omega) hS.hR (hM.fr hS (f1.mono mgS)).c (L := d + 1) (by omega) hW (LyM.cp hL hW) (g := 0) (x := x) (by decide) h15
  refine ⟨M2, fun F => ?_, f1.trans (a2.mono (fun c k q => q.elim Or.inl (fun r => Or.inr ⟨r.1, r.2.1⟩))), ?_⟩
  · rw [nI_1, m_copies n hn (by omega) (by omega), bd_ret, gd_in (v4 hd), nI_clamp (by omega)]
    rw [show (cpI M 15 (60 * d) 15 (60 * (d + 1)) 60).1 17 d = nI x from h17]
    rw [show (0 : Int32) = nI 0 from rfl, a1]
    rfl
  · rw [← hand_free hx]
    exact a3
theorem m_adv (n : Nat) (hn : 20 ≤ n) {S : Ab} (hS : Ok S) {v : Nat → Int32} {M : Mem} (hM : Kr S v M) {d j : Nat} (hd : d < 4) (hj : j < 15) (h17 : M.1 17 d = nI (15 - (j + 1))) : ∃ i, i ≤ j ∧ (i = 0 ∨ free S.R.1 S.A.gl (15 - i) = true) ∧ (∀ h : Nat → List (List Nat), (∀ x, x < 15 → free S.R.1 S.A.gl x = false → h x = []) → fl h j = fl h i) ∧ ∀ (F : Int32 → Mem → Option (Int32 × Mem)), gd (nI d) 4 (bd (X_Model_freeFrom n ((M.1 17 (nI d).toNatClampNeg) + 1) M) fun r20 M21 => gd (nI d) 4 (F r20 M21)) = F (nI (15 - i)) M := by
  obtain ⟨i, a1, a2, a3, a4⟩ := m_freeFrom n hn hS.hR hM.1.c hM.2.1 hS.gl (j := j) (by omega)
  refine ⟨i, a2, a3, a4, fun F => ?_⟩
  rw [gd_in (v4 hd), nI_clamp (by omega), h17, nI_1, show 15 - (j + 1) + 1 = 15 - j by omega, a1, bd_ret, gd_in (v4 hd)]
def Tc : Nat → Nat
  | 0 => 1
  | k + 1 => 2 + 15 * Tc k
theorem d_m1 : ∀ d, d < 10 → nI (d + 1) + (-1) = nI d := by decide +kernel
