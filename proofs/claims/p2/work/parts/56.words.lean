/-! SEARCH: words of pairs -/
abbrev WW : Type := Nat → List Nat
def com (x : Nat) : Nat := (2 ^ les x ||| 2 ^ gre x) ^^^ (2 ^ 32 - 1)
def free (P g x : Nat) : Bool := decide (gre x < P) && (!g.testBit (les x) && !g.testBit (gre x))
def fl (h : Nat → List (List Nat)) : Nat → List (List Nat)
  | 0 => []
  | j + 1 => h (14 - j) ++ fl h j
theorem fl_nil {h : Nat → List (List Nat)} : ∀ j, j ≤ 15 → (fl h j = [] ↔ ∀ x, 15 - j ≤ x → x < 15 → h x = [])
  | 0, _ => ⟨fun _ x h1 h2 => by omega, fun _ => rfl⟩
  | j + 1, hj => by
    show (h (14 - j) ++ fl h j = []) ↔ _
    rw [List.append_eq_nil_iff, fl_nil j (by omega)]
    constructor
    · intro ⟨a, b⟩ x h1 h2
      by_cases e : x = 14 - j
      · rw [e]; exact a
      · exact b x (by omega) h2
    · intro a
      exact ⟨a _ (by omega) (by omega), fun x h1 h2 => a x (by omega) h2⟩
theorem fl_nil15 {h : Nat → List (List Nat)} : fl h 15 = [] ↔ ∀ x, x < 15 → h x = [] := by
  rw [fl_nil 15 (by omega)]
  exact ⟨fun a x hx => a x (by omega) hx, fun a x _ hx => a x hx⟩
theorem fl_congr {h h' : Nat → List (List Nat)} (e : ∀ x, x < 15 → h x = h' x) : ∀ j, fl h j = fl h' j
  | 0 => rfl
  | j + 1 => by
    show h (14 - j) ++ fl h j = h' (14 - j) ++ fl h' j
    rw [e _ (by omega), fl_congr e j]
def wds (R : Rl) (g : Nat) (st gd : WW → Bool) : Nat → WW → List Nat → List (List Nat)
  | 0, W, pre => if gd W then [pre] else []
  | k + 1, W, pre => fl (fun x => if free R.1 g x && st (handF R g x W) then wds R g st gd k (handF R g x W) (pre ++ [x]) else []) 15
def same (R : Rl) (g x : Nat) (W : WW) : Bool := (List.range 6).all (fun p => decide (handF R g x W p = W p))
theorem same_iff {R : Rl} {g x : Nat} {W : WW} : same R g x W = true ↔ ∀ p, p < 6 → handF R g x W p = W p := by
  unfold same
  rw [List.all_eq_true]
  exact ⟨fun h p hp => of_decide_eq_true (h p (List.mem_range.mpr hp)), fun h p hp => decide_eq_true (h p (List.mem_range.mp hp))⟩
def wdn (R : Rl) (g : Nat) (st gd : WW → Bool) : Nat → WW → List Nat → List (List Nat)
  | 0, W, pre => if gd W then [pre] else []
  | k + 1, W, pre => fl (fun x => if free R.1 g x && (!same R g x W && st (handF R g x W)) then wdn R g st gd k (handF R g x W) (pre ++ [x]) else []) 15
theorem wds_pre {R : Rl} {g : Nat} {st gd : WW → Bool} : ∀ (k : Nat) (W : WW) (p q : List Nat), wds R g st gd k W p = [] → wds R g st gd k W q = []
  | 0, W, p, q, h => by
    have h : (if gd W then [p] else []) = [] := h
    show (if gd W then [q] else []) = []
    cases e : gd W <;> simp [e] at h ⊢
  | k + 1, W, p, q, h => by
    have h := fl_nil15.mp h
    refine fl_nil15.mpr (fun x hx => ?_)
    have h := h x hx
    split
    · rename_i c
      rw [if_pos c] at h
      exact wds_pre k _ _ _ h
    · rfl
theorem wdn_nil {R : Rl} {g : Nat} {st gd : WW → Bool} : ∀ (k : Nat) (W : WW) (p : List Nat), wds R g st gd k W p = [] → wdn R g st gd k W p = []
  | 0, W, p, h => h
  | k + 1, W, p, h => by
    have h := fl_nil15.mp h
    refine fl_nil15.mpr (fun x hx => ?_)
    have h := h x hx
    split
    · rename_i c
      rw [Bool.and_eq_true, Bool.and_eq_true] at c
      rw [if_pos (by rw [c.1, c.2.2]; rfl)] at h
      exact wdn_nil k _ _ h
    · rfl
theorem handF_ne {R : Rl} {g x : Nat} {W : WW} {p : Nat} (h1 : p ≠ les x) (h2 : p ≠ gre x) : handF R g x W p = W p := by
  unfold handF
  split
  · rfl
  · exact if_neg (fun q => q.elim h1 h2)
theorem same_eq {R : Rl} {g x : Nat} {W : WW} (hx : x < 15) (h : same R g x W = true) : handF R g x W = W := by
  have h : ∀ p, p < 6 → handF R g x W p = W p := same_iff.mp h
  obtain ⟨p1, p2, -, -, -⟩ := les_gre x hx
  funext p
  by_cases e : p < 6
  · exact h p e
  · exact handF_ne (by omega) (by omega)
theorem wdn_wds {R : Rl} {g : Nat} {st gd : WW → Bool} : ∀ (k : Nat) (W : WW) (p : List Nat), (∀ j, j < k → ∀ q, wds R g st gd j W q = []) → wdn R g st gd k W p = wds R g st gd k W p
  | 0, W, p, _ => rfl
  | k + 1, W, p, h => by
    show fl _ 15 = fl _ 15
    apply fl_congr
    intro x hx
    by_cases c : (free R.1 g x && st (handF R g x W)) = true
    · rw [if_pos c]
      rw [Bool.and_eq_true] at c
      by_cases s : same R g x W = true
      · rw [if_neg (by simp [s]), same_eq hx s, h k (by omega)]
      · have s : same R g x W = false := by simpa using s
        rw [if_pos (by rw [c.1, c.2, s]; rfl)]
        apply wdn_wds
        intro j hj q
        have h := fl_nil15.mp (h (j + 1) (by omega) []) x hx
        rw [if_pos (by rw [c.1, c.2]; rfl)] at h
        exact wds_pre _ _ _ _ h
    · rw [if_neg c, if_neg (fun d => c (by simp only [Bool.and_eq_true] at d ⊢; exact ⟨d.1, d.2.2⟩))]
theorem pop_mend : ∀ w, w < 64 → ∀ x, x < 15 → popN 16 w ≤ popN 16 (w &&& com x) + 2 ∧ popN 16 (w &&& com x) ≤ popN 16 w := by decide +kernel
def OkA (am : WW → Nat) : Prop := (∀ W, am W < 64) ∧ ∀ W V p, p < 6 → W p = V p → (am W).testBit p = (am V).testBit p
theorem am_com {R : Rl} {g x : Nat} {am : WW → Nat} (h : OkA am) (hx : x < 15) (W : WW) : am (handF R g x W) &&& com x = am W &&& com x := by
  apply Nat.eq_of_testBit_eq
  intro i
  rw [Nat.testBit_and, Nat.testBit_and]
  by_cases e : i < 6
  · by_cases q : i = les x ∨ i = gre x
    · have : (com x).testBit i = false := by
        unfold com
        rw [com_bit (by omega), or_bit, Nat.testBit_two_pow]
        rcases q with q | q <;> simp [q]
      rw [this, Bool.and_false, Bool.and_false]
    · rw [h.2 _ W i e (handF_ne (fun r => q (Or.inl r)) (fun r => q (Or.inr r)))]
  · have e1 : ∀ w, w < 64 → w.testBit i = false := fun w hw => Nat.testBit_lt_two_pow (Nat.lt_of_lt_of_le hw (Nat.pow_le_pow_right (n := 2) (by decide) (show 6 ≤ i by omega)))
    rw [e1 _ (h.1 _), e1 _ (h.1 _)]
def gdA (am : WW → Nat) (W : WW) : Bool := decide (am W = 0)
theorem wds_mend {R : Rl} {g : Nat} {st : WW → Bool} {am : WW → Nat} (h : OkA am) : ∀ (k : Nat) (W : WW) (p : List Nat), 2 * k < popN 16 (am W) → wds R g st (gdA am) k W p = []
  | 0, W, p, hk => by
    show (if gdA am W then [p] else []) = []
    refine if_neg (fun e => ?_)
    have e : am W = 0 := of_decide_eq_true e
    rw [e] at hk
    exact absurd hk (by decide)
  | k + 1, W, p, hk => by
    refine fl_nil15.mpr (fun x hx => ?_)
    split
    · apply wds_mend h k
      have a1 := (pop_mend _ (h.1 W) x hx).1
      have a2 := (pop_mend _ (h.1 (handF R g x W)) x hx).2
      rw [am_com h hx W] at a2
      omega
    · rfl
theorem wds_cut {R : Rl} {g : Nat} {st : WW → Bool} {am : WW → Nat} (h : OkA am) {k x : Nat} {W : WW} {p : List Nat} (hx : x < 15) (hk : 2 * k < popN 16 (am W &&& com x)) : wds R g st (gdA am) k (handF R g x W) p = [] := by
  apply wds_mend h
  have a2 := (pop_mend _ (h.1 (handF R g x W)) x hx).2
  rw [am_com h hx W] at a2
  omega
theorem fl_all {h : Nat → List (List Nat)} {Q : List Nat → Prop} (a : ∀ x, x < 15 → ∀ w ∈ h x, Q w) : ∀ j, ∀ w ∈ fl h j, Q w
  | 0, w, hw => absurd hw (List.not_mem_nil)
  | j + 1, w, hw => by
    have hw : w ∈ h (14 - j) ++ fl h j := hw
    rcases List.mem_append.mp hw with q | q
    · exact a _ (by omega) w q
    · exact fl_all a j w q
theorem wds_len {R : Rl} {g : Nat} {st gd : WW → Bool} : ∀ (k : Nat) (W : WW) (p w : List Nat), w ∈ wds R g st gd k W p → w.length = p.length + k
  | 0, W, p, w, h => by
    have h : w ∈ (if gd W then [p] else []) := h
    split at h
    · rw [List.mem_singleton.mp h]; rfl
    · exact absurd h List.not_mem_nil
  | k + 1, W, p, w, h => by
    refine fl_all (Q := fun w => w.length = p.length + (k + 1)) (fun x hx w hw => ?_) 15 w h
    split at hw
    · rw [wds_len k _ _ _ hw, List.length_append]
      simp only [List.length_cons, List.length_nil]
      omega
    · exact absurd hw List.not_mem_nil
theorem fl_cnt {h : Nat → List (List Nat)} {c : Nat} (a : ∀ x, x < 15 → (h x).length ≤ c) : ∀ j, (fl h j).length ≤ j * c
  | 0 => by simp [fl]
  | j + 1 => by
    show (h (14 - j) ++ fl h j).length ≤ _
    have := fl_cnt a j
    have := a (14 - j) (by omega)
    rw [List.length_append, Nat.succ_mul]
    omega
theorem wds_cnt {R : Rl} {g : Nat} {st gd : WW → Bool} : ∀ (k : Nat) (W : WW) (p : List Nat), (wds R g st gd k W p).length ≤ 15 ^ k
  | 0, W, p => by
    show (if gd W then [p] else []).length ≤ 1
    split <;> simp
  | k + 1, W, p => by
    rw [Nat.pow_succ, Nat.mul_comm]
    refine fl_cnt (fun x hx => ?_) 15
    split
    · exact wds_cnt k _ _
    · exact Nat.zero_le _
def msk (w : List Nat) : Nat := w.foldl (fun v x => v ||| 2 ^ x) 0
theorem msk_snoc (w : List Nat) (x : Nat) : msk (w ++ [x]) = msk w ||| 2 ^ x := by unfold msk; rw [List.foldl_append]; rfl
abbrev Ac : Type := Nat × Nat × Nat × List Nat
def push (stp : Bool) (a : Ac) (w : List Nat) : Ac := if stp && decide (0 < a.1) then a else (a.1 + 1, if a.1 = 0 then msk w else a.2.1 &&& msk w, a.2.2.1 ||| msk w, if a.1 = 0 then w else a.2.2.2)
def pall (stp : Bool) (a : Ac) (l : List (List Nat)) : Ac := l.foldl (push stp) a
theorem pall_app (stp : Bool) (a : Ac) (l m : List (List Nat)) : pall stp a (l ++ m) = pall stp (pall stp a l) m := List.foldl_append
theorem pall_stop {a : Ac} (h : 0 < a.1) : ∀ l, pall true a l = a
  | [] => rfl
  | w :: l => by
    show pall true (push true a w) l = a
    have : push true a w = a := if_pos (by simp [h])
    rw [this]
    exact pall_stop h l
theorem pall_ge {stp : Bool} : ∀ (l : List (List Nat)) (a : Ac), a.1 ≤ (pall stp a l).1 ∧ (pall stp a l).1 ≤ a.1 + l.length
  | [], a => ⟨Nat.le_refl _, Nat.le_refl _⟩
  | w :: l, a => by
    have := pall_ge (stp := stp) l (push stp a w)
    have e : a.1 ≤ (push stp a w).1 ∧ (push stp a w).1 ≤ a.1 + 1 := by
      unfold push
      split <;> simp
    show _ ≤ (pall stp (push stp a w) l).1 ∧ (pall stp (push stp a w) l).1 ≤ _
    rw [List.length_cons]
    omega
theorem pall_cnt : ∀ (l : List (List Nat)) (a : Ac), (pall false a l).1 = a.1 + l.length
  | [], a => rfl
  | w :: l, a => by
    show (pall false (push false a w) l).1 = _
    rw [pall_cnt l, List.length_cons]
    show a.1 + 1 + _ = _
    omega
theorem pall_hd (w : List Nat) (l : List (List Nat)) : pall true (0, 0, 0, []) (w :: l) = (1, msk w, 0 ||| msk w, w) := pall_stop (a := (1, msk w, 0 ||| msk w, w)) Nat.one_pos l
