section
/-! SEARCH: the class's basics -/
theorem lv_id {d : Nat} (h : d < 7) : ([30, 31, 32, 33, 34, 35, 36] : List Nat).getD d 0 = 30 + d := by
  match d, h with
  | 0, _ => rfl
  | 1, _ => rfl
  | 2, _ => rfl
  | 3, _ => rfl
  | 4, _ => rfl
  | 5, _ => rfl
  | 6, _ => rfl
theorem v07 : vp_in (0 : Int32) 7 := vp_in_nI (n := 0) (by decide) (by decide)
theorem v17 : vp_in ((0 : Int32) + 1) 7 := vp_in_nI (n := 1) (by decide) (by decide)
def prs (P : Nat) : Nat := P * (P - 1) / 2
theorem prs_i : ∀ P, P < 7 → 2 ≤ P → (nI P * (nI P - 1)) / 2 = nI (prs P) ∧ prs P ≤ 15 := by decide +kernel
theorem prs_gre : ∀ P, P < 7 → ∀ h, h < 15 → (h < prs P ↔ gre h < P) := by decide +kernel
theorem x_begin {M : Mem} {S : Ab} (hS : Ok S) (hM : XA M S) : ∃ M', X_Search_begin fuel M = some ((), M') ∧ Off [26, 30] M M' ∧ M'.1 26 8 = nI (prs S.R.1) ∧ rowsAt M' 30 S.A.W := by
  have h6 := hS.p6
  have e := (prs_i S.R.1 (by omega) hS.hR.1).1
  have un : X_Search_begin fuel M = some ((), cpL (si M 26 8 (nI (prs S.R.1))) 17 0 30 0 6) := by
    unfold X_Search_begin gc
    rw [if_neg (by decide), gd_in v07, nm, hM.c.1, e, if_neg (by decide)]
    rfl
  refine ⟨_, un, (Off.si (by simp)).trans (Off.cpL (by simp)), by rw [(cpL_off (M := si M 26 8 (nI (prs S.R.1))) (a := 17) (sp := 0) (b := 30) (dp := 0) (n := 6) (j := 26) (by decide)).1]; exact si_at _ _ _ _, fun p hp => ?_⟩
  show (if 30 = 30 ∧ 0 ≤ p ∧ p < 0 + 6 then M.2 17 (0 + (p - 0)) else _) = _
  rw [if_pos ⟨rfl, by omega, by omega⟩, Nat.zero_add, Nat.sub_zero]
  exact hM.a.2.2.1 p hp
theorem x_bitsOf (n : Nat) {h : Nat} (hh : h < 15) (M : Mem) : X_Search_bitsOf n (nI h) M = some (nI (2 ^ les h ||| 2 ^ gre h), M) := by
  obtain ⟨p1, p2, p3, p4, -⟩ := les_gre h hh
  unfold X_Search_bitsOf
  rw [if_neg (nI_pos (by omega)), if_pos (show nI h < 15 from nI_lt (b := 15) hh (by decide)), gd_in (vp_in_nI hh (by decide)), gd_in (vp_in_nI hh (by decide)), nI_clamp (by omega), p3, p4, i_shl1 (by omega), i_shl1 (by omega), i_or]
theorem x_canMend (n : Nat) {w t k : Nat} (hw : w < 64) (ht : t < 64) (hk : k < 100) (M : Mem) : X_Search_canMend n (nI w) (nI t) (nI k) M = some (if popN 16 (w &&& (t ^^^ (2 ^ 32 - 1))) ≤ 2 * k then 1 else 0, M) := by
  unfold X_Search_canMend
  have hlt : w &&& (t ^^^ (2 ^ 32 - 1)) < 65536 := Nat.lt_of_le_of_lt Nat.and_le_left (by omega)
  have hp := popN_le (w &&& (t ^^^ (2 ^ 32 - 1))) 16
  rw [i_com w (by omega), bitCount_eq _ hlt, bd_ret, show (2 : Int32) = nI 2 from rfl, pk_mul]
  by_cases e : popN 16 (w &&& (t ^^^ (2 ^ 32 - 1))) ≤ 2 * k
  · rw [if_neg (Int32.not_lt.mpr (nI_le e (by omega))), if_pos e]
  · rw [if_pos (nI_lt (by omega) (by omega)), if_neg e]
theorem x_step (n : Nat) (hn : 20 ≤ n) {M : Mem} {S : Ab} (hS : Ok S) (hM : XA M S) {d x : Nat} (hd : d < 6) (hx : x < 15) {W : Nat → List Nat} (hW : OkW W) (hr : rowsAt M (30 + d) W) : ∃ r M', X_Search_step n (nI d) (nI x) M = some (r, M') ∧ Off [15, 31 + d] M M' ∧ rowsAt M' (31 + d) (handF S.R S.A.gl x W) ∧ ((r = 0 ∧ ∀ p, p < 6 → handF S.R S.A.gl x W p = W p) ∨ (r = 1 ∧ ∃ p, p < 6 ∧ handF S.R S.A.gl x W p ≠ W p)) := by
  have hg := hS.gl
  generalize hN : cpL M (30 + d) 0 (31 + d) 0 6 = N
  have f1 : Off [31 + d] M N := by rw [← hN]; exact Off.cpL (by simp)
  have rN : rowsAt N (31 + d) W := fun p hp => by
    rw [← hN]
    show (if 31 + d = 31 + d ∧ 0 ≤ p ∧ p < 0 + 6 then M.2 (30 + d) (0 + (p - 0)) else _) = _
    rw [if_pos ⟨rfl, by omega, by omega⟩, Nat.zero_add, Nat.sub_zero]
    exact hr p hp
  have cN : XC N S.R := hM.c.off f1 (by simp; omega)
  have gN : N.1 16 1 = nI S.A.gl := by rw [(f1 16 (by simp; omega)).1]; exact hM.a.1
  obtain ⟨r, M', g1, g2, g3, g4⟩ := circ_meet n (by omega) hS.hR cN (rows := 31 + d) (by omega) hW rN (show S.A.gl < 2 ^ 31 by omega) hx
  refine ⟨r, M', ?_, (f1.mono (by simp)).trans g2, g3, g4⟩
  unfold X_Search_step gc
  rw [if_neg (nI_pos (by omega)), if_pos (show nI d < 6 from nI_lt (b := 6) hd (by decide)), nI_1, gd_in (vp_in_nI (by omega) (by decide)), gd_in (vp_in_nI (by omega) (by decide)), if_neg (by decide), gd_in (vp_in_nI (by omega) (by decide)), nI_clamp (by omega), nI_clamp (by omega), lv_id (by omega), lv_id (by omega)]
  unfold nm
  dsimp only
  have hN' : cpL M (30 + d) ((0 : Int32).toNatClampNeg) (30 + (d + 1)) ((0 : Int32).toNatClampNeg) ((6 : Int32).toNatClampNeg) = N := by rw [show 30 + (d + 1) = 31 + d by omega]; exact hN
  rw [hN', gN, show 30 + (d + 1) = 31 + d by omega, g1, bd_ret]
  rcases g4 with ⟨e, -⟩ | ⟨e, -⟩ <;> rw [e] <;> rfl
theorem x_step0 (n : Nat) {M : Mem} {S : Ab} {W : Nat → List Nat} (hr : rowsAt M 30 W) : ∃ M', X_Search_step n 0 (-1) M = some (0, M') ∧ Off [31] M M' ∧ rowsAt M' 31 W := by
  refine ⟨cpL M 30 0 31 0 6, ?_, Off.cpL (by simp), fun p hp => ?_⟩
  · unfold X_Search_step gc
    rw [if_neg (by decide), if_pos (by decide), gd_in v07, gd_in v17, if_neg (by decide), gd_in v17]
    rfl
  · show (if 31 = 31 ∧ 0 ≤ p ∧ p < 0 + 6 then M.2 30 (0 + (p - 0)) else _) = _
    rw [if_pos ⟨rfl, by omega, by omega⟩, Nat.zero_add, Nat.sub_zero]
    exact hr p hp
-- the aim
end
section
/-! SEARCH: words of pairs -/
abbrev WW : Type := Nat → List Nat
def com (x : Nat) : Nat := (2 ^ les x ||| 2 ^ gre x) ^^^ (2 ^ 32 - 1)
def free (P g x : Nat) : Bool := decide (gre x < P) && (!g.testBit (les x) && !g.testBit (gre x))
def fl (h : Nat → List (List Nat)) : Nat → List (List Nat)
  | 0 => []
  | j + 1 => h (14 - j) ++ fl h j
theorem fl_nil {h : Nat → List (List Nat)} : ∀ j, j ≤ 15 → (fl h j = [] ↔ ∀ x, 15 - j ≤ x → x < 15 → h x = [])
  | 0, _ => ⟨fun _ x h1 h2 => by omega, fun _ => rfl⟩
  | j + 1, hj => by
    show (h (14 - j) ++ fl h j = []) ↔ _
    rw [List.append_eq_nil_iff, fl_nil j (by omega)]
    constructor
    · intro ⟨a, b⟩ x h1 h2
      by_cases e : x = 14 - j
      · rw [e]; exact a
      · exact b x (by omega) h2
    · intro a
      exact ⟨a _ (by omega) (by omega), fun x h1 h2 => a x (by omega) h2⟩
theorem fl_nil15 {h : Nat → List (List Nat)} : fl h 15 = [] ↔ ∀ x, x < 15 → h x = [] := by
  rw [fl_nil 15 (by omega)]
  exact ⟨fun a x hx => a x (by omega) hx, fun a x _ hx => a x hx⟩
theorem fl_congr {h h' : Nat → List (List Nat)} (e : ∀ x, x < 15 → h x = h' x) : ∀ j, fl h j = fl h' j
  | 0 => rfl
  | j + 1 => by
    show h (14 - j) ++ fl h j = h' (14 - j) ++ fl h' j
    rw [e _ (by omega), fl_congr e j]
def wds (R : Rl) (g : Nat) (st gd : WW → Bool) : Nat → WW → List Nat → List (List Nat)
  | 0, W, pre => if gd W then [pre] else []
  | k + 1, W, pre => fl (fun x => if free R.1 g x && st (handF R g x W) then wds R g st gd k (handF R g x W) (pre ++ [x]) else []) 15
def same (R : Rl) (g x : Nat) (W : WW) : Bool := (List.range 6).all (fun p => decide (handF R g x W p = W p))
theorem same_iff {R : Rl} {g x : Nat} {W : WW} : same R g x W = true ↔ ∀ p, p < 6 → handF R g x W p = W p := by
  unfold same
  rw [List.all_eq_true]
  exact ⟨fun h p hp => of_decide_eq_true (h p (List.mem_range.mpr hp)), fun h p hp => decide_eq_true (h p (List.mem_range.mp hp))⟩
def wdn (R : Rl) (g : Nat) (st gd : WW → Bool) : Nat → WW → List Nat → List (List Nat)
  | 0, W, pre => if gd W then [pre] else []
  | k + 1, W, pre => fl (fun x => if free R.1 g x && (!same R g x W && st (handF R g x W)) then wdn R g st gd k (handF R g x W) (pre ++ [x]) else []) 15
theorem wds_pre {R : Rl} {g : Nat} {st gd : WW → Bool} : ∀ (k : Nat) (W : WW) (p q : List Nat), wds R g st gd k W p = [] → wds R g st gd k W q = []
  | 0, W, p, q, h => by
    have h : (if gd W then [p] else []) = [] := h
    show (if gd W then [q] else []) = []
    cases e : gd W <;> simp [e] at h ⊢
  | k + 1, W, p, q, h => by
    have h := fl_nil15.mp h
    refine fl_nil15.mpr (fun x hx => ?_)
    have h := h x hx
    split
    · rename_i c
      rw [if_pos c] at h
      exact wds_pre k _ _ _ h
    · rfl
theorem wdn_nil {R : Rl} {g : Nat} {st gd : WW → Bool} : ∀ (k : Nat) (W : WW) (p : List Nat), wds R g st gd k W p = [] → wdn R g st gd k W p = []
  | 0, W, p, h => h
  | k + 1, W, p, h => by
    have h := fl_nil15.mp h
    refine fl_nil15.mpr (fun x hx => ?_)
    have h := h x hx
    split
    · rename_i c
      rw [Bool.and_eq_true, Bool.and_eq_true] at c
      rw [if_pos (by rw [c.1, c.2.2]; rfl)] at h
      exact wdn_nil k _ _ h
    · rfl
theorem handF_ne {R : Rl} {g x : Nat} {W : WW} {p : Nat} (h1 : p ≠ les x) (h2 : p ≠ gre x) : handF R g x W p = W p := by
  unfold handF
  split
  · rfl
  · exact if_neg (fun q => q.elim h1 h2)
theorem same_eq {R : Rl} {g x : Nat} {W : WW} (hx : x < 15) (h : same R g x W = true) : handF R g x W = W := by
  have h : ∀ p, p < 6 → handF R g x W p = W p := same_iff.mp h
  obtain ⟨p1, p2, -, -, -⟩ := les_gre x hx
  funext p
  by_cases e : p < 6
  · exact h p e
  · exact handF_ne (by omega) (by omega)
theorem wdn_wds {R : Rl} {g : Nat} {st gd : WW → Bool} : ∀ (k : Nat) (W : WW) (p : List Nat), (∀ j, j < k → ∀ q, wds R g st gd j W q = []) → wdn R g st gd k W p = wds R g st gd k W p
  | 0, W, p, _ => rfl
  | k + 1, W, p, h => by
    show fl _ 15 = fl _ 15
    apply fl_congr
    intro x hx
    by_cases c : (free R.1 g x && st (handF R g x W)) = true
    · rw [if_pos c]
      rw [Bool.and_eq_true] at c
      by_cases s : same R g x W = true
      · rw [if_neg (by simp [s]), same_eq hx s, h k (by omega)]
      · have s : same R g x W = false := by simpa using s
        rw [if_pos (by rw [c.1, c.2, s]; rfl)]
        apply wdn_wds
        intro j hj q
        have h := fl_nil15.mp (h (j + 1) (by omega) []) x hx
        rw [if_pos (by rw [c.1, c.2]; rfl)] at h
        exact wds_pre _ _ _ _ h
    · rw [if_neg c, if_neg (fun d => c (by simp only [Bool.and_eq_true] at d ⊢; exact ⟨d.1, d.2.2⟩))]
theorem pop_mend : ∀ w, w < 64 → ∀ x, x < 15 → popN 16 w ≤ popN 16 (w &&& com x) + 2 ∧ popN 16 (w &&& com x) ≤ popN 16 w := by decide +kernel
def OkA (am : WW → Nat) : Prop := (∀ W, am W < 64) ∧ ∀ W V p, p < 6 → W p = V p → (am W).testBit p = (am V).testBit p
theorem am_com {R : Rl} {g x : Nat} {am : WW → Nat} (h : OkA am) (hx : x < 15) (W : WW) : am (handF R g x W) &&& com x = am W &&& com x := by
  apply Nat.eq_of_testBit_eq
  intro i
  rw [Nat.testBit_and, Nat.testBit_and]
  by_cases e : i < 6
  · by_cases q : i = les x ∨ i = gre x
    · have : (com x).testBit i = false := by
        unfold com
        rw [com_bit (by omega), or_bit, Nat.testBit_two_pow]
        rcases q with q | q <;> simp [q]
      rw [this, Bool.and_false, Bool.and_false]
    · rw [h.2 _ W i e (handF_ne (fun r => q (Or.inl r)) (fun r => q (Or.inr r)))]
  · have e1 : ∀ w, w < 64 → w.testBit i = false := fun w hw => Nat.testBit_lt_two_pow (Nat.lt_of_lt_of_le hw (Nat.pow_le_pow_right (n := 2) (by decide) (show 6 ≤ i by omega)))
    rw [e1 _ (h.1 _), e1 _ (h.1 _)]
def gdA (am : WW → Nat) (W : WW) : Bool := decide (am W = 0)
theorem wds_mend {R : Rl} {g : Nat} {st : WW → Bool} {am : WW → Nat} (h : OkA am) : ∀ (k : Nat) (W : WW) (p : List Nat), 2 * k < popN 16 (am W) → wds R g st (gdA am) k W p = []
  | 0, W, p, hk => by
    show (if gdA am W then [p] else []) = []
    refine if_neg (fun e => ?_)
    have e : am W = 0 := of_decide_eq_true e
    rw [e] at hk
    exact absurd hk (by decide)
  | k + 1, W, p, hk => by
    refine fl_nil15.mpr (fun x hx => ?_)
    split
    · apply wds_mend h k
      have a1 := (pop_mend _ (h.1 W) x hx).1
      have a2 := (pop_mend _ (h.1 (handF R g x W)) x hx).2
      rw [am_com h hx W] at a2
      omega
    · rfl
theorem wds_cut {R : Rl} {g : Nat} {st : WW → Bool} {am : WW → Nat} (h : OkA am) {k x : Nat} {W : WW} {p : List Nat} (hx : x < 15) (hk : 2 * k < popN 16 (am W &&& com x)) : wds R g st (gdA am) k (handF R g x W) p = [] := by
  apply wds_mend h
  have a2 := (pop_mend _ (h.1 (handF R g x W)) x hx).2
  rw [am_com h hx W] at a2
  omega
theorem fl_all {h : Nat → List (List Nat)} {Q : List Nat → Prop} (a : ∀ x, x < 15 → ∀ w ∈ h x, Q w) : ∀ j, ∀ w ∈ fl h j, Q w
  | 0, w, hw => absurd hw (List.not_mem_nil)
  | j + 1, w, hw => by
    have hw : w ∈ h (14 - j) ++ fl h j := hw
    rcases List.mem_append.mp hw with q | q
    · exact a _ (by omega) w q
    · exact fl_all a j w q
theorem wds_len {R : Rl} {g : Nat} {st gd : WW → Bool} : ∀ (k : Nat) (W : WW) (p w : List Nat), w ∈ wds R g st gd k W p → w.length = p.length + k
  | 0, W, p, w, h => by
    have h : w ∈ (if gd W then [p] else []) := h
    split at h
    · rw [List.mem_singleton.mp h]; rfl
    · exact absurd h List.not_mem_nil
  | k + 1, W, p, w, h => by
    refine fl_all (Q := fun w => w.length = p.length + (k + 1)) (fun x hx w hw => ?_) 15 w h
    split at hw
    · rw [wds_len k _ _ _ hw, List.length_append]
      simp only [List.length_cons, List.length_nil]
      omega
    · exact absurd hw List.not_mem_nil
theorem fl_cnt {h : Nat → List (List Nat)} {c : Nat} (a : ∀ x, x < 15 → (h x).length ≤ c) : ∀ j, (fl h j).length ≤ j * c
  | 0 => by simp [fl]
  | j + 1 => by
    show (h (14 - j) ++ fl h j).length ≤ _
    have := fl_cnt a j
    have := a (14 - j) (by omega)
    rw [List.length_append, Nat.succ_mul]
    omega
theorem wds_cnt {R : Rl} {g : Nat} {st gd : WW → Bool} : ∀ (k : Nat) (W : WW) (p : List Nat), (wds R g st gd k W p).length ≤ 15 ^ k
  | 0, W, p => by
    show (if gd W then [p] else []).length ≤ 1
    split <;> simp
  | k + 1, W, p => by
    rw [Nat.pow_succ, Nat.mul_comm]
    refine fl_cnt (fun x hx => ?_) 15
    split
    · exact wds_cnt k _ _
    · exact Nat.zero_le _
def msk (w : List Nat) : Nat := w.foldl (fun v x => v ||| 2 ^ x) 0
theorem msk_snoc (w : List Nat) (x : Nat) : msk (w ++ [x]) = msk w ||| 2 ^ x := by unfold msk; rw [List.foldl_append]; rfl
abbrev Ac : Type := Nat × Nat × Nat × List Nat
def push (stp : Bool) (a : Ac) (w : List Nat) : Ac := if stp && decide (0 < a.1) then a else (a.1 + 1, if a.1 = 0 then msk w else a.2.1 &&& msk w, a.2.2.1 ||| msk w, if a.1 = 0 then w else a.2.2.2)
def pall (stp : Bool) (a : Ac) (l : List (List Nat)) : Ac := l.foldl (push stp) a
theorem pall_app (stp : Bool) (a : Ac) (l m : List (List Nat)) : pall stp a (l ++ m) = pall stp (pall stp a l) m := List.foldl_append
theorem pall_stop {a : Ac} (h : 0 < a.1) : ∀ l, pall true a l = a
  | [] => rfl
  | w :: l => by
    show pall true (push true a w) l = a
    have : push true a w = a := if_pos (by simp [h])
    rw [this]
    exact pall_stop h l
theorem pall_ge {stp : Bool} : ∀ (l : List (List Nat)) (a : Ac), a.1 ≤ (pall stp a l).1 ∧ (pall stp a l).1 ≤ a.1 + l.length
  | [], a => ⟨Nat.le_refl _, Nat.le_refl _⟩
  | w :: l, a => by
    have := pall_ge (stp := stp) l (push stp a w)
    have e : a.1 ≤ (push stp a w).1 ∧ (push stp a w).1 ≤ a.1 + 1 := by
      unfold push
      split <;> simp
    show _ ≤ (pall stp (push stp a w) l).1 ∧ (pall stp (push stp a w) l).1 ≤ _
    rw [List.length_cons]
    omega
theorem pall_cnt : ∀ (l : List (List Nat)) (a : Ac), (pall false a l).1 = a.1 + l.length
  | [], a => rfl
  | w :: l, a => by
    show (pall false (push false a w) l).1 = _
    rw [pall_cnt l, List.length_cons]
    show a.1 + 1 + _ = _
    omega
theorem pall_hd (w : List Nat) (l : List (List Nat)) : pall true (0, 0, 0, []) (w :: l) = (1, msk w, 0 ||| msk w, w) := pall_stop (a := (1, msk w, 0 ||| msk w, w)) Nat.one_pos l
end
section
/-! SEARCH: the reference's rows of hands -/
theorem v15 {x : Nat} (hx : x < 15) : vp_in (nI x) 15 := vp_in_nI hx (by decide)
theorem v4 {x : Nat} (hx : x < 4) : vp_in (nI x) 4 := vp_in_nI hx (by decide)
theorem z_b (b : Bool) : (nI (if b then 1 else 0) = 0) ↔ b = false := by cases b <;> decide
theorem m_isFreePair (n : Nat) {M : Mem} {R : Rl} (hR : OkR R) (hC : MC M R) {g x : Nat} (h38 : M.1 0 38 = nI g) (hg : g < 64) (hx : x < 15) : X_Model_isFreePair n (nI x) M = some (if free R.1 g x then 1 else 0, M) := by
  obtain ⟨c1, c2⟩ := hC.2.2.2.2.2.2.2.2 x hx
  obtain ⟨p1, p2, -, -, -⟩ := les_gre x hx
  have hP := hR.2.1
  unfold X_Model_isFreePair
  rw [gd_in (v15 hx), gd_in (v15 hx), gd_in (v15 hx), nI_clamp (by omega), c1, c2, h38, hC.1, b_is (by omega) (by omega), b_is (by omega) (by omega)]
  by_cases e : gre x < R.1
  · rw [if_neg (nI_ge e (by omega))]
    unfold free
    rw [decide_eq_true e]
    cases e1 : g.testBit (les x) <;> cases e2 : g.testBit (gre x) <;> rfl
  · rw [if_pos (nI_le (by omega) (by omega)), if_neg (by simp [free, e])]
theorem m_freeFrom_L (n : Nat) {M : Mem} {R : Rl} (hR : OkR R) (hC : MC M R) {g : Nat} (h38 : M.1 0 38 = nI g) (hg : g < 64) : ∀ (j f : Nat), j ≤ 15 → j < f → ∃ i, X_Model_freeFrom_L2 n f (nI (15 - j)) M = some (nI (15 - i), M) ∧ i ≤ j ∧ (i = 0 ∨ free R.1 g (15 - i) = true) ∧ ∀ h : Nat → List (List Nat), (∀ x, x < 15 → free R.1 g x = false → h x = []) → fl h j = fl h i := by
  intro j
  induction j with
  | zero =>
    intro f h1 h2
    obtain ⟨f, rfl⟩ : ∃ q, f = q + 1 := ⟨f - 1, by omega⟩
    exact ⟨0, by show (if (15 : Int32) ≤ nI 15 then _ else _) = _; rw [if_pos (by decide)], Nat.le_refl _, Or.inl rfl, fun h _ => rfl⟩
  | succ j ih =>
    intro f h1 h2
    obtain ⟨f, rfl⟩ : ∃ q, f = q + 1 := ⟨f - 1, by omega⟩
    by_cases e : free R.1 g (15 - (j + 1)) = true
    · refine ⟨j + 1, ?_, Nat.le_refl _, Or.inr e, fun h _ => rfl⟩
      show (if (15 : Int32) ≤ nI (15 - (j + 1)) then _ else bd (X_Model_isFreePair n (nI (15 - (j + 1))) M) fun r1 M2 => _) = _
      rw [if_neg (show ¬ (15 : Int32) ≤ nI (15 - (j + 1)) from nI_ge (b := 15) (by omega) (by decide)), m_isFreePair n hR hC h38 hg (by omega), bd_ret, if_pos e]
      exact if_neg (by decide)
    · obtain ⟨i, a1, a2, a3, a4⟩ := ih f (by omega) (by omega)
      refine ⟨i, ?_, by omega, a3, fun h hh => ?_⟩
      · show (if (15 : Int32) ≤ nI (15 - (j + 1)) then _ else bd (X_Model_isFreePair n (nI (15 - (j + 1))) M) fun r1 M2 => (if r1 = 0 then X_Model_freeFrom_L2 n f (nI (15 - (j + 1)) + 1) M2 else _)) = _
        rw [if_neg (show ¬ (15 : Int32) ≤ nI (15 - (j + 1)) from nI_ge (b := 15) (by omega) (by decide)), m_isFreePair n hR hC h38 hg (by omega), bd_ret, if_neg e, if_pos rfl, nI_1, show 15 - (j + 1) + 1 = 15 - j by omega]
        exact a1
      · show h (14 - j) ++ fl h j = _
        rw [hh (14 - j) (by omega) (by rw [show 14 - j = 15 - (j + 1) by omega]; exact Bool.eq_false_iff.mpr e), a4 h hh]
        rfl
theorem m_freeFrom (n : Nat) (hn : 20 ≤ n) {M : Mem} {R : Rl} (hR : OkR R) (hC : MC M R) {g : Nat} (h38 : M.1 0 38 = nI g) (hg : g < 64) {j : Nat} (hj : j ≤ 15) : ∃ i, X_Model_freeFrom n (nI (15 - j)) M = some (nI (15 - i), M) ∧ i ≤ j ∧ (i = 0 ∨ free R.1 g (15 - i) = true) ∧ ∀ h : Nat → List (List Nat), (∀ x, x < 15 → free R.1 g x = false → h x = []) → fl h j = fl h i := m_freeFrom_L n hR hC h38 hg j n hj (by omega)
def RA (M : Mem) (a : Ac) : Prop := M.1 0 43 = nI a.1 ∧ M.1 0 44 = nI a.2.1 ∧ M.1 0 45 = nI a.2.2.1 ∧ ∀ i x, a.2.2.2[i]? = some x → M.1 18 i = nI x
theorem RA.fr {P : Nat → Nat → Prop} {M M' : Mem} {a : Ac} (h : RA M a) (ho : Fr P M M') (h1 : ∀ k, 43 ≤ k → k ≤ 45 → ¬ P 0 k) (h2 : ∀ k, ¬ P 18 k) : RA M' a := ⟨by rw [(ho 0 43 (h1 _ (by omega) (by omega))).1]; exact h.1, by rw [(ho 0 44 (h1 _ (by omega) (by omega))).1]; exact h.2.1, by rw [(ho 0 45 (h1 _ (by omega) (by omega))).1]; exact h.2.2.1, fun i x hi => by rw [(ho 18 i (h2 i)).1]; exact h.2.2.2 i x hi⟩
def ar (c k : Nat) : Prop := c = 18 ∨ (c = 0 ∧ 43 ≤ k ∧ k ≤ 45)
def Dg (M : Mem) (w : List Nat) : Prop := ∀ i x, w[i]? = some x → M.1 17 i = nI x
theorem take_snoc {w : List Nat} {i x : Nat} (h : w[i]? = some x) : w.take (i + 1) = w.take i ++ [x] := by
  rw [List.take_add_one, h]; rfl
theorem m_aRow_L (n : Nat) {M0 : Mem} {w : List Nat} (hw : w.length ≤ 4) (h15 : ∀ x ∈ w, x < 15) (hD : Dg M0 w) {c : Nat} (hc : M0.1 0 43 = nI c) (hc2 : c < 2 ^ 31) (kx : Int32 → Mem → Option (Unit × Mem)) : ∀ (d i f : Nat) (M : Mem), i + d = w.length → d < f → Fr (fun c _ => c = 18) M0 M → (c = 0 → ∀ k x, k < i → w[k]? = some x → M.1 18 k = nI x) → (c ≠ 0 → ∀ k, M.1 18 k = M0.1 18 k) → ∃ M', X_Model_aRow_L4 n (nI w.length) kx f (nI (msk (w.take i))) (nI i) M = kx (nI (msk w)) M' ∧ Fr (fun c _ => c = 18) M0 M' ∧ (c = 0 → ∀ k x, w[k]? = some x → M'.1 18 k = nI x) ∧ (c ≠ 0 → ∀ k, M'.1 18 k = M0.1 18 k) := by
  intro d
  induction d with
  | zero =>
    intro i f M h1 h2 h3 h4 h5
    obtain ⟨f, rfl⟩ : ∃ q, f = q + 1 := ⟨f - 1, by omega⟩
    refine ⟨M, ?_, h3, fun e k x hk => h4 e k x ?_ hk, h5⟩
    · show (if nI w.length ≤ nI i then _ else _) = _
      rw [if_pos (nI_le (by omega) (by omega)), List.take_of_length_le (by omega)]
    · have := (List.getElem?_eq_some_iff.mp hk).1
      omega
  | succ d ih =>
    intro i f M h1 h2 h3 h4 h5
    obtain ⟨f, rfl⟩ : ∃ q, f = q + 1 := ⟨f - 1, by omega⟩
    have hi : i < w.length := by omega
    have hx : w[i]? = some w[i] := List.getElem?_eq_getElem hi
    have hx15 : w[i] < 15 := h15 _ (List.getElem_mem hi)
    have e17 : M.1 17 i = nI w[i] := by rw [(h3 17 i (fun q : 17 = 18 => absurd q (by decide))).1]; exact hD i _ hx
    have e43 : M.1 0 43 = nI c := by rw [(h3 0 43 (by decide)).1]; exact hc
    have em : nI (msk (w.take i)) ||| ((1 : Int32) <<< ((M.1 17 i) &&& 31)) = nI (msk (w.take (i + 1))) := by
      rw [e17, i_shl1 (by omega), i_or, take_snoc hx, msk_snoc]
    generalize hV : (if c = 0 then nI w[i] else M.1 18 i) = V
    obtain ⟨M', a1, a2, a3, a4⟩ := ih (i + 1) f (si M 18 i V) (by omega) (by omega) (h3.trans (Fr.si rfl)) (fun e k x hk hkx => by
        by_cases q : k = i
        · subst q
          rw [si_at, ← hV, if_pos e]
          rw [hx] at hkx
          rw [Option.some.inj hkx]
        · rw [si_ne (Or.inr q)]
          exact h4 e k x (by omega) hkx) (fun e k => by
        by_cases q : k = i
        · subst q
          rw [si_at, ← hV, if_neg e]
          exact h5 e k
        · rw [si_ne (Or.inr q)]
          exact h5 e k)
    refine ⟨M', ?_, a2, a3, a4⟩
    rw [← a1]
    show (if nI w.length ≤ nI i then _ else gd (nI i) 4 (nm (nI (msk (w.take i)) ||| ((1 : Int32) <<< ((M.1 17 (nI i).toNatClampNeg) &&& 31))) fun x1 =>
      nm (fun (u2 : Int32) => (gd (nI i) 4 (X_Model_aRow_L4 n (nI w.length) kx f x1 (nI i + 1) (si M 18 ((nI i).toNatClampNeg) u2)) : Option (Unit × Mem))) fun k47 =>
      (if (M.1 0 43) = 0 then gd (nI i) 4 (k47 (M.1 17 (nI i).toNatClampNeg)) else gd (nI i) 4 (k47 (M.1 18 (nI i).toNatClampNeg))))) = _
    simp only [nm]
    rw [if_neg (nI_ge hi (by omega)), gd_in (v4 (by omega)), gd_in (v4 (by omega)), gd_in (v4 (by omega)), gd_in (v4 (by omega)), gd_in (v4 (by omega)), nI_clamp (by omega), em, nI_1, e43, e17]
    by_cases e : c = 0
    · rw [if_pos (by rw [e]; rfl), ← hV, if_pos e]
    · rw [if_neg (fun q => e ((i_z hc2).mp q)), ← hV, if_neg e]
theorem m_aRow (n : Nat) (hn : 20 ≤ n) {M : Mem} {w : List Nat} {a : Ac} (hw : w.length ≤ 4) (h15 : ∀ x ∈ w, x < 15) (hD : Dg M w) (hA : RA M a) (hc : a.1 < 2 ^ 31) : ∃ M', X_Model_aRow n (nI w.length) M = some ((), M') ∧ RA M' (push false a w) ∧ Fr ar M M' := by
  obtain ⟨M2, a1, a2, a3, a4⟩ := m_aRow_L n hw h15 hD hA.1 hc (fun y3 M4 => nm (fun (u5 : Int32) => (nm (si M4 0 44 u5) fun N6 =>
        nm (si N6 0 45 ((N6.1 0 45) ||| y3)) fun N7 =>
        some ((), si N7 0 43 ((N7.1 0 43) + 1)) : Option (Unit × Mem))) fun k72 =>
    (if (M4.1 0 43) = 0 then
      k72 y3
      else
      k72 ((M4.1 0 44) &&& y3))) w.length 0 n M (by omega) (by omega) Fr.rf (fun _ k x hk _ => absurd hk (Nat.not_lt_zero k)) (fun _ k => rfl)
  have e43 : M2.1 0 43 = nI a.1 := by rw [(a2 0 43 (by decide)).1]; exact hA.1
  have e44 : M2.1 0 44 = nI a.2.1 := by rw [(a2 0 44 (by decide)).1]; exact hA.2.1
  have e45 : M2.1 0 45 = nI a.2.2.1 := by rw [(a2 0 45 (by decide)).1]; exact hA.2.2.1
  refine ⟨si (si (si M2 0 44 (nI (if a.1 = 0 then msk w else a.2.1 &&& msk w))) 0 45 (nI (a.2.2.1 ||| msk w))) 0 43 (nI (a.1 + 1)), ?_, ⟨si_at _ _ _ _, ?_, ?_, ?_⟩, ?_⟩
  · unfold X_Model_aRow
    refine Eq.trans a1 ?_
    simp only [nm]
    rw [e43, e44]
    by_cases e : a.1 = 0
    · rw [if_pos (by rw [e]; rfl), if_pos e]
      rw [si_ne (by decide), si_ne (by decide), si_ne (by decide), e43, e45, i_or, nI_1]
    · rw [if_neg (fun q => e ((i_z hc).mp q)), if_neg e]
      rw [si_ne (by decide), si_ne (by decide), si_ne (by decide), e43, e45, i_or, i_and, nI_1]
  · rw [si_ne (by decide), si_ne (by decide), si_at]; rfl
  · rw [si_ne (by decide), si_at]; rfl
  · intro i x hi
    rw [si_ne (Or.inl (by decide)), si_ne (Or.inl (by decide)), si_ne (Or.inl (by decide))]
    have hi : (if a.1 = 0 then w else a.2.2.2)[i]? = some x := hi
    by_cases e : a.1 = 0
    · rw [if_pos e] at hi
      exact a3 e i x hi
    · rw [if_neg e] at hi
      rw [a4 e i]
      exact hA.2.2.2 i x hi
  · exact (((a2.mono (fun c k h => Or.inl h)).trans (Fr.si (Or.inr (by decide)))).trans (Fr.si (Or.inr (by decide)))).trans (Fr.si (Or.inr (by decide)))
end
section
/-! SEARCH: the reference's odometer -/
def lrNext (n : Nat) (a1 a2 : Int32) (m : Nat) (v3 : Int32) (M19 : Mem) : Option (Int32 × Mem) := gd v3 4 (bd (X_Model_freeFrom n ((M19.1 17 v3.toNatClampNeg) + 1) M19) fun r20 M21 => gd v3 4 (X_Model_layRows_L73 n a1 a2 m v3 (si M21 17 (v3.toNatClampNeg) r20)))
def lrGood (n : Nat) (a1 a2 : Int32) (m : Nat) (v3 r15 : Int32) (M16 : Mem) : Option (Int32 × Mem) := if r15 = 0 then lrNext n a1 a2 m v3 M16 else bd (X_Model_isGood n (v3 + 1) M16) fun r22 M23 => if r22 = 0 then lrNext n a1 a2 m v3 M23 else bd (X_Model_aRow n a1 M23) fun _ M25 => lrNext n a1 a2 m v3 M25
def lrThen (n : Nat) (a1 a2 : Int32) (m : Nat) (v3 r15 : Int32) (M16 : Mem) : Option (Int32 × Mem) := if r15 = 0 then lrGood n a1 a2 m v3 r15 M16 else if a1 ≤ v3 + 1 then lrGood n a1 a2 m v3 r15 M16 else bd (X_Model_freeFrom n 0 M16) fun r26 M27 => gd (v3 + 1) 4 (X_Model_layRows_L73 n a1 a2 m (v3 + 1) (si M27 17 ((v3 + 1).toNatClampNeg) r26))
def lrDo (n : Nat) (a1 a2 : Int32) (m : Nat) (v3 : Int32) (M : Mem) : Option (Int32 × Mem) := bd (X_Model_copies n (v3 + 1) v3 M) fun _ M12 => gd v3 4 (bd (X_Model_shakes n (v3 + 1) (M12.1 17 v3.toNatClampNeg) 0 M12) fun _ M14 => bd (X_Model_isStill n (v3 + 1) M14) fun r15 M16 => lrThen n a1 a2 m v3 r15 M16)
def lrUp (n : Nat) (a1 a2 : Int32) (m : Nat) (v3 : Int32) (M : Mem) : Option (Int32 × Mem) := if (v3 + (-1)) < 0 then X_Model_layRows_L73 n a1 a2 m (v3 + (-1)) M else gd (v3 + (-1)) 4 (bd (X_Model_freeFrom n ((M.1 17 (v3 + (-1)).toNatClampNeg) + 1) M) fun r28 M29 => gd (v3 + (-1)) 4 (X_Model_layRows_L73 n a1 a2 m (v3 + (-1)) (si M29 17 ((v3 + (-1)).toNatClampNeg) r28)))
def lrK (n : Nat) (a1 a2 : Int32) (m : Nat) (v3 : Int32) (M : Mem) : Option (Int32 × Mem) := gd v3 4 (if (M.1 17 v3.toNatClampNeg) = 15 then lrUp n a1 a2 m v3 M else lrDo n a1 a2 m v3 M)
theorem L73_eq (n : Nat) (a1 a2 : Int32) (m : Nat) (v3 : Int32) (M : Mem) : X_Model_layRows_L73 n a1 a2 (m + 1) v3 M = if v3 < 0 then some ((M.1 0 43), M) else if a2 = 0 then lrK n a1 a2 m v3 M else if 0 < (M.1 0 43) then some ((M.1 0 43), M) else lrK n a1 a2 m v3 M := rfl
theorem L73_go {n : Nat} {a1 a2 : Int32} {m d : Nat} {M : Mem} (hd : d < 2 ^ 31) (h : a2 = 0 ∨ ¬ 0 < M.1 0 43) : X_Model_layRows_L73 n a1 a2 (m + 1) (nI d) M = lrK n a1 a2 m (nI d) M := by
  rw [L73_eq, if_neg (nI_pos hd)]
  by_cases e : a2 = 0
  · rw [if_pos e]
  · rw [if_neg e, if_neg (h.resolve_left e)]
def Kr (S : Ab) (v : Nat → Int32) (M : Mem) : Prop := MA M S ∧ M.1 0 38 = nI S.A.gl ∧ ∀ k, 39 ≤ k → k ≤ 42 → M.1 0 k = v k
def mg (d : Nat) (c k : Nat) : Prop := mk c k ∨ (c = 15 ∧ 60 * (d + 1) ≤ k)
def mf (d : Nat) (c k : Nat) : Prop := mg d c k ∨ (c = 17 ∧ d ≤ k) ∨ ar c k
theorem mf_S {d c k : Nat} (h : mf d c k) : mS c k ∧ ¬ (c = 0 ∧ 38 ≤ k ∧ k ≤ 42) := by
  unfold mf mg mk ar at h
  unfold mS
  omega
theorem Kr.fr {S : Ab} (hS : Ok S) {v : Nat → Int32} {M M' : Mem} {P : Nat → Nat → Prop} (h : Kr S v M) (hP : ∀ c k, P c k → mS c k ∧ ¬ (c = 0 ∧ 38 ≤ k ∧ k ≤ 42)) (ho : Fr P M M') : Kr S v M' :=
  ⟨h.1.fr hS (ho.mono (fun c k q => (hP c k q).1)), by rw [(ho 0 38 (fun q => (hP _ _ q).2 ⟨rfl, by omega, by omega⟩)).1]; exact h.2.1, fun k h1 h2 => by rw [(ho 0 k (fun q => (hP _ _ q).2 ⟨rfl, by omega, by omega⟩)).1]; exact h.2.2 k h1 h2⟩
theorem Dg.fr {P : Nat → Nat → Prop} {M M' : Mem} {w : List Nat} (h : Dg M w) (ho : Fr P M M') (hp : ∀ k, k < w.length → ¬ P 17 k) : Dg M' w := fun i x hi => by
  rw [(ho 17 i (hp i (List.getElem?_eq_some_iff.mp hi).1)).1]
  exact h i x hi
theorem Dg.snoc {M : Mem} {w : List Nat} {x : Nat} (h : Dg M w) (e : M.1 17 w.length = nI x) : Dg M (w ++ [x]) := fun i y hi => by
  by_cases q : i < w.length
  · rw [List.getElem?_append_left q] at hi
    exact h i y hi
  · have hl := (List.getElem?_eq_some_iff.mp hi).1
    rw [List.length_append, List.length_singleton] at hl
    have : i = w.length := by omega
    subst this
    rw [List.getElem?_append_right (Nat.le_refl _), Nat.sub_self] at hi
    rw [e, ← Option.some.inj hi]
theorem hand_free {R : Rl} {g x : Nat} {W : WW} (h : free R.1 g x = true) : handF R 0 x W = handF R g x W := by
  unfold free at h
  simp only [Bool.and_eq_true, Bool.not_eq_true'] at h
  unfold handF
  rw [h.2.1, h.2.2, Nat.zero_testBit, Nat.zero_testBit]
theorem free_P {P g x : Nat} (h : free P g x = true) : gre x < P := by
  unfold free at h
  rw [Bool.and_eq_true] at h
  exact of_decide_eq_true h.1
theorem m_hand1 (n : Nat) (hn : 61 ≤ n) {S : Ab} (hS : Ok S) {M : Mem} (hM : MA M S) {d x : Nat} (hd : d < 4) (hx : free S.R.1 S.A.gl x = true) (h15 : x < 15) {W : WW} (hW : OkW W) (hL : LyM M 15 (60 * d) W) (h17 : M.1 17 d = nI x) : ∃ M2, (∀ (F : Mem → Option (Int32 × Mem)), (bd (X_Model_copies n (nI d + 1) (nI d) M) fun _ M12 => gd (nI d) 4 (bd (X_Model_shakes n (nI d + 1) (M12.1 17 (nI d).toNatClampNeg) 0 M12) fun _ M14 => F M14)) = F M2) ∧ Fr (mg d) M M2 ∧ LyM M2 15 (60 * (d + 1)) (handF S.R S.A.gl x W) := by
  have f1 : Fr (mg d) M (cpI M 15 (60 * d) 15 (60 * (d + 1)) 60) := Fr.cpI (fun k h1 h2 => Or.inr ⟨rfl, h1⟩)
  have mgS : ∀ c k, mg d c k → mS c k := fun c k q => (mf_S (d := d) (Or.inl q)).1
  obtain ⟨M2, a1, a2, a3⟩ := m_shakes n (by omega) hS.hR (hM.fr hS (f1.mono mgS)).c (L := d + 1) (by omega) hW (LyM.cp hL hW) (g := 0) (x := x) (by decide) h15
  refine ⟨M2, fun F => ?_, f1.trans (a2.mono (fun c k q => q.elim Or.inl (fun r => Or.inr ⟨r.1, r.2.1⟩))), ?_⟩
  · rw [nI_1, m_copies n hn (by omega) (by omega), bd_ret, gd_in (v4 hd), nI_clamp (by omega)]
    rw [show (cpI M 15 (60 * d) 15 (60 * (d + 1)) 60).1 17 d = nI x from h17]
    rw [show (0 : Int32) = nI 0 from rfl, a1]
    rfl
  · rw [← hand_free hx]
    exact a3
theorem m_adv (n : Nat) (hn : 20 ≤ n) {S : Ab} (hS : Ok S) {v : Nat → Int32} {M : Mem} (hM : Kr S v M) {d j : Nat} (hd : d < 4) (hj : j < 15) (h17 : M.1 17 d = nI (15 - (j + 1))) : ∃ i, i ≤ j ∧ (i = 0 ∨ free S.R.1 S.A.gl (15 - i) = true) ∧ (∀ h : Nat → List (List Nat), (∀ x, x < 15 → free S.R.1 S.A.gl x = false → h x = []) → fl h j = fl h i) ∧ ∀ (F : Int32 → Mem → Option (Int32 × Mem)), gd (nI d) 4 (bd (X_Model_freeFrom n ((M.1 17 (nI d).toNatClampNeg) + 1) M) fun r20 M21 => gd (nI d) 4 (F r20 M21)) = F (nI (15 - i)) M := by
  obtain ⟨i, a1, a2, a3, a4⟩ := m_freeFrom n hn hS.hR hM.1.c hM.2.1 hS.gl (j := j) (by omega)
  refine ⟨i, a2, a3, a4, fun F => ?_⟩
  rw [gd_in (v4 hd), nI_clamp (by omega), h17, nI_1, show 15 - (j + 1) + 1 = 15 - j by omega, a1, bd_ret, gd_in (v4 hd)]
def Tc : Nat → Nat
  | 0 => 1
  | k + 1 => 2 + 15 * Tc k
theorem d_m1 : ∀ d, d < 10 → nI (d + 1) + (-1) = nI d := by decide +kernel
end
section
/-! SEARCH: all the reference's rows -/
def HH (R : Rl) (g : Nat) (st : WW → Bool) (am : WW → Nat) (k : Nat) (W : WW) (pre : List Nat) (x : Nat) : List (List Nat) := if free R.1 g x && st (handF R g x W) then wds R g st (gdA am) k (handF R g x W) (pre ++ [x]) else []
theorem HH_free {R : Rl} {g : Nat} {st : WW → Bool} {am : WW → Nat} {k : Nat} {W : WW} {pre : List Nat} {x : Nat} (h : free R.1 g x = false) : HH R g st am k W pre x = [] := if_neg (by rw [h, Bool.false_and]; decide)
theorem fl_s (h : Nat → List (List Nat)) {i : Nat} : fl h (i + 1) = h (15 - (i + 1)) ++ fl h i := by
  rw [show 15 - (i + 1) = 14 - i by omega]; rfl
theorem push_ns {stp : Bool} {a : Ac} {w : List Nat} (h : ¬ (stp = true ∧ 0 < a.1)) : pall stp a [w] = push false a w := by
  show push stp a w = push false a w
  unfold push
  have h2 : ¬ (stp && decide (0 < a.1)) = true := fun q => by
    rw [Bool.and_eq_true] at q
    exact h ⟨q.1, of_decide_eq_true q.2⟩
  have h3 : ¬ (false && decide (0 < a.1)) = true := by rw [Bool.false_and]; decide
  rw [if_neg h2, if_neg h3]
theorem pall_st {stp : Bool} {a : Ac} (h : stp = true ∧ 0 < a.1) (l : List (List Nat)) : pall stp a l = a := by
  rw [h.1]; exact pall_stop h.2 l
theorem mf_mono {d c k : Nat} (h : mf (d + 1) c k) : mf d c k := by
  unfold mf mg mk ar at *
  omega
theorem m_L73 (n : Nat) (hn : 61 ≤ n) {S : Ab} (hS : Ok S) {v : Nat → Int32} {am : WW → Nat} {st : WW → Bool}
    (hG : ∀ M W L, L < 10 → Kr S v M → OkW W → LyM M 15 (60 * L) W → X_Model_isGood n (nI L) M = some (if am W = 0 then 1 else 0, M))
    (hT : ∀ M W L, L < 10 → Kr S v M → OkW W → LyM M 15 (60 * L) W → X_Model_isStill n (nI L) M = some (if st W then 1 else 0, M))
    {N : Nat} (hN : N ≤ 4) {p2 : Int32} {stp : Bool} (hp : p2 = 0 ↔ stp = false) : ∀ k d, d + k + 1 = N → ∀ (J j : Nat) (M : Mem) (W : WW) (pre : List Nat) (a : Ac), j ≤ J → j ≤ 15 → (j = 0 ∨ free S.R.1 S.A.gl (15 - j) = true) → Kr S v M → OkW W → LyM M 15 (60 * d) W → pre.length = d → (∀ x ∈ pre, x < 15) → Dg M pre → M.1 17 d = nI (15 - j) → RA M a → ¬ (stp = true ∧ 0 < a.1) → a.1 + j * 15 ^ k < 2 ^ 31 →
    ∃ c d' M', c ≤ j * Tc k ∧ (∀ m, X_Model_layRows_L73 n (nI N) p2 (m + c) (nI d) M = X_Model_layRows_L73 n (nI N) p2 m d' M') ∧ Fr (mf d) M M' ∧ RA M' (pall stp a (fl (HH S.R S.A.gl st am k W pre) j)) ∧ (¬ (stp = true ∧ 0 < (pall stp a (fl (HH S.R S.A.gl st am k W pre) j)).1) → d' = nI d ∧ M'.1 17 d = nI 15) := by
  intro k
  induction k using Nat.strongRecOn with
  | ind k ihk =>
  intro d hd J
  have d4 : d < 4 := by omega
  induction J with
  | zero =>
    intro j M W pre a hj h15 hf hM hW hL hpl hpx hD h17 hA hs hb
    obtain rfl : j = 0 := by omega
    exact ⟨0, nI d, M, by omega, fun m => rfl, Fr.rf, hA, fun _ => ⟨rfl, h17⟩⟩
  | succ J ihJ =>
    intro j M W pre a hj h15 hf hM hW hL hpl hpx hD h17 hA hs hb
    by_cases j0 : j = 0
    · subst j0
      exact ⟨0, nI d, M, by omega, fun m => rfl, Fr.rf, hA, fun _ => ⟨rfl, h17⟩⟩
    obtain ⟨i, rfl⟩ : ∃ i, j = i + 1 := ⟨j - 1, by omega⟩
    have hfr := hf.resolve_left j0
    have x15 : 15 - (i + 1) < 15 := by omega
    generalize hx : 15 - (i + 1) = x at hfr x15 h17
    have mgS : ∀ c k, mg d c k → mS c k ∧ ¬ (c = 0 ∧ 38 ≤ k ∧ k ≤ 42) := fun c k q => mf_S (d := d) (Or.inl q)
    have mfS : ∀ c k, mf d c k → mS c k ∧ ¬ (c = 0 ∧ 38 ≤ k ∧ k ≤ 42) := fun c k q => mf_S q
    obtain ⟨M2, g1, g2, g3⟩ := m_hand1 n hn hS hM.1 d4 hfr x15 hW hL h17
    have hK2 : Kr S v M2 := hM.fr hS mgS g2
    have hW2 : OkW (handF S.R S.A.gl x W) := hW.hand hS.hR _ _
    have f2 : Fr (mf d) M M2 := g2.mono (fun c k q => Or.inl q)
    have e17 : M2.1 17 d = nI x := by rw [(g2 17 d (fun q => by unfold mg mk at q; omega)).1]; exact h17
    have hA2 : RA M2 a := hA.fr g2 (fun k h1 h2 q => by unfold mg mk at q; omega) (fun k q => by unfold mg mk at q; omega)
    have hD2 : Dg M2 pre := hD.fr g2 (fun k h1 q => by unfold mg mk at q; omega)
    have hcond : p2 = 0 ∨ ¬ 0 < M.1 0 43 := by
      cases es : stp with
      | false => exact Or.inl (hp.mpr es)
      | true =>
        right
        have : a.1 = 0 := by
          have : ¬ 0 < a.1 := fun q => hs ⟨es, q⟩
          omega
        rw [hA.1, this]
        decide
    have step : ∀ m, X_Model_layRows_L73 n (nI N) p2 (m + 1) (nI d) M = lrThen n (nI N) p2 m (nI d) (if st (handF S.R S.A.gl x W) then 1 else 0) M2 := fun m => by
      rw [L73_go (by omega) hcond]
      unfold lrK
      rw [gd_in (v4 d4), nI_clamp (by omega), h17, if_neg (show ¬ nI x = 15 from fun q => by have := (nI_eq (b := 15) (by omega) (by decide)).mp q; omega)]
      unfold lrDo
      refine (g1 (fun M14 => bd (X_Model_isStill n (nI d + 1) M14) fun r15 M16 => lrThen n (nI N) p2 m (nI d) r15 M16)).trans ?_
      rw [nI_1, hT M2 _ (d + 1) (by omega) hK2 hW2 g3]
      rfl
    have hcnt : (HH S.R S.A.gl st am k W pre x).length ≤ 15 ^ k := by
      unfold HH
      split
      · exact wds_cnt _ _ _
      · exact Nat.zero_le _
    have e1 : fl (HH S.R S.A.gl st am k W pre) (i + 1) = HH S.R S.A.gl st am k W pre x ++ fl (HH S.R S.A.gl st am k W pre) i := by rw [fl_s, hx]
    have hle : (i + 1) * 15 ^ k = i * 15 ^ k + 15 ^ k := Nat.succ_mul _ _
    rw [e1, pall_app]
    have nxt : ∀ M3 a3 c3, Fr (mf d) M M3 → pall stp a (HH S.R S.A.gl st am k W pre x) = a3 → RA M3 a3 → M3.1 17 d = nI x → (∀ m, X_Model_layRows_L73 n (nI N) p2 (m + c3) (nI d) M = lrNext n (nI N) p2 m (nI d) M3) → c3 ≤ Tc k →
        ∃ c d' M', c ≤ (i + 1) * Tc k ∧ (∀ m, X_Model_layRows_L73 n (nI N) p2 (m + c) (nI d) M = X_Model_layRows_L73 n (nI N) p2 m d' M') ∧ Fr (mf d) M M' ∧ RA M' (pall stp (pall stp a (HH S.R S.A.gl st am k W pre x)) (fl (HH S.R S.A.gl st am k W pre) i)) ∧ (¬ (stp = true ∧ 0 < (pall stp (pall stp a (HH S.R S.A.gl st am k W pre x)) (fl (HH S.R S.A.gl st am k W pre) i)).1) → d' = nI d ∧ M'.1 17 d = nI 15) := by
      intro M3 a3 c3 f3 ea hA3 h3 hst hc3
      rw [ea]
      have hK3 : Kr S v M3 := hM.fr hS mfS f3
      obtain ⟨i', b1, b2, b3, b4⟩ := m_adv n (by omega) hS hK3 d4 (j := i) (by omega) (by rw [hx]; exact h3)
      have eN : ∀ m, lrNext n (nI N) p2 m (nI d) M3 = X_Model_layRows_L73 n (nI N) p2 m (nI d) (si M3 17 d (nI (15 - i'))) := fun m => by
        unfold lrNext
        refine (b4 (fun r M => X_Model_layRows_L73 n (nI N) p2 m (nI d) (si M 17 ((nI d).toNatClampNeg) r))).trans ?_
        rw [nI_clamp (by omega)]
      have f4 : Fr (mf d) M3 (si M3 17 d (nI (15 - i'))) := Fr.si (Or.inr (Or.inl ⟨rfl, Nat.le_refl _⟩))
      have hA4 : RA (si M3 17 d (nI (15 - i'))) a3 := hA3.fr (P := fun c _ => c = 17) (Fr.si rfl) (fun k _ _ q => absurd q (by decide)) (fun k q => absurd q (by decide))
      by_cases hs3 : stp = true ∧ 0 < a3.1
      · refine ⟨c3, nI d, _, ?_, fun m => (hst m).trans (eN m), f3.trans f4, ?_, fun q => ?_⟩
        · rw [Nat.succ_mul]; omega
        · rw [pall_st hs3]; exact hA4
        · rw [pall_st hs3] at q
          exact absurd hs3 q
      · have hf5 := f3.trans f4
        have hb3 : a3.1 ≤ a.1 + 15 ^ k := by
          rw [← ea]
          have := (pall_ge (stp := stp) (HH S.R S.A.gl st am k W pre x) a).2
          omega
        have hb4 : i' * 15 ^ k ≤ i * 15 ^ k := Nat.mul_le_mul_right _ b1
        obtain ⟨c, d', M', c1, c2, c3', c4, c5⟩ := ihJ i' (si M3 17 d (nI (15 - i'))) W pre a3 (by omega) (by omega) b2 (hM.fr hS mfS hf5) hW (hL.fr hW hf5 (fun k h1 h2 q => by unfold mf mg mk ar at q; omega)) hpl hpx (hD.fr hf5 (fun k h1 q => by unfold mf mg mk ar at q; omega)) (si_at _ _ _ _) hA4 hs3 (by omega)
        rw [← b3 _ (fun x _ h => HH_free h)] at c4 c5
        refine ⟨c + c3, d', M', ?_, fun m => ?_, hf5.trans c3', c4, c5⟩
        · rw [Nat.succ_mul]
          have := Nat.mul_le_mul_right (Tc k) b1
          omega
        · rw [← Nat.add_assoc, hst, eN, c2]
    cases es : st (handF S.R S.A.gl x W) with
    | false =>
      have eH : HH S.R S.A.gl st am k W pre x = [] := if_neg (by rw [es]; simp)
      refine nxt M2 a 1 f2 (by rw [eH]; rfl) hA2 e17 (fun m => ?_) (by cases k <;> simp only [Tc] <;> omega)
      rw [step, es]
      rfl
    | true =>
      have eH : HH S.R S.A.gl st am k W pre x = wds S.R S.A.gl st (gdA am) k (handF S.R S.A.gl x W) (pre ++ [x]) := if_pos (by rw [es, hfr]; rfl)
      have hl1 : (pre ++ [x]).length = d + 1 := by rw [List.length_append, hpl]; rfl
      have hpx1 : ∀ y ∈ pre ++ [x], y < 15 := fun y hy => by
        rcases List.mem_append.mp hy with q | q
        · exact hpx y q
        · rw [List.mem_singleton.mp q]; exact x15
      have hD3 : Dg M2 (pre ++ [x]) := hD2.snoc (by rw [hpl]; exact e17)
      rcases Nat.eq_zero_or_pos k with e | e
      · subst e
        have eN : N = d + 1 := by omega
        have st2 : ∀ m, X_Model_layRows_L73 n (nI N) p2 (m + 1) (nI d) M = lrGood n (nI N) p2 m (nI d) 1 M2 := fun m => by
          rw [step, es]
          unfold lrThen
          rw [nI_1, if_pos (nI_le (a := N) (b := d + 1) (by omega) (by omega))]
          rfl
        have eg := hG M2 _ (d + 1) (by omega) hK2 hW2 g3
        by_cases ea : am (handF S.R S.A.gl x W) = 0
        · have ew : HH S.R S.A.gl st am 0 W pre x = [pre ++ [x]] := by
            rw [eH]
            exact if_pos (decide_eq_true ea)
          obtain ⟨M3, b1, b2, b3⟩ := m_aRow n (by omega) (w := pre ++ [x]) (by omega) hpx1 hD3 hA2 (by omega)
          refine nxt M3 (push false a (pre ++ [x])) 1 (f2.trans (b3.mono (fun c k q => Or.inr (Or.inr q)))) (by rw [ew]; exact push_ns hs) b2 (by rw [(b3 17 d (fun q => by unfold ar at q; omega)).1]; exact e17) (fun m => ?_) (Nat.le_refl _)
          rw [st2]
          unfold lrGood
          rw [nI_1, eg, if_pos ea, if_neg (by decide), bd_ret]
          rw [if_neg (by decide), show nI N = nI (pre ++ [x]).length by rw [hl1, eN], b1]
          rfl
        · have ew : HH S.R S.A.gl st am 0 W pre x = [] := by
            rw [eH]
            exact if_neg (fun q => ea (of_decide_eq_true q))
          refine nxt M2 a 1 f2 (by rw [ew]; rfl) hA2 e17 (fun m => ?_) (Nat.le_refl _)
          rw [st2]
          unfold lrGood
          rw [nI_1, eg, if_neg ea, if_neg (by decide), bd_ret]
          rfl
      · obtain ⟨k, rfl⟩ : ∃ q, k = q + 1 := ⟨k - 1, by omega⟩
        obtain ⟨j1, q1, q2, q3, q4⟩ := m_freeFrom n (by omega) hS.hR hK2.1.c hK2.2.1 hS.gl (j := 15) (Nat.le_refl _)
        have f3 : Fr (mf d) M2 (si M2 17 (d + 1) (nI (15 - j1))) := Fr.si (Or.inr (Or.inl ⟨rfl, by omega⟩))
        have f17 : Fr (fun c k => c = 17 ∧ k = d + 1) M2 (si M2 17 (d + 1) (nI (15 - j1))) := Fr.si ⟨rfl, rfl⟩
        have hp15 : 15 ^ (k + 1) = 15 * 15 ^ k := by rw [Nat.pow_succ, Nat.mul_comm]
        have hj15 : j1 * 15 ^ k ≤ 15 * 15 ^ k := Nat.mul_le_mul_right _ q2
        have hTj : j1 * Tc k ≤ 15 * Tc k := Nat.mul_le_mul_right _ q2
        obtain ⟨c1, d1, M4, r1, r2, r3, r4, r5⟩ := ihk k (by omega) (d + 1) (by omega) j1 j1 (si M2 17 (d + 1) (nI (15 - j1))) (handF S.R S.A.gl x W) (pre ++ [x]) a (Nat.le_refl _) q2 q3 (hK2.fr hS mfS f3) hW2 (g3.fr hW2 f17 (fun k h1 h2 q => absurd q.1 (by decide))) hl1 hpx1 (hD3.fr f17 (fun k h1 q => by omega)) (si_at _ _ _ _) (hA2.fr f17 (fun k h1 h2 q => absurd q.1 (by decide)) (fun k q => absurd q.1 (by decide))) hs (by omega)
        rw [← q4 _ (fun x _ h => HH_free h)] at r4 r5
        have e15 : fl (HH S.R S.A.gl st am k (handF S.R S.A.gl x W) (pre ++ [x])) 15 = HH S.R S.A.gl st am (k + 1) W pre x := eH.symm
        rw [e15] at r4 r5
        have f4 : Fr (mf d) M M4 := (f2.trans f3).trans (r3.mono (fun c k q => mf_mono q))
        have st2 : ∀ m, X_Model_layRows_L73 n (nI N) p2 (m + (c1 + 1)) (nI d) M = X_Model_layRows_L73 n (nI N) p2 m d1 M4 := fun m => by
          rw [← Nat.add_assoc, step, es, ← r2]
          unfold lrThen
          rw [nI_1, if_neg (by decide), if_neg (nI_ge (a := d + 1) (b := N) (by omega) (by omega)), show X_Model_freeFrom n 0 M2 = some (nI (15 - j1), M2) from q1, bd_ret, gd_in (v4 (by omega)), nI_clamp (by omega)]
        by_cases hs3 : stp = true ∧ 0 < (pall stp a (HH S.R S.A.gl st am (k + 1) W pre x)).1
        · refine ⟨c1 + 1, d1, M4, ?_, st2, f4, ?_, fun q => ?_⟩
          · rw [Nat.succ_mul]
            simp only [Tc]
            omega
          · rw [pall_st hs3]; exact r4
          · rw [pall_st hs3] at q
            exact absurd hs3 q
        · obtain ⟨t1, t2⟩ := r5 hs3
          refine nxt M4 _ (c1 + 2) f4 rfl r4 (by rw [(r3 17 d (fun q => by unfold mf mg mk ar at q; omega)).1, (f17 17 d (fun q => by omega)).1]; exact e17) (fun m => ?_) (by simp only [Tc]; omega)
          have hc2 : p2 = 0 ∨ ¬ 0 < M4.1 0 43 := by
            cases es2 : stp with
            | false => exact Or.inl (hp.mpr es2)
            | true =>
              right
              have : (pall stp a (HH S.R S.A.gl st am (k + 1) W pre x)).1 = 0 := by
                have : ¬ 0 < (pall stp a (HH S.R S.A.gl st am (k + 1) W pre x)).1 := fun q => hs3 ⟨es2, q⟩
                omega
              rw [r4.1, this]
              decide
          rw [show m + (c1 + 2) = (m + 1) + (c1 + 1) by omega, st2, t1, L73_go (by omega) hc2]
          unfold lrK
          rw [gd_in (v4 (by omega)), nI_clamp (by omega), t2, if_pos (show nI 15 = 15 from rfl)]
          unfold lrUp
          rw [d_m1 d (by omega), if_neg (nI_pos (by omega))]
          rfl
end
section
/-! SEARCH: the reference's fewest hands -/
def LL (S : Ab) (am : WW → Nat) (st : WW → Bool) (N : Nat) : List (List Nat) := if st S.A.W then wds S.R S.A.gl st (gdA am) N S.A.W [] else []
def Sl (v : Nat → Int32) (M : Mem) : Prop := ∀ k, 39 ≤ k → k ≤ 42 → M.1 0 k = v k
def gdH (n : Nat) (S : Ab) (v : Nat → Int32) (am : WW → Nat) : Prop := ∀ M W L, L < 10 → Kr S v M → OkW W → LyM M 15 (60 * L) W → X_Model_isGood n (nI L) M = some (if am W = 0 then 1 else 0, M)
def stH (n : Nat) (S : Ab) (v : Nat → Int32) (st : WW → Bool) : Prop := ∀ M W L, L < 10 → Kr S v M → OkW W → LyM M 15 (60 * L) W → X_Model_isStill n (nI L) M = some (if st W then 1 else 0, M)
theorem Tc_le : ∀ k, k < 4 → Tc k ≤ 3857 := by decide
theorem pow15 : ∀ k, k < 4 → 15 * 15 ^ k < 2 ^ 31 := by decide
def a0 : Ac := (0, 0, 0, [])
theorem m_layRows (n : Nat) (hn : 60000 ≤ n) {S : Ab} (hS : Ok S) {v : Nat → Int32} {am : WW → Nat} {st : WW → Bool} (hG : gdH n S v am) (hT : stH n S v st) {N : Nat} (hN : N ≤ 4) {p2 : Int32} {stp : Bool} (hp : p2 = 0 ↔ stp = false) {M : Mem} (hM : MA M S) (hv : Sl v M) : ∃ M' a, X_Model_layRows n (nI N) p2 M = some (nI a.1, M') ∧ a = pall stp a0 (LL S am st N) ∧ RA M' a ∧ MA M' S ∧ Sl v M' := by
  have hg := hS.gl
  generalize hN1 : si (si (si M 0 43 0) 0 44 0) 0 45 0 = N1
  have f1 : Fr (fun c k => c = 0 ∧ 43 ≤ k ∧ k ≤ 45) M N1 := by
    rw [← hN1]
    exact ((Fr.si (by decide)).trans (Fr.si (by decide))).trans (Fr.si (by decide))
  have mN1 : MA N1 S := hM.fr hS (f1.mono (fun c k q => by unfold mS; omega))
  have e1 : X_Model_worn n N1 = some (nI S.A.gl, N1) := m_worn n (by omega) mN1.c.1 hS.p6 hS.hA.2.2.1 mN1.a.2.1
  generalize hN4 : si N1 0 38 (nI S.A.gl) = N4
  have f4 : Fr (fun c k => c = 0 ∧ 38 = k) N1 N4 := by rw [← hN4]; exact Fr.si ⟨rfl, rfl⟩
  have f6 : Fr (mh 0) N4 (cpI N4 1 0 15 (60 * 0) 60) := Fr.cpI (fun k h1 h2 => Or.inr ⟨rfl, h1, by omega⟩)
  have m4 : MA N4 S := mN1.fr hS (f4.mono (fun c k q => by unfold mS; omega))
  have r1 : RA N1 a0 := ⟨by rw [← hN1]; rfl, by rw [← hN1]; rfl, by rw [← hN1]; rfl, fun i x h => absurd h (by simp [a0])⟩
  have k4 : Kr S v N4 := ⟨m4, by rw [← hN4]; exact si_at _ _ _ _, fun k h1 h2 => by rw [(f4 0 k (fun q => by omega)).1, (f1 0 k (fun q => by omega)).1]; exact hv k h1 h2⟩
  have k6 : Kr S v (cpI N4 1 0 15 (60 * 0) 60) := k4.fr hS (fun c k q => ⟨mh_mS q, fun r => by unfold mh mk rg at q; omega⟩) f6
  have r6 : RA (cpI N4 1 0 15 (60 * 0) 60) a0 := (r1.fr f4 (fun k h1 h2 q => by omega) (fun k q => by omega)).fr f6 (fun k h1 h2 q => by unfold mh mk rg at q; omega) (fun k q => by unfold mh mk rg at q; omega)
  have l6 : LyM (cpI N4 1 0 15 (60 * 0) 60) 15 (60 * 0) S.A.W := LyM.cp m4.a.1 hS.hA.1
  have eS := hT _ _ 0 (by omega) k6 hS.hA.1 l6
  have pre : ∀ (F : Int32 → Mem → Option (Int32 × Mem)), (nm (si (si (si M 0 43 0) 0 44 0) 0 45 0) fun N1 => bd (X_Model_worn n N1) fun r2 M3 => nm (si M3 0 38 r2) fun N4 => bd (X_Model_begins n 0 N4) fun _ M6 => bd (X_Model_isStill n 0 M6) fun r7 M8 => F r7 M8) = F (if st S.A.W then 1 else 0) (cpI N4 1 0 15 (60 * 0) 60) := fun F => by
    rw [hN1]
    simp only [nm]
    rw [e1, bd_ret, hN4, show X_Model_begins n 0 N4 = some ((), cpI N4 1 0 15 (60 * 0) 60) from m_begins n (by omega) (L := 0) (by omega) N4, bd_ret, show X_Model_isStill n 0 (cpI N4 1 0 15 (60 * 0) 60) = _ from eS, bd_ret]
  generalize cpI N4 1 0 15 (60 * 0) 60 = M6 at k6 r6 l6 eS pre
  unfold X_Model_layRows
  rw [pre]
  cases es : st S.A.W with
  | false => exact ⟨M6, a0, rfl, by unfold LL; rw [es]; rfl, r6, k6.1, k6.2.2⟩
  | true =>
    have eL : LL S am st N = wds S.R S.A.gl st (gdA am) N S.A.W [] := by unfold LL; rw [es]; rfl
    rw [if_neg (by decide), eL]
    rcases Nat.eq_zero_or_pos N with e | e
    · subst e
      have eg := hG _ _ 0 (by omega) k6 hS.hA.1 l6
      rw [if_pos (show nI 0 = 0 from rfl), show X_Model_isGood n 0 M6 = _ from eg, bd_ret]
      by_cases ea : am S.A.W = 0
      · obtain ⟨M3, b1, b2, b3⟩ := m_aRow n (by omega) (w := []) (a := a0) (by decide) (fun x hx => absurd hx List.not_mem_nil) (fun i x h => absurd h (by simp)) r6 (by decide)
        have ew : wds S.R S.A.gl st (gdA am) 0 S.A.W [] = [[]] := if_pos (decide_eq_true ea)
        rw [if_pos ea, if_neg (by decide), show X_Model_aRow n 0 M6 = _ from b1, ew]
        refine ⟨M3, _, ?_, rfl, ?_, k6.1.fr hS (b3.mono (fun c k q => (mf_S (d := 0) (Or.inr (Or.inr q))).1)), fun k h1 h2 => by rw [(b3 0 k (fun q => by unfold ar at q; omega)).1]; exact k6.2.2 k h1 h2⟩
        · rw [bd_ret, b2.1, push_ns (by simp [a0])]
        · rw [push_ns (by simp [a0])]; exact b2
      · have ew : wds S.R S.A.gl st (gdA am) 0 S.A.W [] = [] := if_neg (fun q => ea (of_decide_eq_true q))
        rw [if_neg ea, ew]
        exact ⟨M6, a0, by rw [r6.1]; rfl, rfl, r6, k6.1, k6.2.2⟩
    · obtain ⟨k, rfl⟩ : ∃ q, N = q + 1 := ⟨N - 1, by omega⟩
      have k4' : k < 4 := by omega
      obtain ⟨j1, q1, q2, q3, q4⟩ := m_freeFrom n (by omega) hS.hR k6.1.c k6.2.1 hS.gl (j := 15) (Nat.le_refl _)
      rw [if_neg (fun q => by have := (i_z (k := k + 1) (by omega)).mp q; omega), show X_Model_freeFrom n 0 M6 = some (nI (15 - j1), M6) from q1, bd_ret, gd_in v04]
      have f17 : Fr (fun c k => c = 17 ∧ k = 0) M6 (si M6 17 0 (nI (15 - j1))) := Fr.si ⟨rfl, rfl⟩
      have hj15 : j1 * 15 ^ k ≤ 15 * 15 ^ k := Nat.mul_le_mul_right _ q2
      have hTj : j1 * Tc k ≤ 15 * 3857 := Nat.mul_le_mul q2 (Tc_le k k4')
      have p15 := pow15 k k4'
      obtain ⟨c, d', M4, r1', r2, r3, r4, r5⟩ := m_L73 n (by omega) hS hG hT hN hp k 0 (by omega) j1 j1 (si M6 17 0 (nI (15 - j1))) S.A.W [] a0 (Nat.le_refl _) q2 q3 (k6.fr hS (fun c k q => by unfold mS; omega) f17) hS.hA.1 (l6.fr hS.hA.1 f17 (fun k h1 h2 q => absurd q.1 (by decide))) rfl (fun x hx => absurd hx List.not_mem_nil) (fun i x h => absurd h (by simp)) (si_at _ _ _ _) (r6.fr f17 (fun k h1 h2 q => absurd q.1 (by decide)) (fun k q => absurd q.1 (by decide))) (by simp [a0]) (by show 0 + _ < _; omega)
      rw [← q4 _ (fun x _ h => HH_free h)] at r4 r5
      have e15 : fl (HH S.R S.A.gl st am k S.A.W []) 15 = wds S.R S.A.gl st (gdA am) (k + 1) S.A.W [] := rfl
      rw [e15] at r4 r5
      obtain ⟨m, hm⟩ : ∃ m, n = (m + 2) + c := ⟨n - c - 2, by omega⟩
      have fA : Fr (mf 0) M6 M4 := Fr.trans (f17.mono (fun c k q => Or.inr (Or.inl ⟨q.1, by omega⟩))) r3
      refine ⟨M4, _, ?_, rfl, r4, k6.1.fr hS (fA.mono (fun c k q => (mf_S q).1)), (k6.fr hS (fun c k q => mf_S q) fA).2.2⟩
      have e0 : X_Model_layRows_L73 n (nI (k + 1)) p2 n 0 (si M6 17 ((0 : Int32).toNatClampNeg) (nI (15 - j1))) = X_Model_layRows_L73 n (nI (k + 1)) p2 (m + 2) d' M4 := by
        rw [← r2, ← hm]
        rfl
      rw [e0, ← r4.1]
      by_cases hs3 : stp = true ∧ 0 < (pall stp a0 (wds S.R S.A.gl st (gdA am) (k + 1) S.A.W [])).1
      · rw [L73_eq]
        by_cases hd0 : d' < 0
        · rw [if_pos hd0]
        · have hlt : (0 : Int32) < M4.1 0 43 := by
            rw [r4.1]
            have h1 := (pall_ge (stp := stp) (wds S.R S.A.gl st (gdA am) (k + 1) S.A.W []) a0).2
            have h2 := wds_cnt (R := S.R) (g := S.A.gl) (st := st) (gd := gdA am) (k + 1) S.A.W []
            have h3 : 15 ^ (k + 1) = 15 * 15 ^ k := by rw [Nat.pow_succ, Nat.mul_comm]
            have h4 : a0.1 = 0 := rfl
            exact nI_lt (a := 0) hs3.2 (by omega)
          rw [if_neg hd0, if_neg (fun q => by have := hp.mp q; rw [hs3.1] at this; exact absurd this (by decide)), if_pos hlt]
      · obtain ⟨t1, t2⟩ := r5 hs3
        have hc2 : p2 = 0 ∨ ¬ 0 < M4.1 0 43 := by
          cases es2 : stp with
          | false => exact Or.inl (hp.mpr es2)
          | true =>
            right
            have : (pall stp a0 (wds S.R S.A.gl st (gdA am) (k + 1) S.A.W [])).1 = 0 := by
              have : ¬ 0 < (pall stp a0 (wds S.R S.A.gl st (gdA am) (k + 1) S.A.W [])).1 := fun q => hs3 ⟨es2, q⟩
              omega
            rw [r4.1, this]
            decide
        rw [t1, L73_go (by decide) hc2]
        unfold lrK
        rw [gd_in (v4 (by omega)), nI_clamp (by omega), t2, if_pos (show nI 15 = 15 from rfl)]
        unfold lrUp
        rw [if_pos (show nI 0 + (-1) < 0 by decide), L73_eq, if_pos (show nI 0 + (-1) < 0 by decide)]
def FwR (S : Ab) (am : WW → Nat) (st : WW → Bool) (c : Nat) (r : Int32) (M' : Mem) : Prop := (∃ N w l, N ≤ 4 ∧ (∀ j, j < N → LL S am st j = []) ∧ LL S am st N = w :: l ∧ r = nI N ∧ ∀ i x, w[i]? = some x → M'.1 c i = nI x) ∨ ((∀ j, j ≤ 4 → LL S am st j = []) ∧ r = -4)
theorem m_fewestHands (n : Nat) (hn : 60000 ≤ n) {S : Ab} (hS : Ok S) {v : Nat → Int32} {am : WW → Nat} {st : WW → Bool} (hG : gdH n S v am) (hT : stH n S v st) {M : Mem} (hM : MA M S) (hv : Sl v M) : ∃ r M', X_Model_fewestHands n M = some (r, M') ∧ MA M' S ∧ FwR S am st 18 r M' := by
  have key : ∀ e N f M, N + e = 5 → e < f → MA M S → Sl v M → (∀ j, j < N → LL S am st j = []) → ∃ r M', X_Model_fewestHands_L2 n f (nI N) M = some (r, M') ∧ MA M' S ∧ FwR S am st 18 r M' := by
    intro e
    induction e with
    | zero =>
      intro N f M h1 h2 hM hv hl
      obtain ⟨f, rfl⟩ : ∃ q, f = q + 1 := ⟨f - 1, by omega⟩
      refine ⟨-4, M, ?_, hM, Or.inr ⟨fun j hj => hl j (by omega), rfl⟩⟩
      show (if (4 : Int32) < nI N then _ else _) = _
      rw [if_pos (show (4 : Int32) < nI N from nI_lt (a := 4) (by omega) (by omega))]
    | succ e ih =>
      intro N f M h1 h2 hM hv hl
      obtain ⟨f, rfl⟩ : ∃ q, f = q + 1 := ⟨f - 1, by omega⟩
      obtain ⟨M2, a, b1, b2, b3, b4, b5⟩ := m_layRows n hn hS hG hT (N := N) (by omega) (p2 := 1) (stp := true) (by decide) hM hv
      cases eL : LL S am st N with
      | nil =>
        rw [eL] at b2
        obtain ⟨r, M', c1, c2, c3⟩ := ih (N + 1) f M2 (by omega) (by omega) b4 b5 (fun j hj => by
          by_cases q : j = N
          · rw [q]; exact eL
          · exact hl j (by omega))
        refine ⟨r, M', ?_, c2, c3⟩
        show (if (4 : Int32) < nI N then _ else bd (X_Model_layRows n (nI N) 1 M) fun r1 M2 => (if r1 ≤ 0 then X_Model_fewestHands_L2 n f (nI N + 1) M2 else _)) = _
        rw [if_neg (show ¬ (4 : Int32) < nI N from Int32.not_lt.mpr (nI_le (b := 4) (by omega) (by decide))), b1, bd_ret, b2, if_pos (show nI (pall true a0 []).1 ≤ 0 by decide), nI_1]
        exact c1
      | cons w l =>
        rw [eL, show pall true a0 (w :: l) = _ from pall_hd w l] at b2
        refine ⟨nI N, M2, ?_, b4, Or.inl ⟨N, w, l, by omega, hl, eL, rfl, ?_⟩⟩
        · show (if (4 : Int32) < nI N then _ else bd (X_Model_layRows n (nI N) 1 M) fun r1 M2 => (if r1 ≤ 0 then X_Model_fewestHands_L2 n f (nI N + 1) M2 else some (nI N, M2))) = _
          rw [if_neg (show ¬ (4 : Int32) < nI N from Int32.not_lt.mpr (nI_le (b := 4) (by omega) (by decide))), b1, bd_ret, b2, if_neg (show ¬ nI (1 : Nat) ≤ 0 by decide)]
        · intro i x hi
          rw [b2] at b3
          exact b3.2.2.2 i x hi
  exact key 5 0 n M rfl (by omega) hM hv (fun j hj => absurd hj (Nat.not_lt_zero j))
end
section
/-! SEARCH: what is asked for -/
def amF (P t so sh : Nat) (W : WW) : Nat := (whoN W t P ^^^ so) &&& (so ||| sh)
def stF (P t ot : Nat) (W : WW) : Bool := decide (whoN W t P &&& ot = 0)
def ulN (sn : Nat) (sg : Nat → Nat) (W : WW) : Nat → Nat
  | 0 => 0
  | k + 1 => ulN sn sg W k ||| (if (sn.testBit k && !decide (knN (W k) = sg k)) = true then 2 ^ k else 0)
theorem ulN_bit (sn : Nat) (sg : Nat → Nat) (W : WW) (p : Nat) : ∀ k, (ulN sn sg W k).testBit p = (decide (p < k) && (sn.testBit p && !decide (knN (W p) = sg p)))
  | 0 => by simp [ulN]
  | k + 1 => by
    unfold ulN
    rw [Nat.testBit_or, ulN_bit sn sg W p k]
    by_cases e : p = k
    · subst e
      rw [decide_eq_false (Nat.lt_irrefl p), decide_eq_true (Nat.lt_succ_self p), Bool.false_and, Bool.false_or, Bool.true_and]
      split
      · rename_i h
        rw [Nat.testBit_two_pow, decide_eq_true rfl, h]
      · rename_i h
        rw [Nat.zero_testBit, Bool.eq_false_iff.mpr h]
    · have : (if (sn.testBit k && !decide (knN (W k) = sg k)) = true then 2 ^ k else 0).testBit p = false := by
        split
        · rw [Nat.testBit_two_pow]; exact decide_eq_false (fun q => e q.symm)
        · exact Nat.zero_testBit p
      rw [this, Bool.or_false]
      by_cases h : p < k
      · rw [decide_eq_true h, decide_eq_true (show p < k + 1 by omega)]
      · rw [decide_eq_false h, decide_eq_false (show ¬ p < k + 1 by omega)]
theorem ulN_lt (sn : Nat) (sg : Nat → Nat) (W : WW) (k : Nat) : ulN sn sg W k < 2 ^ k := lt_bits (fun i hi => by rw [ulN_bit, decide_eq_false (by omega), Bool.false_and])
theorem amF_ok {P t so sh : Nat} (h1 : so < 64) (h2 : sh < 64) : OkA (amF P t so sh) := ⟨fun W => Nat.lt_of_le_of_lt Nat.and_le_right (Nat.or_lt_two_pow (n := 6) h1 h2), fun W V p hp e => by
  unfold amF
  rw [Nat.testBit_and, Nat.testBit_and, Nat.testBit_xor, Nat.testBit_xor, whoN_bit, whoN_bit, e]⟩
theorem amU_ok {P sn : Nat} {sg : Nat → Nat} (hP : P ≤ 6) : OkA (fun W => ulN sn sg W P) := ⟨fun W => Nat.lt_of_lt_of_le (ulN_lt sn sg W P) (pw6 hP).2, fun W V p hp e => by
  dsimp only
  rw [ulN_bit, ulN_bit, e]⟩
theorem am_so : ∀ a, a < 64 → ∀ b, b < 64 → ((a &&& b = b) ↔ (a ^^^ b) &&& (b ||| 0) = 0) := by decide +kernel
theorem am_sh : ∀ P, P ≤ 6 → ∀ a, a < 64 → a < 2 ^ P → (a = 0 ↔ (a ^^^ 0) &&& (0 ||| (2 ^ P - 1)) = 0) := by decide +kernel
def vK (kd : Int32) (t so ot : Int32) (k : Nat) : Int32 := if k = 39 then kd else if k = 40 then t else if k = 41 then so else ot
theorem m_asks (n : Nat) (kd t so ot : Int32) {S : Ab} (hS : Ok S) {M : Mem} (hM : MA M S) : ∃ M', X_Model_asks n kd t so ot M = some ((), M') ∧ MA M' S ∧ Sl (vK kd t so ot) M' := by
  refine ⟨_, rfl, hM.fr hS ((((Fr.si (P := mS) ?_).trans (Fr.si ?_)).trans (Fr.si ?_)).trans (Fr.si ?_)), fun k h1 h2 => ?_⟩
  · unfold mS; omega
  · unfold mS; omega
  · unfold mS; omega
  · unfold mS; omega
  · have : k = 39 ∨ k = 40 ∨ k = 41 ∨ k = 42 := by omega
    rcases this with rfl | rfl | rfl | rfl <;> rfl
theorem wlt {P : Nat} (hP : P ≤ 6) (W : WW) (t : Nat) : whoN W t P < 64 := Nat.lt_of_lt_of_le (whoN_lt W t P) (pw6 hP).2
theorem gd_k0 (n : Nat) (hn : 20 ≤ n) {S : Ab} (hS : Ok S) {t so : Nat} {ot : Int32} (ht : t < 16) (hs : so < 64) : gdH n S (vK 0 (nI t) (nI so) ot) (amF S.R.1 t so 0) := fun M W L hL hK hW hl => by
  have e39 : M.1 0 39 = 0 := hK.2.2 39 (by omega) (by omega)
  have e40 : M.1 0 40 = nI t := hK.2.2 40 (by omega) (by omega)
  have e41 : M.1 0 41 = nI so := hK.2.2 41 (by omega) (by omega)
  have hw := wlt hS.p6 W t
  unfold X_Model_isGood
  rw [e39, e40, if_neg (by decide), m_whoIn n hn hK.1.c.1 hS.p6 hL ht hW hl, bd_ret, e39, if_neg (by decide), e41, i_and]
  have : _ ↔ amF S.R.1 t so 0 W = 0 := am_so _ hw so hs
  by_cases e : whoN W t S.R.1 &&& so = so
  · rw [if_pos (by rw [e]), if_pos (this.mp e)]
  · rw [if_neg (fun q => e ((nI_eq (Nat.lt_of_le_of_lt Nat.and_le_right (by omega)) (by omega)).mp q)), if_neg (fun q => e (this.mpr q))]
theorem gd_k1 (n : Nat) (hn : 20 ≤ n) {S : Ab} (hS : Ok S) {t : Nat} {so ot : Int32} (ht : t < 16) : gdH n S (vK 1 (nI t) so ot) (amF S.R.1 t 0 (2 ^ S.R.1 - 1)) := fun M W L hL hK hW hl => by
  have e39 : M.1 0 39 = 1 := hK.2.2 39 (by omega) (by omega)
  have e40 : M.1 0 40 = nI t := hK.2.2 40 (by omega) (by omega)
  have hw := wlt hS.p6 W t
  unfold X_Model_isGood
  rw [e39, e40, if_neg (by decide), m_whoIn n hn hK.1.c.1 hS.p6 hL ht hW hl, bd_ret, e39, if_pos (by decide)]
  have : _ ↔ amF S.R.1 t 0 (2 ^ S.R.1 - 1) W = 0 := am_sh _ hS.p6 _ hw (whoN_lt W t _)
  by_cases e : whoN W t S.R.1 = 0
  · rw [if_pos (by rw [e]; rfl), if_pos (this.mp e)]
  · rw [if_neg (fun q => e ((i_z (by omega)).mp q)), if_neg (fun q => e (this.mpr q))]
theorem st_k0 (n : Nat) (hn : 20 ≤ n) {S : Ab} (hS : Ok S) {t ot : Nat} {so : Int32} (ht : t < 16) : stH n S (vK 0 (nI t) so (nI ot)) (stF S.R.1 t ot) := fun M W L hL hK hW hl => by
  have e39 : M.1 0 39 = 0 := hK.2.2 39 (by omega) (by omega)
  have e40 : M.1 0 40 = nI t := hK.2.2 40 (by omega) (by omega)
  have e42 : M.1 0 42 = nI ot := hK.2.2 42 (by omega) (by omega)
  have hw := wlt hS.p6 W t
  unfold X_Model_isStill stF
  rw [e39, e40, if_pos rfl, m_whoIn n hn hK.1.c.1 hS.p6 hL ht hW hl, bd_ret, e42]
  by_cases e : whoN W t S.R.1 &&& ot = 0
  · rw [if_pos ((and_i0 hw).mpr e), decide_eq_true e]; rfl
  · rw [if_neg (fun q => e ((and_i0 hw).mp q)), decide_eq_false e]; rfl
theorem st_k1 (n : Nat) {S : Ab} {kd t so ot : Int32} (h : kd ≠ 0) (t' : Nat) : stH n S (vK kd t so ot) (stF S.R.1 t' 0) := fun M W L hL hK hW hl => by
  have e39 : M.1 0 39 = kd := hK.2.2 39 (by omega) (by omega)
  unfold X_Model_isStill stF
  rw [e39, if_neg h, Nat.and_zero, decide_eq_true rfl]; rfl
theorem m_isSeen_L (n : Nat) (hn : 20 ≤ n) {S : Ab} (hS : Ok S) {M : Mem} (hM : MA M S) {L : Nat} (hL : L < 10) {W : WW} (hW : OkW W) (hl : LyM M 15 (60 * L) W) : ∀ d p f, p + d = S.R.1 → d < f → X_Model_isSeen_L4 n (nI L) f (if ulN S.A.sn S.A.sg W p = 0 then 1 else 0) (nI p) M = some (if ulN S.A.sn S.A.sg W S.R.1 = 0 then 1 else 0, M) := by
  have h6 := hS.p6
  intro d
  induction d with
  | zero =>
    intro p f h1 h2
    obtain ⟨f, rfl⟩ : ∃ q, f = q + 1 := ⟨f - 1, by omega⟩
    have hp : p = S.R.1 := by omega
    rw [hp]
    show (if M.1 0 2 ≤ nI S.R.1 then zr _ M else _) = _
    rw [hM.c.1, if_pos (nI_le (Nat.le_refl _) (by omega))]
    split <;> rfl
  | succ d ih =>
    intro p f h1 h2
    obtain ⟨f, rfl⟩ : ∃ q, f = q + 1 := ⟨f - 1, by omega⟩
    have hp : p < S.R.1 := by omega
    have e66 : ((66 : Int32) + nI p) = nI (66 + p) := nI_add 66 p
    have e72 : ((72 : Int32) + nI p) = nI (72 + p) := nI_add 72 p
    have eb := hM.a.2.2.1 p (by omega)
    rw [← ih (p + 1) f (by omega) (by omega)]
    show (if M.1 0 2 ≤ nI p then _ else nm (fun (u1 : Int32) (M2 : Mem) => (X_Model_isSeen_L4 n (nI L) f u1 (nI p + 1) M2 : Option (Int32 × Mem))) fun k51 => (if (if ulN S.A.sn S.A.sg W p = 0 then (1 : Int32) else 0) = 0 then k51 0 M else gd ((66 : Int32) + nI p) 234 (if (M.1 1 ((66 : Int32) + nI p).toNatClampNeg) = 0 then k51 1 M else bd (X_Model_knowsIn n (nI L) (nI p) M) fun r3 M4 => gd ((72 : Int32) + nI p) 234 (if r3 = (M4.1 1 ((72 : Int32) + nI p).toNatClampNeg) then k51 1 M4 else k51 0 M4)))) = _
    simp only [nm]
    rw [hM.c.1, if_neg (nI_ge hp (by omega)), e66, e72, gd_in (vp_in_nI (n := 66 + p) (by omega) (by decide)), nI_clamp (show 66 + p < 2 ^ 31 by omega), show M.1 1 (66 + p) = _ from eb, nI_1, m_knowsIn n hn hL (by omega) (hl p (by omega)) (hW p).1 (hW p).2, bd_ret, gd_in (vp_in_nI (n := 72 + p) (by omega) (by decide)), nI_clamp (show 72 + p < 2 ^ 31 by omega)]
    have hU : ulN S.A.sn S.A.sg W (p + 1) = ulN S.A.sn S.A.sg W p ||| (if (S.A.sn.testBit p && !decide (knN (W p) = S.A.sg p)) = true then 2 ^ p else 0) := rfl
    have hz : ∀ a b : Nat, (a ||| b = 0) ↔ (a = 0 ∧ b = 0) := fun a b => ⟨fun h => ⟨Nat.le_zero.mp (h ▸ Nat.left_le_or), Nat.le_zero.mp (h ▸ Nat.right_le_or)⟩, fun h => by rw [h.1, h.2]; rfl⟩
    have h2p : (2 : Nat) ^ p ≠ 0 := by have := Nat.one_le_two_pow (n := p); omega
    by_cases e : ulN S.A.sn S.A.sg W p = 0
    · rw [if_pos e, if_neg (by decide)]
      cases es : S.A.sn.testBit p with
      | false =>
        rw [if_pos (show nI (if false = true then 1 else 0) = 0 from rfl)]
        have : ulN S.A.sn S.A.sg W (p + 1) = 0 := by simp [hU, e, es]
        rw [if_pos this]
      | true =>
        rw [if_neg (by decide), show M.1 1 (72 + p) = _ from hM.a.2.2.2 p (by omega) es]
        have hk := knN_lt (hW p).1.2
        have hg := hS.hA.2.2.2.2 p
        by_cases ek : knN (W p) = S.A.sg p
        · have : ulN S.A.sn S.A.sg W (p + 1) = 0 := by simp [hU, e, es, ek]
          rw [if_pos (by rw [ek]), if_pos this]
        · have : ¬ ulN S.A.sn S.A.sg W (p + 1) = 0 := by
            rw [hU, e, es, decide_eq_false ek, hz]
            exact fun q => h2p q.2
          rw [if_neg (fun q => ek ((nI_eq (by omega) (by omega)).mp q)), if_neg this]
    · have : ¬ ulN S.A.sn S.A.sg W (p + 1) = 0 := by
        rw [hU, hz]
        exact fun q => e q.1
      rw [if_neg e, if_pos rfl, if_neg this]
theorem gd_k2 (n : Nat) (hn : 20 ≤ n) {S : Ab} (hS : Ok S) {t so ot : Int32} : gdH n S (vK 2 t so ot) (fun W => ulN S.A.sn S.A.sg W S.R.1) := fun M W L hL hK hW hl => by
  have e39 : M.1 0 39 = 2 := hK.2.2 39 (by omega) (by omega)
  have h6 := hS.p6
  unfold X_Model_isGood
  rw [e39, if_pos rfl]
  unfold X_Model_isSeen
  rw [show X_Model_isSeen_L4 n (nI L) n 1 0 M = _ from m_isSeen_L n hn hS hK.1 hL hW hl S.R.1 0 n (by omega) (by omega), bd_ret]
  dsimp only
  split <;> rfl
end
section
/-! SEARCH: the class's rows of hands -/
def xQ : List Nat := [15, 26, 27, 28, 30, 31, 32, 33, 34, 35, 36]
theorem xQ_in {a : Nat} (h : a ∈ xQ) : a = 15 ∨ (26 ≤ a ∧ a ≤ 28) ∨ (30 ≤ a ∧ a ≤ 36) := by
  simp only [xQ, List.mem_cons, List.not_mem_nil, or_false] at h
  omega
theorem xQ_of {a : Nat} (h : a = 15 ∨ (26 ≤ a ∧ a ≤ 28) ∨ (30 ≤ a ∧ a ≤ 36)) : a ∈ xQ := by
  simp only [xQ, List.mem_cons, List.not_mem_nil, or_false]
  omega
theorem xQ_S {a : Nat} (h : a ∈ xQ) : a ∈ xS := by
  have := xQ_in h
  simp only [xS, List.mem_cons, List.not_mem_nil, or_false]
  omega
def Ks (S : Ab) (u : Nat → Int32) (M : Mem) : Prop := XA M S ∧ M.1 26 8 = nI (prs S.R.1) ∧ ∀ k, 9 ≤ k → k < 13 → M.1 26 k = u k
def Xf (d : Nat) (M M' : Mem) : Prop := Off xQ M M' ∧ (∀ k, 8 ≤ k → M'.1 26 k = M.1 26 k) ∧ (∀ e, e ≤ d → M'.2 (30 + e) = M.2 (30 + e)) ∧ ∀ i, i < d → M'.1 27 i = M.1 27 i
theorem Xf.rf {d : Nat} {M : Mem} : Xf d M M := ⟨Off.rf, fun _ _ => rfl, fun _ _ => rfl, fun _ _ => rfl⟩
theorem Xf.trans {d : Nat} {M M' M2 : Mem} (h : Xf d M M') (h2 : Xf d M' M2) : Xf d M M2 := ⟨h.1.trans h2.1, fun k q => (h2.2.1 k q).trans (h.2.1 k q), fun e q => (h2.2.2.1 e q).trans (h.2.2.1 e q), fun i q => (h2.2.2.2 i q).trans (h.2.2.2 i q)⟩
theorem Xf.mono {d : Nat} {M M' : Mem} (h : Xf (d + 1) M M') : Xf d M M' := ⟨h.1, h.2.1, fun e q => h.2.2.1 e (by omega), fun i q => h.2.2.2 i (by omega)⟩
theorem Xf.step {d : Nat} {M M' : Mem} (hd : d < 6) (h : Off [15, 31 + d] M M') : Xf d M M' := ⟨h.mono (fun a ha => by
  simp only [List.mem_cons, List.not_mem_nil, or_false] at ha
  exact xQ_of (by omega)), fun k _ => by rw [(h 26 (by simp; omega)).1], fun e q => (h (30 + e) (by simp; omega)).2, fun i _ => by rw [(h 27 (by simp; omega)).1]⟩
theorem Xf.path {d : Nat} {M : Mem} {v : Int32} : Xf d M (si M 27 d v) := ⟨Off.si (by simp [xQ]), fun k _ => si_ne (Or.inl (by decide)), fun _ _ => rfl, fun i q => si_ne (Or.inr (by omega))⟩
theorem Xf.acc {d k : Nat} {M : Mem} {v : Int32} (h : k < 8) : Xf d M (si M 26 k v) := ⟨Off.si (by simp [xQ]), fun j q => si_ne (Or.inr (by omega)), fun _ _ => rfl, fun i q => si_ne (Or.inl (by decide))⟩
theorem Ks.fr {S : Ab} {u : Nat → Int32} {M M' : Mem} {d : Nat} (h : Ks S u M) (ho : Xf d M M') : Ks S u M' := ⟨h.1.off (ho.1.mono (fun a ha => xQ_S ha)), by rw [ho.2.1 8 (by omega)]; exact h.2.1, fun k h1 h2 => by rw [ho.2.1 k (by omega)]; exact h.2.2 k h1 h2⟩
theorem rows_fr {M M' : Mem} {d : Nat} {W : WW} (h : rowsAt M (30 + d) W) (ho : Xf d M M') : rowsAt M' (30 + d) W := fun p hp => by rw [ho.2.2.1 d (Nat.le_refl d)]; exact h p hp
def amH (n : Nat) (S : Ab) (u : Nat → Int32) (am : WW → Nat) : Prop := ∀ M W d, d < 7 → Ks S u M → OkW W → (∀ p, S.R.1 ≤ p → W p = []) → rowsAt M (30 + d) W → X_Search_amiss n (30 + d) M = some (nI (am W), M)
def baH (n : Nat) (S : Ab) (u : Nat → Int32) (st : WW → Bool) : Prop := ∀ M W d, d < 7 → Ks S u M → OkW W → (∀ p, S.R.1 ≤ p → W p = []) → rowsAt M (30 + d) W → X_Search_isBarred n (30 + d) M = some (if st W then 0 else 1, M)
def uK (t wa sh ne : Int32) (k : Nat) : Int32 := if k = 9 then t else if k = 10 then wa else if k = 11 then sh else ne
theorem x_aim (n : Nat) (t wa sh ne : Int32) {S : Ab} {M : Mem} (hM : XA M S) (h8 : M.1 26 8 = nI (prs S.R.1)) : ∃ M', X_Search_aim n t wa sh ne M = some ((), M') ∧ Off [26] M M' ∧ Ks S (uK t wa sh ne) M' := by
  have ho : Off [26] M (si (si (si (si M 26 9 t) 26 10 wa) 26 11 sh) 26 12 ne) := (((Off.si (by simp)).trans (Off.si (by simp))).trans (Off.si (by simp))).trans (Off.si (by simp))
  refine ⟨_, rfl, ho, hM.off (ho.mono (fun a ha => xQ_S (xQ_of (by simp at ha; omega)))), h8, fun k h1 h2 => ?_⟩
  have : k = 9 ∨ k = 10 ∨ k = 11 ∨ k = 12 := by omega
  rcases this with rfl | rfl | rfl | rfl <;> rfl
theorem am_k (n : Nat) (hn : 7 ≤ n) {S : Ab} (hS : Ok S) {t so sh : Nat} {ne : Int32} (ht : t < 16) : amH n S (uK (nI t) (nI so) (nI sh) ne) (amF S.R.1 t so sh) := fun M W d hd hK hW he hr => by
  have e9 : M.1 26 9 = nI t := hK.2.2 9 (by omega) (by omega)
  have e10 : M.1 26 10 = nI so := hK.2.2 10 (by omega) (by omega)
  have e11 : M.1 26 11 = nI sh := hK.2.2 11 (by omega) (by omega)
  unfold X_Search_amiss amF
  rw [e9, minds_knowers n hn hW hr ht, bd_ret, e10, e11, whoN_6 hS.p6 he, i_xor, i_or, i_and]
theorem ba_k (n : Nat) (hn : 7 ≤ n) {S : Ab} (hS : Ok S) {t ne : Nat} {so sh : Int32} (ht : t < 16) : baH n S (uK (nI t) so sh (nI ne)) (stF S.R.1 t ne) := fun M W d hd hK hW he hr => by
  have e9 : M.1 26 9 = nI t := hK.2.2 9 (by omega) (by omega)
  have e12 : M.1 26 12 = nI ne := hK.2.2 12 (by omega) (by omega)
  unfold X_Search_isBarred stF
  rw [e9, minds_knowers n hn hW hr ht, bd_ret, e12, whoN_6 hS.p6 he]
  by_cases e : whoN W t S.R.1 &&& ne = 0
  · rw [if_pos ((and_i0 (wlt hS.p6 W t)).mpr e), decide_eq_true e]; rfl
  · rw [if_neg (fun q => e ((and_i0 (wlt hS.p6 W t)).mp q)), decide_eq_false e]; rfl
theorem x_unlike (n : Nat) (hn : 7 ≤ n) {S : Ab} (hS : Ok S) {M : Mem} (hM : XA M S) {rows : Nat} {W : WW} (hW : OkW W) (hr : rowsAt M rows W) : X_Search_unlikeSeen n rows M = some (nI (ulN S.A.sn S.A.sg W S.R.1), M) := by
  have h6 := hS.p6
  have key : ∀ d p f, p + d = S.R.1 → d < f → X_Search_unlikeSeen_L4 n rows f (nI (ulN S.A.sn S.A.sg W p)) (nI p) M = some (nI (ulN S.A.sn S.A.sg W S.R.1), M) := by
    intro d
    induction d with
    | zero =>
      intro p f h1 h2
      obtain ⟨f, rfl⟩ : ∃ q, f = q + 1 := ⟨f - 1, by omega⟩
      have hp : p = S.R.1 := by omega
      rw [hp]
      show (if M.1 11 0 ≤ nI S.R.1 then _ else _) = _
      rw [hM.c.1, if_pos (nI_le (Nat.le_refl _) (by omega))]
    | succ d ih =>
      intro p f h1 h2
      obtain ⟨f, rfl⟩ : ∃ q, f = q + 1 := ⟨f - 1, by omega⟩
      have hp : p < S.R.1 := by omega
      have hs := hS.sn
      rw [← ih (p + 1) f (by omega) (by omega)]
      show (if M.1 11 0 ≤ nI p then _ else nm (fun (z1 : Int32) (M2 : Mem) => (X_Search_unlikeSeen_L4 n rows f z1 (nI p + 1) M2 : Option (Int32 × Mem))) fun k53 => (if ((((M.1 16 2).toUInt32 >>> ((nI p).toUInt32 &&& Int32.toUInt32 31)).toInt32) &&& 1) = 0 then k53 (nI (ulN S.A.sn S.A.sg W p)) M else gd (nI p) 6 (bd (X_Row_knownOf n (M.2 rows (nI p).toNatClampNeg) M) fun r3 M4 => gd (nI p) 6 (if r3 = (M4.1 18 (nI p).toNatClampNeg) then k53 (nI (ulN S.A.sn S.A.sg W p)) M4 else nm (nI (ulN S.A.sn S.A.sg W p) ||| ((1 : Int32) <<< (nI p &&& 31))) fun x5 => k53 x5 M4)))) = _
      simp only [nm]
      rw [hM.c.1, if_neg (nI_ge hp (by omega)), hM.a.2.1, b_iu (by omega) (by omega), gd_in (vp_in_nI (n := p) (by omega) (by decide)), nI_clamp (show p < 2 ^ 31 by omega), hr p (by omega), row_known n (hW p).1 (hW p).2, bd_ret, gd_in (vp_in_nI (n := p) (by omega) (by decide)), nI_1, i_shl1 (by omega), i_or]
      have hU : ulN S.A.sn S.A.sg W (p + 1) = ulN S.A.sn S.A.sg W p ||| (if (S.A.sn.testBit p && !decide (knN (W p) = S.A.sg p)) = true then 2 ^ p else 0) := rfl
      cases es : S.A.sn.testBit p with
      | false =>
        rw [if_pos (show nI (if false = true then 1 else 0) = 0 from rfl)]
        have : ulN S.A.sn S.A.sg W (p + 1) = ulN S.A.sn S.A.sg W p := by simp [hU, es]
        rw [this]
      | true =>
        rw [if_neg (show ¬ nI (if true = true then 1 else 0) = 0 by decide), hM.a.2.2.2 p (by omega) es]
        have hk := knN_lt (hW p).1.2
        have hg := hS.hA.2.2.2.2 p
        by_cases ek : knN (W p) = S.A.sg p
        · have : ulN S.A.sn S.A.sg W (p + 1) = ulN S.A.sn S.A.sg W p := by simp [hU, es, ek]
          rw [if_pos (by rw [ek]), this]
        · have : ulN S.A.sn S.A.sg W (p + 1) = ulN S.A.sn S.A.sg W p ||| 2 ^ p := by simp [hU, es, ek]
          rw [if_neg (fun q => ek ((nI_eq (by omega) (by omega)).mp q)), this]
  exact key S.R.1 0 n (by omega) (by omega)
end
section
/-! SEARCH: the class counts rows that fit, and reaches -/
def two_ (x : Nat) : Nat := 2 ^ les x ||| 2 ^ gre x
theorem two_free : ∀ g, g < 64 → ∀ x, x < 15 → ((g &&& two_ x = 0) ↔ (!g.testBit (les x) && !g.testBit (gre x)) = true) := by decide +kernel
theorem two_lt : ∀ x, x < 15 → two_ x < 64 := by decide +kernel
theorem free_of {P g x : Nat} (hg : g < 64) (hx : x < 15) (hP : gre x < P) : (g &&& two_ x = 0) ↔ free P g x = true := by
  rw [two_free g hg x hx]
  unfold free
  rw [decide_eq_true hP, Bool.true_and]
theorem free_big {P g x : Nat} (hP : P < 7) (hx : x < 15) (h : prs P ≤ x) : free P g x = false := by
  unfold free
  rw [decide_eq_false, Bool.false_and]
  intro q
  have := (prs_gre P hP x hx).mpr q
  omega
theorem x_bits2 (n : Nat) {h : Nat} (hh : h < 15) (M : Mem) : X_Search_bitsOf n (nI h) M = some (nI (two_ h), M) := x_bitsOf n hh M
theorem x_mend2 (n : Nat) {w x k : Nat} (hw : w < 64) (hx : x < 15) (hk : k < 100) (M : Mem) : X_Search_canMend n (nI w) (nI (two_ x)) (nI k) M = some (if popN 16 (w &&& com x) ≤ 2 * k then 1 else 0, M) := x_canMend n hw (two_lt x hx) hk M
def F3 (M : Mem) (a : Int32 × Int32 × Int32) : Prop := M.1 26 2 = a.1 ∧ M.1 26 3 = a.2.1 ∧ M.1 26 4 = a.2.2
def addC (a : Int32 × Int32 × Int32) (w : List Nat) : Int32 × Int32 × Int32 := (a.1 + 1, a.2.1 &&& nI (msk w), a.2.2 ||| nI (msk w))
theorem F3.off {M M' : Mem} {a : Int32 × Int32 × Int32} {S : List Nat} (h : F3 M a) (ho : Off S M M') (hs : 26 ∉ S) : F3 M' a := by
  unfold F3
  rw [(ho 26 hs).1]
  exact h
def stT (_ : WW) : Bool := true
theorem st_k2 (n : Nat) {S : Ab} {t so ot : Int32} : stH n S (vK 2 t so ot) stT := fun M W L hL hK hW hl => by
  have e39 : M.1 0 39 = 2 := hK.2.2 39 (by omega) (by omega)
  unfold X_Model_isStill stT
  rw [e39, if_neg (by decide)]; rfl
def amU (S : Ab) (W : WW) : Nat := ulN S.A.sn S.A.sg W S.R.1
theorem i_left {d k : Nat} : (nI (d + (k + 1)) - nI d) - 1 = nI k := by
  rw [pk_sub (by omega), show (1 : Int32) = nI 1 from rfl, pk_sub (by omega), show d + (k + 1) - d - 1 = k by omega]
theorem x_fit (n : Nat) (hn : 20 ≤ n) {S : Ab} (hS : Ok S) {u : Nat → Int32} : ∀ k f d M W pre a, k < f → d + k ≤ 4 → Ks S u M → OkW W → (∀ p, S.R.1 ≤ p → W p = []) → rowsAt M (30 + d) W → F3 M a → ∃ M', X_Search_fit n f (nI d) (nI (d + k)) (nI (msk pre)) M = some ((), M') ∧ Xf d M M' ∧ F3 M' ((wds S.R S.A.gl stT (gdA (amU S)) k W pre).foldl addC a) := by
  have h6 := hS.p6
  have hg := hS.gl
  have hP := hS.hR.1
  intro k
  induction k with
  | zero =>
    intro f d M W pre a hf hd hK hW he hr h3
    obtain ⟨f, rfl⟩ : ∃ q, f = q + 1 := ⟨f - 1, by omega⟩
    have un : X_Search_fit n (f + 1) (nI d) (nI (d + 0)) (nI (msk pre)) M = (if nI (amU S W) = 0 then some ((), si (si (si M 26 2 (M.1 26 2 + 1)) 26 3 (M.1 26 3 &&& nI (msk pre))) 26 4 (M.1 26 4 ||| nI (msk pre))) else some ((), M)) := by
      show gd (nI d) 7 (bd (X_Search_unlikeSeen n (([30, 31, 32, 33, 34, 35, 36] : List Nat).getD (nI d).toNatClampNeg 0) M) fun r2 M3 => (if nI d < nI d then _ else (if r2 = 0 then _ else some ((), M3)))) = _
      rw [gd_in (vp_in_nI (n := d) (by omega) (by decide)), nI_clamp (by omega), lv_id (by omega), x_unlike n (by omega) hS hK.1 hW hr, bd_ret, if_neg (Int32.lt_irrefl)]
      rfl
    rw [un]
    by_cases ea : amU S W = 0
    · have ew : wds S.R S.A.gl stT (gdA (amU S)) 0 W pre = [pre] := if_pos (decide_eq_true ea)
      rw [if_pos (by rw [ea]; rfl), ew]
      exact ⟨_, rfl, ((Xf.acc (by decide)).trans (Xf.acc (by decide))).trans (Xf.acc (by decide)), by show _ + 1 = _ + 1; rw [h3.1], by show _ &&& _ = _ &&& _; rw [h3.2.1], by show _ ||| _ = _ ||| _; rw [h3.2.2]⟩
    · have ew : wds S.R S.A.gl stT (gdA (amU S)) 0 W pre = [] := if_neg (fun q => ea (of_decide_eq_true q))
      have hlt : amU S W < 64 := (amU_ok (sn := S.A.sn) (sg := S.A.sg) h6).1 W
      rw [if_neg (fun q => ea ((i_z (show amU S W < 2 ^ 31 by omega)).mp q)), ew]
      exact ⟨M, rfl, Xf.rf, h3⟩
  | succ k ih =>
    intro f d M W pre a hf hd hK hW he hr h3
    obtain ⟨f, rfl⟩ : ∃ q, f = q + 1 := ⟨f - 1, by omega⟩
    have hA : OkA (amU S) := amU_ok h6
    have key : ∀ j v m M a, v + j = 15 → j < m → Ks S u M → rowsAt M (30 + d) W → F3 M a → ∃ M', X_Search_fit_L56 n (X_Search_fit n f) (nI d) (nI (d + (k + 1))) (nI (msk pre)) (nI (amU S W)) m (nI v) M = some ((), M') ∧ Xf d M M' ∧ F3 M' ((fl (HH S.R S.A.gl stT (amU S) k W pre) j).foldl addC a) := by
      intro j
      induction j with
      | zero =>
        intro v m M a h1 h2 hK hr h3
        obtain ⟨m, rfl⟩ : ∃ q, m = q + 1 := ⟨m - 1, by omega⟩
        have hp := (prs_i S.R.1 (by omega) hP).2
        refine ⟨M, ?_, Xf.rf, h3⟩
        show (if M.1 26 8 ≤ nI v then _ else _) = _
        rw [hK.2.1, if_pos (nI_le (by omega) (by omega))]
      | succ j ihj =>
        intro v m M a h1 h2 hK hr h3
        obtain ⟨m, rfl⟩ : ∃ q, m = q + 1 := ⟨m - 1, by omega⟩
        have hp := (prs_i S.R.1 (by omega) hP).2
        have hv : v < 15 := by omega
        by_cases hx : prs S.R.1 ≤ v
        · have e0 : fl (HH S.R S.A.gl stT (amU S) k W pre) (j + 1) = [] := (fl_nil _ (by omega)).mpr (fun x h4 h5 => HH_free (free_big (by omega) h5 (by omega)))
          refine ⟨M, ?_, Xf.rf, by rw [e0]; exact h3⟩
          show (if M.1 26 8 ≤ nI v then _ else _) = _
          rw [hK.2.1, if_pos (nI_le (by omega) (by omega))]
        · have hgr : gre v < S.R.1 := (prs_gre S.R.1 (by omega) v hv).mp (by omega)
          have e1 : fl (HH S.R S.A.gl stT (amU S) k W pre) (j + 1) = HH S.R S.A.gl stT (amU S) k W pre v ++ fl (HH S.R S.A.gl stT (amU S) k W pre) j := by
            show HH _ _ _ _ _ _ _ (14 - j) ++ _ = _
            rw [show 14 - j = v by omega]
          have un : X_Search_fit_L56 n (X_Search_fit n f) (nI d) (nI (d + (k + 1))) (nI (msk pre)) (nI (amU S W)) (m + 1) (nI v) M = (if S.A.gl &&& two_ v = 0 then (if popN 16 (amU S W &&& com v) ≤ 2 * k then bd (X_Search_step n (nI d) (nI v) M) fun r9 M10 => bd (X_Search_fit n f (nI (d + 1)) (nI (d + 1 + k)) (nI (msk (pre ++ [v]))) M10) fun _ M12 => X_Search_fit_L56 n (X_Search_fit n f) (nI d) (nI (d + (k + 1))) (nI (msk pre)) (nI (amU S W)) m (nI (v + 1)) M12 else X_Search_fit_L56 n (X_Search_fit n f) (nI d) (nI (d + (k + 1))) (nI (msk pre)) (nI (amU S W)) m (nI (v + 1)) M) else X_Search_fit_L56 n (X_Search_fit n f) (nI d) (nI (d + (k + 1))) (nI (msk pre)) (nI (amU S W)) m (nI (v + 1)) M) := by
            show (if M.1 26 8 ≤ nI v then _ else bd (X_Search_bitsOf n (nI v) M) fun r4 M5 => nm (fun (M6 : Mem) => (X_Search_fit_L56 n (X_Search_fit n f) (nI d) (nI (d + (k + 1))) (nI (msk pre)) (nI (amU S W)) m (nI v + 1) M6 : Option (Unit × Mem))) fun k122 => (if ((M5.1 16 1) &&& r4) = 0 then bd (X_Search_canMend n (nI (amU S W)) r4 ((nI (d + (k + 1)) - nI d) - 1) M5) fun r7 M8 => (if r7 = 0 then k122 M8 else bd (X_Search_step n (nI d) (nI v) M8) fun r9 M10 => bd (X_Search_fit n f (nI d + 1) (nI (d + (k + 1))) (nI (msk pre) ||| ((1 : Int32) <<< (nI v &&& 31))) M10) fun _ M12 => k122 M12) else k122 M5)) = _
            simp only [nm]
            rw [hK.2.1, if_neg (nI_ge (by omega) (by omega)), x_bits2 n hv, bd_ret, hK.1.a.1, i_left, x_mend2 n (hA.1 W) hv (by omega), nI_1, nI_1, i_shl1 (by omega), i_or, ← msk_snoc, show d + (k + 1) = d + 1 + k by omega]
            by_cases e : S.A.gl &&& two_ v = 0
            · rw [if_pos e, if_pos ((and_i0 hg).mpr e)]
              by_cases e2 : popN 16 (amU S W &&& com v) ≤ 2 * k
              · rw [if_pos e2, if_pos e2, bd_ret, if_neg i10]
              · rw [if_neg e2, if_neg e2, bd_ret, if_pos rfl]
            · rw [if_neg e, if_neg (fun q => e ((and_i0 hg).mp q))]
          have hfr := free_of (g := S.A.gl) hg hv hgr
          rw [un, e1, List.foldl_append]
          by_cases e : S.A.gl &&& two_ v = 0
          · rw [if_pos e]
            by_cases e2 : popN 16 (amU S W &&& com v) ≤ 2 * k
            · rw [if_pos e2]
              obtain ⟨r, M2, s1, s2, s3, -⟩ := x_step n hn hS hK.1 (d := d) (by omega) hv hW hr
              have f2 : Xf d M M2 := Xf.step (by omega) s2
              obtain ⟨M3, t1, t2, t3⟩ := ih f (d + 1) M2 (handF S.R S.A.gl v W) (pre ++ [v]) a (by omega) (by omega) (hK.fr f2) (hW.hand hS.hR _ _) (handF_end hv hgr he) (by rw [show 30 + (d + 1) = 31 + d by omega]; exact s3) (h3.off s2 (by simp; omega))
              have f3 := f2.trans t2.mono
              obtain ⟨M4, w1, w2, w3⟩ := ihj (v + 1) m M3 _ (by omega) (by omega) (hK.fr f3) (rows_fr hr f3) t3
              have eH : HH S.R S.A.gl stT (amU S) k W pre v = wds S.R S.A.gl stT (gdA (amU S)) k (handF S.R S.A.gl v W) (pre ++ [v]) := if_pos (by rw [hfr.mp e]; rfl)
              refine ⟨M4, ?_, f3.trans w2, by rw [eH]; exact w3⟩
              rw [s1, bd_ret, t1, bd_ret]
              exact w1
            · rw [if_neg e2]
              have eH : HH S.R S.A.gl stT (amU S) k W pre v = [] := by
                unfold HH
                split
                · exact wds_cut hA hv (by omega)
                · rfl
              rw [eH]
              exact ihj (v + 1) m M a (by omega) (by omega) hK hr h3
          · rw [if_neg e]
            have eH : HH S.R S.A.gl stT (amU S) k W pre v = [] := HH_free (Bool.eq_false_iff.mpr (fun q => e (hfr.mpr q)))
            rw [eH]
            exact ihj (v + 1) m M a (by omega) (by omega) hK hr h3
    obtain ⟨M', a1, a2, a3⟩ := key 15 0 n M a rfl (by omega) hK hr h3
    refine ⟨M', ?_, a2, a3⟩
    show gd (nI d) 7 (bd (X_Search_unlikeSeen n (([30, 31, 32, 33, 34, 35, 36] : List Nat).getD (nI d).toNatClampNeg 0) M) fun r2 M3 => (if nI d < nI (d + (k + 1)) then X_Search_fit_L56 n (X_Search_fit n f) (nI d) (nI (d + (k + 1))) (nI (msk pre)) r2 n 0 M3 else _)) = _
    rw [gd_in (vp_in_nI (n := d) (by omega) (by decide)), nI_clamp (by omega), lv_id (by omega), x_unlike n (by omega) hS hK.1 hW hr, bd_ret, if_pos (nI_lt (by omega) (by omega))]
    exact a1
end
section
/-! SEARCH: the class reaches -/
def HN (R : Rl) (g : Nat) (st : WW → Bool) (am : WW → Nat) (k : Nat) (W : WW) (pre : List Nat) (x : Nat) : List (List Nat) := if free R.1 g x && (!same R g x W && st (handF R g x W)) then wdn R g st (gdA am) k (handF R g x W) (pre ++ [x]) else []
def Pt (M : Mem) (w : List Nat) : Prop := ∀ i x, w[i]? = some x → M.1 27 i = nI x
theorem Pt.fr {M M' : Mem} {w : List Nat} {d : Nat} (h : Pt M w) (hw : w.length ≤ d) (ho : Xf d M M') : Pt M' w := fun i x hi => by
  rw [ho.2.2.2 i (by have := (List.getElem?_eq_some_iff.mp hi).1; omega)]
  exact h i x hi
theorem Pt.snoc {M : Mem} {w : List Nat} {x : Nat} (h : Pt M w) (e : M.1 27 w.length = nI x) : Pt M (w ++ [x]) := fun i y hi => by
  by_cases q : i < w.length
  · rw [List.getElem?_append_left q] at hi
    exact h i y hi
  · have hl := (List.getElem?_eq_some_iff.mp hi).1
    rw [List.length_append, List.length_singleton] at hl
    have : i = w.length := by omega
    subst this
    rw [List.getElem?_append_right (Nat.le_refl _), Nat.sub_self] at hi
    rw [e, ← Option.some.inj hi]
def RcR (l : List (List Nat)) (r : Int32) (M' : Mem) : Prop := (l = [] ∧ r = 0) ∨ ∃ w t, l = w :: t ∧ r = 1 ∧ Pt M' w
theorem same_gl {R : Rl} {g x : Nat} {W : WW} (h : (!g.testBit (les x) && !g.testBit (gre x)) = false) (p : Nat) : handF R g x W p = W p := by
  unfold handF
  rw [if_pos]
  cases e1 : g.testBit (les x) <;> cases e2 : g.testBit (gre x) <;> simp [e1, e2] at h ⊢
theorem x_reaches (n : Nat) (hn : 20 ≤ n) {S : Ab} (hS : Ok S) {u : Nat → Int32} {am : WW → Nat} {st : WW → Bool} (hA : OkA am) (hm : amH n S u am) (hb : baH n S u st) : ∀ k f d M W pre, k < f → d + k ≤ 4 → Ks S u M → OkW W → (∀ p, S.R.1 ≤ p → W p = []) → rowsAt M (30 + d) W → Pt M pre → pre.length = d → ∃ r M', X_Search_reaches n f (nI d) (nI (d + k)) M = some (r, M') ∧ Xf d M M' ∧ RcR (wdn S.R S.A.gl st (gdA am) k W pre) r M' := by
  have h6 := hS.p6
  have hg := hS.gl
  have hP := hS.hR.1
  intro k
  induction k with
  | zero =>
    intro f d M W pre hf hd hK hW he hr hp hl
    obtain ⟨f, rfl⟩ : ∃ q, f = q + 1 := ⟨f - 1, by omega⟩
    have un : X_Search_reaches n (f + 1) (nI d) (nI (d + 0)) M = (if nI (am W) = 0 then some (1, M) else some (0, M)) := by
      show gd (nI d) 7 (bd (X_Search_amiss n (([30, 31, 32, 33, 34, 35, 36] : List Nat).getD (nI d).toNatClampNeg 0) M) fun r2 M3 => (if nI d < nI d then _ else (if r2 = 0 then some (1, M3) else some (0, M3)))) = _
      rw [gd_in (vp_in_nI (n := d) (by omega) (by decide)), nI_clamp (by omega), lv_id (by omega), hm M W d (by omega) hK hW he hr, bd_ret, if_neg (Int32.lt_irrefl)]
    have hlt := hA.1 W
    rw [un]
    by_cases ea : am W = 0
    · have ew : wdn S.R S.A.gl st (gdA am) 0 W pre = [pre] := if_pos (decide_eq_true ea)
      rw [if_pos (by rw [ea]; rfl), ew]
      exact ⟨1, M, rfl, Xf.rf, Or.inr ⟨pre, [], rfl, rfl, hp⟩⟩
    · have ew : wdn S.R S.A.gl st (gdA am) 0 W pre = [] := if_neg (fun q => ea (of_decide_eq_true q))
      rw [if_neg (fun q => ea ((i_z (show am W < 2 ^ 31 by omega)).mp q)), ew]
      exact ⟨0, M, rfl, Xf.rf, Or.inl ⟨rfl, rfl⟩⟩
  | succ k ih =>
    intro f d M W pre hf hd hK hW he hr hp hl
    obtain ⟨f, rfl⟩ : ∃ q, f = q + 1 := ⟨f - 1, by omega⟩
    have key : ∀ j v m M, v + j = 15 → j < m → Ks S u M → rowsAt M (30 + d) W → Pt M pre → ∃ r M', X_Search_reaches_L29 n (X_Search_reaches n f) (nI d) (nI (d + (k + 1))) (nI (am W)) m (nI v) M = some (r, M') ∧ Xf d M M' ∧ RcR (fl (HN S.R S.A.gl st am k W pre) j) r M' := by
      intro j
      induction j with
      | zero =>
        intro v m M h1 h2 hK hr hpt
        obtain ⟨m, rfl⟩ : ∃ q, m = q + 1 := ⟨m - 1, by omega⟩
        have hp := (prs_i S.R.1 (by omega) hP).2
        refine ⟨0, M, ?_, Xf.rf, Or.inl ⟨rfl, rfl⟩⟩
        show (if M.1 26 8 ≤ nI v then _ else _) = _
        rw [hK.2.1, if_pos (nI_le (by omega) (by omega))]
      | succ j ihj =>
        intro v m M h1 h2 hK hr hpt
        obtain ⟨m, rfl⟩ : ∃ q, m = q + 1 := ⟨m - 1, by omega⟩
        have hp := (prs_i S.R.1 (by omega) hP).2
        have hv : v < 15 := by omega
        by_cases hx : prs S.R.1 ≤ v
        · have e0 : fl (HN S.R S.A.gl st am k W pre) (j + 1) = [] := (fl_nil _ (by omega)).mpr (fun x h4 h5 => if_neg (by rw [free_big (by omega) h5 (by omega), Bool.false_and]; decide))
          refine ⟨0, M, ?_, Xf.rf, Or.inl ⟨e0, rfl⟩⟩
          show (if M.1 26 8 ≤ nI v then _ else _) = _
          rw [hK.2.1, if_pos (nI_le (by omega) (by omega))]
        · have hgr : gre v < S.R.1 := (prs_gre S.R.1 (by omega) v hv).mp (by omega)
          have e1 : fl (HN S.R S.A.gl st am k W pre) (j + 1) = HN S.R S.A.gl st am k W pre v ++ fl (HN S.R S.A.gl st am k W pre) j := by
            show HN _ _ _ _ _ _ _ (14 - j) ++ _ = _
            rw [show 14 - j = v by omega]
          generalize hself : X_Search_reaches n f = self at ihj
          generalize hk101 : (fun (M8 : Mem) => X_Search_reaches_L29 n self (nI d) (nI (d + (k + 1))) (nI (am W)) m (nI (v + 1)) M8) = k101 at ihj
          have un : X_Search_reaches_L29 n self (nI d) (nI (d + (k + 1))) (nI (am W)) (m + 1) (nI v) M = (if popN 16 (am W &&& com v) ≤ 2 * k then bd (X_Search_step n (nI d) (nI v) M) fun r9 M10 => (if r9 = 0 then k101 M10 else bd (X_Search_isBarred n (30 + (d + 1)) M10) fun r12 M13 => (if r12 = 0 then bd (self (nI (d + 1)) (nI (d + 1 + k)) (si M13 27 d (nI v))) fun r15 M16 => (if r15 = 0 then k101 M16 else some (1, M16)) else k101 M13)) else k101 M) := by
            show (if M.1 26 8 ≤ nI v then _ else bd (X_Search_bitsOf n (nI v) M) fun r4 M5 => bd (X_Search_canMend n (nI (am W)) r4 ((nI (d + (k + 1)) - nI d) - 1) M5) fun r6 M7 => nm (fun (M8 : Mem) => (X_Search_reaches_L29 n self (nI d) (nI (d + (k + 1))) (nI (am W)) m (nI v + 1) M8 : Option (Int32 × Mem))) fun k101 => (if r6 = 0 then k101 M7 else bd (X_Search_step n (nI d) (nI v) M7) fun r9 M10 => (if r9 = 0 then k101 M10 else gd (nI d + 1) 7 (bd (X_Search_isBarred n (([30, 31, 32, 33, 34, 35, 36] : List Nat).getD (nI d + 1).toNatClampNeg 0) M10) fun r12 M13 => (if r12 = 0 then gd (nI d) 6 (nm (si M13 27 ((nI d).toNatClampNeg) (nI v)) fun N14 => bd (self (nI d + 1) (nI (d + (k + 1))) N14) fun r15 M16 => (if r15 = 0 then k101 M16 else some (1, M16))) else k101 M13))))) = _
            have hv1 : vp_in (nI (d + 1)) 7 := vp_in_nI (n := d + 1) (by omega) (by decide)
            have hv2 : vp_in (nI d) 6 := vp_in_nI (n := d) (by omega) (by decide)
            have hc1 : (nI (d + 1)).toNatClampNeg = d + 1 := nI_clamp (by omega)
            have hc2 : (nI d).toNatClampNeg = d := nI_clamp (by omega)
            have hlv : ([30, 31, 32, 33, 34, 35, 36] : List Nat).getD (d + 1) 0 = 30 + (d + 1) := lv_id (by omega)
            have hdk : d + (k + 1) = d + 1 + k := by omega
            rw [hK.2.1, if_neg (nI_ge (by omega) (by omega)), x_bits2 n hv, bd_ret, i_left, x_mend2 n (hA.1 W) hv (by omega), bd_ret]
            simp only [nm, nI_1, gd_in hv1, gd_in hv2, hc1, hc2, hlv]
            rw [← hk101, hdk]
            by_cases e2 : popN 16 (am W &&& com v) ≤ 2 * k
            · rw [if_pos e2, if_pos e2, if_neg i10]
            · rw [if_neg e2, if_neg e2, if_pos rfl]
          rw [un, e1]
          have ihj : ∀ M, Ks S u M → rowsAt M (30 + d) W → Pt M pre → ∃ r M', k101 M = some (r, M') ∧ Xf d M M' ∧ RcR (fl (HN S.R S.A.gl st am k W pre) j) r M' := fun M a1 a2 a3 => by
            rw [← hk101]
            exact ihj (v + 1) m M (by omega) (by omega) a1 a2 a3
          have hfr := free_of (g := S.A.gl) hg hv hgr
          by_cases e2 : popN 16 (am W &&& com v) ≤ 2 * k
          · rw [if_pos e2]
            obtain ⟨r, M2, s1, s2, s3, s4⟩ := x_step n hn hS hK.1 (d := d) (by omega) hv hW hr
            have f2 : Xf d M M2 := Xf.step (by omega) s2
            have hW2 : OkW (handF S.R S.A.gl v W) := hW.hand hS.hR _ _
            have he2 := handF_end (R := S.R) (g := S.A.gl) hv hgr he
            have s3 : rowsAt M2 (30 + (d + 1)) (handF S.R S.A.gl v W) := by rw [show 30 + (d + 1) = 31 + d by omega]; exact s3
            have hp2 : Pt M2 pre := hpt.fr (by omega) f2
            have ih2 := ihj M2 (hK.fr f2) (rows_fr hr f2) hp2
            rw [s1, bd_ret]
            rcases s4 with ⟨r0, s4⟩ | ⟨r1, s4⟩
            · rw [if_pos r0]
              have eH : HN S.R S.A.gl st am k W pre v = [] := if_neg (by rw [same_iff.mpr s4]; simp)
              rw [eH]
              obtain ⟨r, M3, t1, t2, t3⟩ := ih2
              exact ⟨r, M3, t1, f2.trans t2, t3⟩
            · rw [r1, if_neg i10, hb M2 _ (d + 1) (by omega) (hK.fr f2) hW2 he2 s3, bd_ret]
              have hsm : same S.R S.A.gl v W = false := Bool.eq_false_iff.mpr (fun q => by
                obtain ⟨p, p1, p2⟩ := s4
                exact p2 (same_iff.mp q p p1))
              have hf : free S.R.1 S.A.gl v = true := by
                cases q : free S.R.1 S.A.gl v with
                | true => rfl
                | false =>
                  obtain ⟨p, p1, p2⟩ := s4
                  refine absurd (same_gl ?_ p) p2
                  unfold free at q
                  rw [decide_eq_true hgr, Bool.true_and] at q
                  exact q
              cases es : st (handF S.R S.A.gl v W) with
              | false =>
                have eH : HN S.R S.A.gl st am k W pre v = [] := if_neg (by rw [es]; simp)
                rw [eH]
                obtain ⟨r, M3, t1, t2, t3⟩ := ih2
                exact ⟨r, M3, t1, f2.trans t2, t3⟩
              | true =>
                have eH : HN S.R S.A.gl st am k W pre v = wdn S.R S.A.gl st (gdA am) k (handF S.R S.A.gl v W) (pre ++ [v]) := if_pos (by rw [es, hf, hsm]; rfl)
                rw [eH, if_pos (show (if true = true then (0 : Int32) else 1) = 0 from rfl)]
                have f3 : Xf d M2 (si M2 27 d (nI v)) := Xf.path
                have hp3 : Pt (si M2 27 d (nI v)) (pre ++ [v]) := (hp2.fr (by omega) f3).snoc (by rw [hl]; exact si_at _ _ _ _)
                obtain ⟨r, M3, t1, t2, t3⟩ := ih f (d + 1) (si M2 27 d (nI v)) (handF S.R S.A.gl v W) (pre ++ [v]) (by omega) (by omega) ((hK.fr f2).fr f3) hW2 he2 s3 hp3 (by rw [List.length_append, hl]; rfl)
                rw [hself] at t1
                rw [t1, bd_ret]
                have f4 := (f2.trans f3).trans t2.mono
                rcases t3 with ⟨t3, t4⟩ | ⟨w, t, t3, t4, t5⟩
                · rw [if_pos t4, t3]
                  obtain ⟨r, M4, w1, w2, w3⟩ := ihj M3 (hK.fr f4) (rows_fr hr f4) (hpt.fr (by omega) f4)
                  exact ⟨r, M4, w1, f4.trans w2, w3⟩
                · rw [t4, if_neg i10, t3]
                  exact ⟨1, M3, rfl, f4, Or.inr ⟨w, _, rfl, rfl, t5⟩⟩
          · rw [if_neg e2]
            have eH : HN S.R S.A.gl st am k W pre v = [] := by
              unfold HN
              split
              · exact wdn_nil _ _ _ (wds_cut hA hv (by omega))
              · rfl
            rw [eH]
            exact ihj M hK hr hpt
    obtain ⟨r, M', a1, a2, a3⟩ := key 15 0 n M rfl (by omega) hK hr hp
    refine ⟨r, M', ?_, a2, a3⟩
    show gd (nI d) 7 (bd (X_Search_amiss n (([30, 31, 32, 33, 34, 35, 36] : List Nat).getD (nI d).toNatClampNeg 0) M) fun r2 M3 => (if nI d < nI (d + (k + 1)) then X_Search_reaches_L29 n (X_Search_reaches n f) (nI d) (nI (d + (k + 1))) r2 n 0 M3 else _)) = _
    rw [gd_in (vp_in_nI (n := d) (by omega) (by decide)), nI_clamp (by omega), lv_id (by omega), hm M W d (by omega) hK hW he hr, bd_ret, if_pos (nI_lt (by omega) (by omega))]
    exact a1
end
section
/-! CALLS: fewest, lose, fits, least -/
theorem x_fewestHands (n : Nat) (hn : 20 ≤ n) {S : Ab} (hS : Ok S) {u : Nat → Int32} {am : WW → Nat} {st : WW → Bool} (hA : OkA am) (hm : amH n S u am) (hb : baH n S u st) {M : Mem} (hK : Ks S u M) (hr : rowsAt M 30 S.A.W) : ∃ r M', X_Search_fewestHands n M = some (r, M') ∧ Off xQ M M' ∧ FwR S am st 27 r M' := by
  have hW := hS.hA.1
  have he := hS.hA.2.1
  have key : st S.A.W = true → ∀ e N f M, N + e = 5 → e < f → Ks S u M → rowsAt M 30 S.A.W → (∀ j, j < N → LL S am st j = []) → ∃ r M', X_Search_fewestHands_L18 n f (nI N) M = some (r, M') ∧ Off xQ M M' ∧ FwR S am st 27 r M' := by
    intro es e
    have eL : ∀ j, LL S am st j = wds S.R S.A.gl st (gdA am) j S.A.W [] := fun j => by unfold LL; rw [es]; rfl
    induction e with
    | zero =>
      intro N f M h1 h2 hK hr hl
      obtain ⟨f, rfl⟩ : ∃ q, f = q + 1 := ⟨f - 1, by omega⟩
      refine ⟨-4, M, ?_, Off.rf, Or.inr ⟨fun j hj => hl j (by omega), rfl⟩⟩
      show (if (4 : Int32) < nI N then _ else _) = _
      rw [if_pos (show (4 : Int32) < nI N from nI_lt (a := 4) (by omega) (by omega))]
    | succ e ih =>
      intro N f M h1 h2 hK hr hl
      obtain ⟨f, rfl⟩ : ∃ q, f = q + 1 := ⟨f - 1, by omega⟩
      obtain ⟨r, M2, b1, b2, b3⟩ := x_reaches n hn hS hA hm hb N 12 0 M S.A.W [] (by omega) (by omega) hK hW he hr (fun i x h => absurd h (by simp)) rfl
      rw [Nat.zero_add] at b1
      rw [wdn_wds N S.A.W [] (fun j hj q => wds_pre j _ _ _ (by rw [← eL]; exact hl j hj)), ← eL] at b3
      have un : X_Search_fewestHands_L18 n (f + 1) (nI N) M = if r = 0 then X_Search_fewestHands_L18 n f (nI (N + 1)) M2 else some (nI N, M2) := by
        show (if (4 : Int32) < nI N then _ else bd (X_Search_reaches n 12 0 (nI N) M) fun r4 M5 => (if r4 = 0 then X_Search_fewestHands_L18 n f (nI N + 1) M5 else some (nI N, M5))) = _
        rw [if_neg (show ¬ (4 : Int32) < nI N from Int32.not_lt.mpr (nI_le (b := 4) (by omega) (by decide))), show X_Search_reaches n 12 0 (nI N) M = _ from b1, bd_ret, nI_1]
      rw [un]
      rcases b3 with ⟨b3, b4⟩ | ⟨w, t, b3, b4, b5⟩
      · rw [if_pos b4]
        obtain ⟨r, M', c1, c2, c3⟩ := ih (N + 1) f M2 (by omega) (by omega) (hK.fr b2) (rows_fr (d := 0) hr b2) (fun j hj => by
          by_cases q : j = N
          · rw [q]; exact b3
          · exact hl j (by omega))
        exact ⟨r, M', c1, b2.1.trans c2, c3⟩
      · rw [b4, if_neg i10]
        exact ⟨nI N, M2, rfl, b2.1, Or.inl ⟨N, w, t, by omega, hl, b3, rfl, b5⟩⟩
  have eb := hb M S.A.W 0 (by omega) hK hW he hr
  have un : X_Search_fewestHands n M = if (if st S.A.W then (0 : Int32) else 1) = 0 then X_Search_fewestHands_L18 n n (nI 0) M else some (-4, M) := by
    unfold X_Search_fewestHands
    rw [gd_in v07, show X_Search_isBarred n (([30, 31, 32, 33, 34, 35, 36] : List Nat).getD (0 : Int32).toNatClampNeg 0) M = _ from eb, bd_ret]
    rfl
  rw [un]
  cases es : st S.A.W with
  | false =>
    refine ⟨-4, M, rfl, Off.rf, Or.inr ⟨fun j _ => by unfold LL; rw [es]; rfl, rfl⟩⟩
  | true =>
    rw [if_pos (show (if true = true then (0 : Int32) else 1) = 0 from rfl)]
    exact key es 5 0 n M rfl (by omega) hK hr (fun j hj => absurd hj (Nat.not_lt_zero j))
theorem FwR_two {S : Ab} {am : WW → Nat} {st : WW → Bool} {c c' : Nat} {r r' : Int32} {M M' : Mem} (h : FwR S am st c r M) (h' : FwR S am st c' r' M') : (r = -4 ∧ r' = -4) ∨ ∃ N w, N ≤ 4 ∧ r = nI N ∧ r' = nI N ∧ List.length w = N ∧ ∀ i x, w[i]? = some x → M.1 c i = nI x ∧ M'.1 c' i = nI x := by
  rcases h with ⟨N, w, l, h1, h2, h3, h4, h5⟩ | ⟨h1, h2⟩
  · rcases h' with ⟨N', w', l', g1, g2, g3, g4, g5⟩ | ⟨g1, g2⟩
    · have e : N = N' := by
        rcases Nat.lt_trichotomy N N' with q | q | q
        · rw [g2 N q] at h3; exact absurd h3 (by simp)
        · exact q
        · rw [h2 N' q] at g3; exact absurd g3 (by simp)
      subst e
      rw [h3] at g3
      obtain ⟨rfl, rfl⟩ := List.cons.inj g3
      refine Or.inr ⟨N, w, h1, h4, g4, ?_, fun i x hi => ⟨h5 i x hi, g5 i x hi⟩⟩
      unfold LL at h3
      split at h3
      · have := wds_len N S.A.W [] w (by rw [h3]; exact List.mem_cons_self)
        rw [this]; exact Nat.zero_add N
      · exact absurd h3 (by simp)
    · rw [g1 N h1] at h3
      exact absurd h3 (by simp)
  · rcases h' with ⟨N', w', l', g1, g2, g3, g4, g5⟩ | ⟨g1, g2⟩
    · rw [h1 N' g1] at g3
      exact absurd g3 (by simp)
    · exact Or.inl ⟨h2, g2⟩
theorem x_areP {M : Mem} {P : Nat} (hP : P ≤ 6) (h : M.1 11 0 = nI P) (p : Int32) : X_ShakeHands_arePeople fuel p M = some (if vN p (2 ^ P) then 1 else 0, M) := by
  have hp := pw6 hP
  unfold X_ShakeHands_arePeople
  rw [x_everybody hP h, bd_ret]
  rcases i_cases p with q | ⟨k, hk, rfl⟩
  · rw [if_pos q, if_neg]
    unfold vN
    rw [decide_eq_false (Int32.not_le.mpr q), Bool.false_and]
    decide
  · rw [if_neg (nI_pos hk), vN_k (by omega) hk]
    by_cases e : k < 2 ^ P
    · rw [if_neg (Int32.not_lt.mpr (nI_le (by omega) (by omega))), decide_eq_true e]
      rfl
    · rw [if_pos (nI_lt (by omega) hk), decide_eq_false e]
      rfl
theorem m_areP (n : Nat) {M : Mem} {P : Nat} (hP : P ≤ 6) (h : M.1 0 2 = nI P) (p : Int32) : X_Model_areOnes n p M = some (if vN p (2 ^ P) then 1 else 0, M) := by
  have hp := pw6 hP
  unfold X_Model_areOnes
  rw [h, two_P hP, m_inV n (show 2 ^ P < 2 ^ 31 by omega), bd_ret, zr_b]
theorem t_cases (p : Int32) : (p < 10 ∧ ¬ (10 ≤ p ∧ p ≤ 13)) ∨ (14 ≤ p ∧ ¬ p < 10 ∧ ¬ (10 ≤ p ∧ p ≤ 13) ∧ p ≠ 0) ∨ ∃ k, k < 4 ∧ p = nI (10 + k) := by
  rcases i_cases p with q | ⟨k, hk, rfl⟩
  · have : p < 10 := Int32.lt_trans q (by decide)
    exact Or.inl ⟨this, fun r => absurd r.1 (Int32.not_le.mpr this)⟩
  · by_cases e : k < 10
    · have : nI k < 10 := nI_lt (b := 10) e (by decide)
      exact Or.inl ⟨this, fun r => absurd r.1 (Int32.not_le.mpr this)⟩
    · by_cases e2 : k < 14
      · exact Or.inr (Or.inr ⟨k - 10, by omega, by rw [show 10 + (k - 10) = k by omega]⟩)
      · have h1 : (14 : Int32) ≤ nI k := nI_le (a := 14) (by omega) hk
        refine Or.inr (Or.inl ⟨h1, Int32.not_lt.mpr (nI_le (a := 10) (by omega) hk), fun r => absurd r.2 (Int32.not_le.mpr (nI_lt (a := 13) (by omega) hk)), fun q => ?_⟩)
        have := (i_z hk).mp q
        omega
theorem x_look {S : Ab} (hS : Ok S) {M : Mem} (hM : XA M S) {t so sh ne : Nat} (ht : t < 16) (h1 : so < 64) (h2 : sh < 64) : ∃ r M', (∀ F : Int32 → Mem → Option (Int32 × Mem), (bd (X_Search_begin fuel M) fun _ M9 => bd (X_Search_aim fuel (nI t) (nI so) (nI sh) (nI ne) M9) fun _ M11 => bd (X_Search_fewestHands fuel M11) fun r12 M13 => F r12 M13) = F r M') ∧ XA M' S ∧ FwR S (amF S.R.1 t so sh) (stF S.R.1 t ne) 27 r M' := by
  obtain ⟨M9, a1, a2, a3, a4⟩ := x_begin hS hM
  have hM9 : XA M9 S := hM.off (a2.mono (fun a ha => xQ_S (xQ_of (by simp at ha; omega))))
  obtain ⟨M11, b1, b2, b3⟩ := x_aim fuel (nI t) (nI so) (nI sh) (nI ne) hM9 a3
  obtain ⟨r, M13, c1, c2, c3⟩ := x_fewestHands fuel (by decide) hS (amF_ok h1 h2) (am_k fuel (by decide) hS ht) (ba_k fuel (by decide) hS ht) b3 (a4.off b2 (by simp))
  refine ⟨r, M13, fun F => ?_, b3.1.off (c2.mono (fun a ha => xQ_S ha)), c3⟩
  rw [a1, bd_ret, b1, bd_ret, c1, bd_ret]
theorem m_look {S : Ab} (hS : Ok S) {M : Mem} (hM : MA M S) {t so ot : Nat} (ht : t < 16) (h1 : so < 64) : ∃ r M', (∀ F : Int32 → Mem → Option (Int32 × Mem), (bd (X_Model_asks fuel 0 (nI t) (nI so) (nI ot) M) fun _ M9 => bd (X_Model_fewestHands fuel M9) fun r12 M13 => F r12 M13) = F r M') ∧ MA M' S ∧ FwR S (amF S.R.1 t so 0) (stF S.R.1 t ot) 18 r M' := by
  obtain ⟨M9, a1, a2, a3⟩ := m_asks fuel 0 (nI t) (nI so) (nI ot) hS hM
  obtain ⟨r, M13, c1, c2, c3⟩ := m_fewestHands fuel (by decide) hS (gd_k0 fuel (by decide) hS ht h1) (st_k0 fuel (by decide) hS ht) a2 a3
  refine ⟨r, M13, fun F => ?_, c2, c3⟩
  rw [a1, bd_ret, c1, bd_ret]
end
section
/-! CALLS: fewest, lose -/
theorem sim_fewest (a0 a1 a2 a3 : Int32) : Sm (fun M => X_ShakeHands_fewest fuel a0 a1 a2 a3 M) (fun M => X_Model_fewest fuel a0 a1 a2 a3 M) := by
  intro Mx Mm hR
  have hR0 := hR
  obtain ⟨S, hS, hx, hm⟩ := hR
  have hg := hS.gl
  have h6 := hS.p6
  have hpw := pw6 h6
  show ∃ r Mx2 Mm2, X_ShakeHands_fewest fuel a0 a1 a2 a3 Mx = some (r, Mx2) ∧ X_Model_fewest fuel a0 a1 a2 a3 Mm = some (r, Mm2) ∧ Rel Mx2 Mm2
  generalize hu : (if 10 ≤ a3 ∧ a3 ≤ 13 then (1 : Int32) else 0) = u1
  have ux : X_ShakeHands_fewest fuel a0 a1 a2 a3 Mx = (if vN a0 16 then (if vN a1 (2 ^ S.R.1) then (if vN a2 (2 ^ S.R.1) then (if a3 = 0 ∨ ¬ u1 = 0 then (bd (X_Search_begin fuel Mx) fun _ M9 => bd (X_Search_aim fuel a0 a1 0 a2 M9) fun _ M11 => bd (X_Search_fewestHands fuel M11) fun r12 M13 => (if u1 = 0 then some (r12, M13) else (if r12 = (-4) then some (r12, M13) else (if r12 ≤ (a3 - 10) then some ((-4), M13) else gd (a3 - 10) 6 (some ((M13.1 27 (a3 - 10).toNatClampNeg), M13)))))) else some (-1, Mx)) else some (-1, Mx)) else some (-1, Mx)) else some (-1, Mx)) := by
    have body : ∀ u1 : Int32, (bd (X_ShakeHands_isThing fuel a0 Mx) fun r2 M3 => (if r2 = 0 then some ((-1), M3) else bd (X_ShakeHands_arePeople fuel a1 M3) fun r4 M5 => (if r4 = 0 then some ((-1), M5) else bd (X_ShakeHands_arePeople fuel a2 M5) fun r6 M7 => (if r6 = 0 then some ((-1), M7) else nm (bd (X_Search_begin fuel M7) fun _ M9 => bd (X_Search_aim fuel a0 a1 0 a2 M9) fun _ M11 => bd (X_Search_fewestHands fuel M11) fun r12 M13 => (if u1 = 0 then some (r12, M13) else (if r12 = (-4) then some (r12, M13) else (if r12 ≤ (a3 - 10) then some ((-4), M13) else gd (a3 - 10) 6 (some ((M13.1 27 (a3 - 10).toNatClampNeg), M13))))) : Option (Int32 × Mem)) fun k56 => (if a3 = 0 then k56 else (if u1 = 0 then some ((-1), M7) else k56))))) : Option (Int32 × Mem)) = (if vN a0 16 then (if vN a1 (2 ^ S.R.1) then (if vN a2 (2 ^ S.R.1) then (if a3 = 0 ∨ ¬ u1 = 0 then (bd (X_Search_begin fuel Mx) fun _ M9 => bd (X_Search_aim fuel a0 a1 0 a2 M9) fun _ M11 => bd (X_Search_fewestHands fuel M11) fun r12 M13 => (if u1 = 0 then some (r12, M13) else (if r12 = (-4) then some (r12, M13) else (if r12 ≤ (a3 - 10) then some ((-4), M13) else gd (a3 - 10) 6 (some ((M13.1 27 (a3 - 10).toNatClampNeg), M13)))))) else some (-1, Mx)) else some (-1, Mx)) else some (-1, Mx)) else some (-1, Mx)) := fun u1 => by
      rw [x_isThing, bd_ret, x_areP h6 hx.c.1, bd_ret, x_areP h6 hx.c.1, bd_ret]
      cases vN a0 16 with
      | false => rfl
      | true =>
        cases vN a1 (2 ^ S.R.1) with
        | false => rfl
        | true =>
          cases vN a2 (2 ^ S.R.1) with
          | false => rfl
          | true =>
            simp only [nm, if_true, if_neg i10]
            by_cases e1 : a3 = 0
            · rw [if_pos e1, if_pos (Or.inl e1)]
            · rw [if_neg e1]
              by_cases e2 : u1 = 0
              · rw [if_pos e2, if_neg (fun q => q.elim e1 (fun r => r e2))]
              · rw [if_neg e2, if_pos (Or.inr e2)]
    rw [← body u1]
    show (if a3 < 10 then _ else (if 14 ≤ a3 then _ else _)) = _
    rcases t_cases a3 with ⟨q1, q2⟩ | ⟨q1, q2, q3, -⟩ | ⟨k, q1, q2⟩
    · rw [if_pos q1, ← hu, if_neg q2]
    · rw [if_neg q2, if_pos q1, ← hu, if_neg q3]
    · have h10 : ¬ a3 < 10 := by rw [q2]; exact Int32.not_lt.mpr (nI_le (a := 10) (by omega) (by omega))
      have h14 : ¬ (14 : Int32) ≤ a3 := by rw [q2]; exact nI_ge (b := 14) (by omega) (by omega)
      have hin : 10 ≤ a3 ∧ a3 ≤ 13 := ⟨Int32.not_lt.mp h10, by rw [q2]; exact nI_le (b := 13) (by omega) (by decide)⟩
      rw [if_neg h10, if_neg h14, ← hu, if_pos hin]
  have um : X_Model_fewest fuel a0 a1 a2 a3 Mm = (if vN a0 16 then (if vN a1 (2 ^ S.R.1) then (if vN a2 (2 ^ S.R.1) then (if a3 = 0 ∨ ¬ u1 = 0 then (bd (X_Model_asks fuel 0 a0 a1 a2 Mm) fun _ M9 => bd (X_Model_fewestHands fuel M9) fun r10 M11 => (if r10 = (-4) then some ((-4), M11) else (if a3 = 0 then some (r10, M11) else (if r10 ≤ (a3 - 10) then some ((-4), M11) else gd (a3 - 10) 4 (some ((M11.1 18 (a3 - 10).toNatClampNeg), M11)))))) else some (-1, Mm)) else some (-1, Mm)) else some (-1, Mm)) else some (-1, Mm)) := by
    unfold X_Model_fewest
    rw [m_isThing, bd_ret, m_areP fuel h6 hm.c.1, bd_ret, m_areP fuel h6 hm.c.1, bd_ret, show X_Model_in fuel a3.toInt64 10 13 Mm = _ from m_in fuel a3 10 13 Mm, hu]
    cases vN a0 16 with
    | false => rfl
    | true =>
      cases vN a1 (2 ^ S.R.1) with
      | false => rfl
      | true =>
        cases vN a2 (2 ^ S.R.1) with
        | false => rfl
        | true =>
          simp only [nm, bd_ret, if_true, if_neg i10]
          by_cases e1 : a3 = 0
          · rw [if_pos e1, if_pos (Or.inl e1)]
          · rw [if_neg e1]
            by_cases e2 : u1 = 0
            · rw [if_pos e2, if_neg (fun q => q.elim e1 (fun r => r e2))]
            · rw [if_neg e2, if_pos (Or.inr e2)]
  rw [ux, um]
  cases ev0 : vN a0 16 with
  | false => exact ⟨_, _, _, rfl, rfl, hR0⟩
  | true =>
    cases ev1 : vN a1 (2 ^ S.R.1) with
    | false => exact ⟨_, _, _, rfl, rfl, hR0⟩
    | true =>
      cases ev2 : vN a2 (2 ^ S.R.1) with
      | false => exact ⟨_, _, _, rfl, rfl, hR0⟩
      | true =>
        rw [if_pos rfl, if_pos rfl, if_pos rfl, if_pos rfl, if_pos rfl, if_pos rfl]
        by_cases eok : a3 = 0 ∨ ¬ u1 = 0
        · rw [if_pos eok, if_pos eok]
          obtain ⟨b1, b2⟩ := vN_y (by decide) ev0
          obtain ⟨c1, c2⟩ := vN_y (by omega) ev1
          obtain ⟨d1, d2⟩ := vN_y (by omega) ev2
          obtain ⟨r, M', f1, f2, f3⟩ := x_look hS hx (t := pN a0) (so := pN a1) (sh := 0) (ne := pN a2) b1 (by omega) (by decide)
          obtain ⟨r', M2, g1, g2, g3⟩ := m_look hS hm (t := pN a0) (so := pN a1) (ot := pN a2) b1 (by omega)
          rw [← b2, ← c2, ← d2] at f1 g1
          rw [show nI 0 = (0 : Int32) from rfl] at f1
          have hRel : Rel M' M2 := ⟨S, hS, f2, g2⟩
          rw [f1 (fun r12 M13 => (if u1 = 0 then some (r12, M13) else (if r12 = (-4) then some (r12, M13) else (if r12 ≤ (a3 - 10) then some ((-4), M13) else gd (a3 - 10) 6 (some ((M13.1 27 (a3 - 10).toNatClampNeg), M13)))))), g1 (fun r10 M11 => (if r10 = (-4) then some ((-4), M11) else (if a3 = 0 then some (r10, M11) else (if r10 ≤ (a3 - 10) then some ((-4), M11) else gd (a3 - 10) 4 (some ((M11.1 18 (a3 - 10).toNatClampNeg), M11))))))]
          rcases FwR_two f3 g3 with ⟨e1, e2⟩ | ⟨N, w, n1, n2, n3, n4, n5⟩
          · rw [e1, e2]
            refine ⟨-4, M', M2, ?_, rfl, hRel⟩
            by_cases q : u1 = 0
            · rw [if_pos q]
            · rw [if_neg q, if_pos rfl]
          · rw [n2, n3, if_neg (i_ne4 (by omega)), if_neg (i_ne4 (by omega))]
            rcases t_cases a3 with ⟨q1, q2⟩ | ⟨q1, q2, q3, q4⟩ | ⟨k, q1, q2⟩
            · rw [if_neg q2] at hu
              have h0 : a3 = 0 := eok.resolve_right (fun q => q hu.symm)
              rw [← hu, if_pos rfl, if_pos h0]
              exact ⟨_, _, _, rfl, rfl, hRel⟩
            · rw [if_neg q3] at hu
              have h0 : a3 = 0 := eok.resolve_right (fun q => q hu.symm)
              exact absurd h0 q4
            · have h10 : ¬ a3 < 10 := by rw [q2]; exact Int32.not_lt.mpr (nI_le (a := 10) (by omega) (by omega))
              have hin : 10 ≤ a3 ∧ a3 ≤ 13 := ⟨Int32.not_lt.mp h10, by rw [q2]; exact nI_le (b := 13) (by omega) (by decide)⟩
              have h0 : ¬ a3 = 0 := fun q => by rw [q2] at q; have := (i_z (k := 10 + k) (by omega)).mp q; omega
              have es : a3 - 10 = nI k := by rw [q2, show (10 : Int32) = nI 10 from rfl, pk_sub (by omega), show 10 + k - 10 = k by omega]
              rw [if_pos hin] at hu
              rw [← hu, if_neg i10, if_neg h0, es]
              by_cases hk : N ≤ k
              · rw [if_pos (nI_le hk (by omega)), if_pos (nI_le hk (by omega))]
                exact ⟨_, _, _, rfl, rfl, hRel⟩
              · have hkw : k < w.length := by omega
                obtain ⟨y1, y2⟩ := n5 k w[k] (List.getElem?_eq_getElem hkw)
                rw [if_neg (nI_ge (by omega) (by omega)), if_neg (nI_ge (by omega) (by omega)), gd_in (vp_in_nI (n := k) (by omega) (by decide)), gd_in (vp_in_nI (n := k) (by omega) (by decide)), nI_clamp (by omega), y1, y2]
                exact ⟨_, _, _, rfl, rfl, hRel⟩
        · rw [if_neg eok, if_neg eok]
          exact ⟨_, _, _, rfl, rfl, hR0⟩
theorem sim_lose (a0 : Int32) : Sm (fun M => X_ShakeHands_lose fuel a0 M) (fun M => X_Model_lose fuel a0 M) := by
  intro Mx Mm hR
  have hR0 := hR
  obtain ⟨S, hS, hx, hm⟩ := hR
  have h6 := hS.p6
  have hpw := pw6 h6
  show ∃ r Mx2 Mm2, X_ShakeHands_lose fuel a0 Mx = some (r, Mx2) ∧ X_Model_lose fuel a0 Mm = some (r, Mm2) ∧ Rel Mx2 Mm2
  unfold X_ShakeHands_lose X_Model_lose
  rw [x_isThing, m_isThing, bd_ret, bd_ret]
  cases ev0 : vN a0 16 with
  | false => exact ⟨_, _, _, rfl, rfl, hR0⟩
  | true =>
    obtain ⟨b1, b2⟩ := vN_y (by decide) ev0
    obtain ⟨M9, c1, c2, c3, c4⟩ := x_begin hS hx
    have hM9 : XA M9 S := hx.off (c2.mono (fun a ha => xQ_S (xQ_of (by simp at ha; omega))))
    obtain ⟨M11, d1, d2, d3⟩ := x_aim fuel a0 (nI 0) (nI (2 ^ S.R.1 - 1)) (nI 0) hM9 c3
    rw [b2] at d3
    obtain ⟨r, M13, f1, f2, f3⟩ := x_fewestHands fuel (by decide) hS (amF_ok (P := S.R.1) (t := pN a0) (so := 0) (sh := 2 ^ S.R.1 - 1) (by decide) (by omega)) (am_k fuel (by decide) hS b1) (ba_k fuel (by decide) hS b1) d3 (c4.off d2 (by simp))
    obtain ⟨M4, g1, g2, g3⟩ := m_asks fuel 1 a0 0 0 hS hm
    rw [b2] at g3
    obtain ⟨r', M6, k1, k2, k3⟩ := m_fewestHands fuel (by decide) hS (gd_k1 fuel (by decide) hS b1) (st_k1 fuel (by decide) (pN a0)) g2 g3
    have hRel : Rel M13 M6 := ⟨S, hS, d3.1.off (f2.mono (fun a ha => xQ_S ha)), k2⟩
    simp only [if_true, if_neg i10]
    rw [c1, bd_ret, x_everybody h6 hM9.c.1, bd_ret, show X_Search_aim fuel a0 0 (nI (2 ^ S.R.1 - 1)) 0 M9 = _ from d1, bd_ret, f1, bd_ret, g1, bd_ret, k1, bd_ret]
    rcases FwR_two f3 k3 with ⟨e1, e2⟩ | ⟨N, w, n1, n2, n3, n4, n5⟩
    · rw [e1, e2]; exact ⟨_, _, _, rfl, rfl, hRel⟩
    · rw [n2, n3]; exact ⟨_, _, _, rfl, rfl, hRel⟩
end
section
/-! CALLS: fits, least -/
theorem wds_mem {R : Rl} {g : Nat} {st gd : WW → Bool} : ∀ (k : Nat) (W : WW) (p w : List Nat), (∀ x ∈ p, x < 15) → w ∈ wds R g st gd k W p → ∀ x ∈ w, x < 15
  | 0, W, p, w, hp, h => by
    have h : w ∈ (if gd W then [p] else []) := h
    split at h
    · rw [List.mem_singleton.mp h]; exact hp
    · exact absurd h List.not_mem_nil
  | k + 1, W, p, w, hp, h => by
    refine fl_all (Q := fun w => ∀ x ∈ w, x < 15) (fun x hx w hw => ?_) 15 w h
    split at hw
    · refine wds_mem k _ _ w (fun y hy => ?_) hw
      rcases List.mem_append.mp hy with q | q
      · exact hp y q
      · rw [List.mem_singleton.mp q]; exact hx
    · exact absurd hw List.not_mem_nil
theorem msk_lt {w : List Nat} (h : ∀ x ∈ w, x < 15) : msk w < 2 ^ 15 := by
  have key : ∀ (w : List Nat) (v : Nat), (∀ x ∈ w, x < 15) → v < 2 ^ 15 → w.foldl (fun v x => v ||| 2 ^ x) v < 2 ^ 15 := by
    intro w
    induction w with
    | nil => intro v _ hv; exact hv
    | cons x w ih =>
      intro v h hv
      exact ih _ (fun y hy => h y (List.mem_cons_of_mem _ hy)) (Nat.or_lt_two_pow hv (Nat.pow_lt_pow_right (by decide) (h x List.mem_cons_self)))
  exact key w 0 h (by decide)
def ac3 (a : Ac) : Int32 × Int32 × Int32 := (nI a.1, nI a.2.1, nI a.2.2.1)
theorem addC_pos : ∀ (l : List (List Nat)) (a : Ac), 0 < a.1 → l.foldl addC (ac3 a) = ac3 (pall false a l)
  | [], a, _ => rfl
  | w :: l, a, h => by
    have e : push false a w = (a.1 + 1, a.2.1 &&& msk w, a.2.2.1 ||| msk w, a.2.2.2) := by
      unfold push
      rw [if_neg (by simp), if_neg (by omega), if_neg (by omega)]
    have e2 : addC (ac3 a) w = ac3 (push false a w) := by
      rw [e]
      show (nI a.1 + 1, nI a.2.1 &&& nI (msk w), nI a.2.2.1 ||| nI (msk w)) = (nI (a.1 + 1), nI (a.2.1 &&& msk w), nI (a.2.2.1 ||| msk w))
      rw [nI_1, i_and, i_or]
    show l.foldl addC (addC (ac3 a) w) = ac3 (pall false (push false a w) l)
    rw [e2]
    exact addC_pos l _ (by rw [e]; exact Nat.succ_pos _)
theorem addC_all {w : List Nat} {l : List (List Nat)} (h : ∀ x ∈ w, x < 15) : (w :: l).foldl addC (0, 32767, 0) = ac3 (pall false a0 (w :: l)) := by
  have e2 : addC (0, 32767, 0) w = ac3 (push false a0 w) := by
    show ((0 : Int32) + 1, (32767 : Int32) &&& nI (msk w), (0 : Int32) ||| nI (msk w)) = (nI (0 + 1), nI (msk w), nI (0 ||| msk w))
    rw [show (32767 : Int32) = nI 32767 from rfl, i_and, show (0 : Int32) = nI 0 from rfl, i_or, nI_1, Nat.and_comm, Nat.and_two_pow_sub_one_of_lt_two_pow (n := 15) (msk_lt h)]
  show l.foldl addC (addC (0, 32767, 0) w) = ac3 (pall false (push false a0 w) l)
  rw [e2]
  exact addC_pos l _ Nat.one_pos
theorem LL_T (S : Ab) (N : Nat) : LL S (amU S) stT N = wds S.R S.A.gl stT (gdA (amU S)) N S.A.W [] := rfl
theorem LL_cnt {S : Ab} {N : Nat} (hN : N ≤ 4) : (LL S (amU S) stT N).length ≤ 50625 := by
  have h := wds_cnt (R := S.R) (g := S.A.gl) (st := stT) (gd := gdA (amU S)) N S.A.W []
  have h2 : 15 ^ N ≤ 15 ^ 4 := Nat.pow_le_pow_right (by decide) hN
  rw [LL_T]
  exact Nat.le_trans h h2
theorem x_count {S : Ab} (hS : Ok S) {M : Mem} (hM : XA M S) (h8 : M.1 26 8 = nI (prs S.R.1)) (hr : rowsAt M 30 S.A.W) {N : Nat} (hN : N ≤ 4) : ∃ M', X_Search_countFits fuel (nI N) M = some ((), M') ∧ XA M' S ∧ M'.1 26 8 = nI (prs S.R.1) ∧ rowsAt M' 30 S.A.W ∧ M'.1 26 2 = nI (LL S (amU S) stT N).length ∧ (LL S (amU S) stT N ≠ [] → F3 M' (ac3 (pall false a0 (LL S (amU S) stT N)))) := by
  have f0 : Xf 0 M (si (si (si M 26 2 0) 26 3 32767) 26 4 0) := ((Xf.acc (by decide)).trans (Xf.acc (by decide))).trans (Xf.acc (by decide))
  have hK : Ks S (fun k => M.1 26 k) M := ⟨hM, h8, fun _ _ _ => rfl⟩
  obtain ⟨M', a1, a2, a3⟩ := x_fit fuel (by decide) hS N 12 0 _ S.A.W [] (0, 32767, 0) (by omega) (by omega) (hK.fr f0) hS.hA.1 hS.hA.2.1 (rows_fr hr f0) ⟨rfl, rfl, rfl⟩
  rw [Nat.zero_add] at a1
  have hK' := (hK.fr f0).fr a2
  refine ⟨M', ?_, hK'.1, hK'.2.1, rows_fr (d := 0) (rows_fr (d := 0) hr f0) a2, ?_, fun hne => ?_⟩
  · unfold X_Search_countFits
    simp only [nm]
    rw [show X_Search_fit fuel 12 0 (nI N) 0 (si (si (si M 26 2 0) 26 3 32767) 26 4 0) = _ from a1, bd_ret]
  · rw [a3.1]
    rw [← LL_T]
    have h15 := wds_mem (R := S.R) (g := S.A.gl) (st := stT) (gd := gdA (amU S)) N S.A.W []
    cases eL : LL S (amU S) stT N with
    | nil => rfl
    | cons w l =>
      rw [addC_all (h15 w (fun x hx => absurd hx List.not_mem_nil) (by rw [← LL_T, eL]; exact List.mem_cons_self))]
      show nI (pall false a0 (w :: l)).1 = _
      rw [pall_cnt]
      show nI (0 + _) = _
      rw [Nat.zero_add]
  · rw [← LL_T] at a3
    have h15 := wds_mem (R := S.R) (g := S.A.gl) (st := stT) (gd := gdA (amU S)) N S.A.W []
    cases eL : LL S (amU S) stT N with
    | nil => exact absurd eL hne
    | cons w l =>
      rw [eL, addC_all (h15 w (fun x hx => absurd hx List.not_mem_nil) (by rw [← LL_T, eL]; exact List.mem_cons_self))] at a3
      exact a3
theorem m_in_n (n : Nat) {x lo hi : Int32} (h : ¬ (lo ≤ x ∧ x ≤ hi)) (M : Mem) : X_Model_in n x.toInt64 lo.toInt64 hi.toInt64 M = some (0, M) := by rw [m_in, if_neg h]
theorem m_in_y (n : Nat) {x lo hi : Int32} (h : lo ≤ x ∧ x ≤ hi) (M : Mem) : X_Model_in n x.toInt64 lo.toInt64 hi.toInt64 M = some (1, M) := by rw [m_in, if_pos h]
theorem sim_fits (a0' a1' : Int32) : Sm (fun M => X_ShakeHands_fits fuel a0' a1' M) (fun M => X_Model_fits fuel a0' a1' M) := by
  intro Mx Mm hR
  have hR0 := hR
  obtain ⟨S, hS, hx, hm⟩ := hR
  show ∃ r Mx2 Mm2, X_ShakeHands_fits fuel a0' a1' Mx = some (r, Mx2) ∧ X_Model_fits fuel a0' a1' Mm = some (r, Mm2) ∧ Rel Mx2 Mm2
  unfold X_ShakeHands_fits X_Model_fits
  rcases i_cases a0' with q | ⟨N, hN, rfl⟩
  · rw [if_pos q, show X_Model_in fuel a0'.toInt64 0 4 Mm = _ from m_in_n fuel (lo := 0) (hi := 4) (fun r => absurd r.1 (Int32.not_le.mpr q)) Mm, bd_ret, if_pos rfl]
    exact ⟨_, _, _, rfl, rfl, hR0⟩
  · rw [if_neg (nI_pos hN)]
    by_cases hN4 : 4 < N
    · rw [if_pos (show (4 : Int32) < nI N from nI_lt (a := 4) hN4 hN), show X_Model_in fuel (nI N).toInt64 0 4 Mm = _ from m_in_n fuel (lo := 0) (hi := 4) (fun r => absurd r.2 (Int32.not_le.mpr (nI_lt (a := 4) hN4 hN))) Mm, bd_ret, if_pos rfl]
      exact ⟨_, _, _, rfl, rfl, hR0⟩
    · have hN4 : N ≤ 4 := by omega
      have hl4 : nI N ≤ 4 := nI_le (b := 4) hN4 (by decide)
      rw [if_neg (Int32.not_lt.mpr hl4), show X_Model_in fuel (nI N).toInt64 0 4 Mm = _ from m_in_y fuel (lo := 0) (hi := 4) ⟨Int32.not_lt.mp (nI_pos hN), hl4⟩ Mm, bd_ret, if_neg i10]
      rcases i_cases a1' with q | ⟨K, hK, rfl⟩
      · rw [if_pos q, show X_Model_in fuel a1'.toInt64 0 2 Mm = _ from m_in_n fuel (lo := 0) (hi := 2) (fun r => absurd r.1 (Int32.not_le.mpr q)) Mm, bd_ret, if_pos rfl]
        exact ⟨_, _, _, rfl, rfl, hR0⟩
      · rw [if_neg (nI_pos hK)]
        by_cases hK2 : 2 < K
        · rw [if_neg (show ¬ nI K ≤ (2 : Int32) from nI_ge (a := 2) hK2 hK), show X_Model_in fuel (nI K).toInt64 0 2 Mm = _ from m_in_n fuel (lo := 0) (hi := 2) (fun r => absurd r.2 (nI_ge (a := 2) hK2 hK)) Mm, bd_ret, if_pos rfl]
          exact ⟨_, _, _, rfl, rfl, hR0⟩
        · have hK2 : K ≤ 2 := by omega
          have hl2 : nI K ≤ 2 := nI_le (b := 2) hK2 (by decide)
          obtain ⟨M9, c1, c2, c3, c4⟩ := x_begin hS hx
          have hM9 : XA M9 S := hx.off (c2.mono (fun a ha => xQ_S (xQ_of (by simp at ha; omega))))
          obtain ⟨M4, d1, d2, d3, d4, d5, d6⟩ := x_count hS hM9 c3 c4 hN4
          obtain ⟨M2, g1, g2, g3⟩ := m_asks fuel 2 0 0 0 hS hm
          obtain ⟨M3, a, k1, k2, k3, k4, k5⟩ := m_layRows fuel (by decide) hS (gd_k2 fuel (by decide) hS) (st_k2 fuel) (N := N) hN4 (p2 := 0) (stp := false) (by decide) g2 g3
          rw [show LL S (fun W => ulN S.A.sn S.A.sg W S.R.1) stT N = LL S (amU S) stT N from rfl] at k2
          have hRel : Rel M4 M3 := ⟨S, hS, d2, k4⟩
          have hcnt := LL_cnt (S := S) hN4
          have ec : a.1 = (LL S (amU S) stT N).length := by
            rw [k2, pall_cnt]
            exact Nat.zero_add _
          rw [if_pos hl2, show X_Model_in fuel (nI K).toInt64 0 2 Mm = _ from m_in_y fuel (lo := 0) (hi := 2) ⟨Int32.not_lt.mp (nI_pos hK), hl2⟩ Mm, bd_ret, if_neg i10, c1, bd_ret, d1, bd_ret, g1, bd_ret, k1, bd_ret, d5, ec]
          by_cases e0 : K = 0
          · rw [e0, if_pos (show nI 0 = 0 from rfl), if_pos (show nI 0 = 0 from rfl)]
            exact ⟨_, _, _, rfl, rfl, hRel⟩
          · have e0' : ¬ nI K = 0 := fun q => e0 ((i_z hK).mp q)
            rw [if_neg e0', if_neg e0']
            by_cases eL : LL S (amU S) stT N = []
            · rw [eL, if_pos (show nI (List.length ([] : List (List Nat))) = 0 from rfl), if_pos (show nI (List.length ([] : List (List Nat))) = 0 from rfl)]
              exact ⟨_, _, _, rfl, rfl, hRel⟩
            · have e1 : ¬ nI (LL S (amU S) stT N).length = 0 := fun q => eL (List.length_eq_zero_iff.mp ((i_z (by omega)).mp q))
              obtain ⟨t1, t2, t3⟩ := d6 eL
              rw [← k2] at t2 t3
              rw [if_neg e1, if_neg e1, t2, t3, k3.2.1, k3.2.2.1]
              by_cases e2 : nI K = 1
              · rw [if_pos e2, if_pos e2]
                exact ⟨_, _, _, rfl, rfl, hRel⟩
              · rw [if_neg e2, if_neg e2]
                exact ⟨_, _, _, rfl, rfl, hRel⟩
theorem sim_least : Sm (fun M => X_ShakeHands_least fuel M) (fun M => X_Model_least fuel M) := by
  intro Mx Mm hR
  obtain ⟨S, hS, hx, hm⟩ := hR
  show ∃ r Mx2 Mm2, X_ShakeHands_least fuel Mx = some (r, Mx2) ∧ X_Model_least fuel Mm = some (r, Mm2) ∧ Rel Mx2 Mm2
  have key : ∀ e N f M, N + e = 5 → e < f → XA M S → M.1 26 8 = nI (prs S.R.1) → rowsAt M 30 S.A.W → (∀ j, j < N → LL S (amU S) stT j = []) → ∃ r M', X_ShakeHands_least_L9 fuel f (nI N) M = some (r, M') ∧ XA M' S ∧ ((∃ N, N ≤ 4 ∧ (∀ j, j < N → LL S (amU S) stT j = []) ∧ LL S (amU S) stT N ≠ [] ∧ r = nI N) ∨ ((∀ j, j ≤ 4 → LL S (amU S) stT j = []) ∧ r = -4)) := by
    intro e
    induction e with
    | zero =>
      intro N f M h1 h2 hM h8 hr hl
      obtain ⟨f, rfl⟩ : ∃ q, f = q + 1 := ⟨f - 1, by omega⟩
      refine ⟨-4, M, ?_, hM, Or.inr ⟨fun j hj => hl j (by omega), rfl⟩⟩
      show (if (4 : Int32) < nI N then _ else _) = _
      rw [if_pos (show (4 : Int32) < nI N from nI_lt (a := 4) (by omega) (by omega))]
    | succ e ih =>
      intro N f M h1 h2 hM h8 hr hl
      obtain ⟨f, rfl⟩ : ∃ q, f = q + 1 := ⟨f - 1, by omega⟩
      obtain ⟨M4, d1, d2, d3, d4, d5, d6⟩ := x_count hS hM h8 hr (N := N) (by omega)
      have hcnt := LL_cnt (S := S) (N := N) (by omega)
      have un : X_ShakeHands_least_L9 fuel (f + 1) (nI N) M = if nI (LL S (amU S) stT N).length ≤ 0 then X_ShakeHands_least_L9 fuel f (nI (N + 1)) M4 else some (nI N, M4) := by
        show (if (4 : Int32) < nI N then _ else bd (X_Search_countFits fuel (nI N) M) fun _ M4 => (if (M4.1 26 2) ≤ 0 then X_ShakeHands_least_L9 fuel f (nI N + 1) M4 else some (nI N, M4))) = _
        rw [if_neg (show ¬ (4 : Int32) < nI N from Int32.not_lt.mpr (nI_le (b := 4) (by omega) (by decide))), d1, bd_ret, d5, nI_1]
      rw [un]
      by_cases eL : LL S (amU S) stT N = []
      · rw [eL, if_pos (show nI (List.length ([] : List (List Nat))) ≤ 0 by decide)]
        exact ih (N + 1) f M4 (by omega) (by omega) d2 d3 d4 (fun j hj => by
          by_cases q : j = N
          · rw [q]; exact eL
          · exact hl j (by omega))
      · have : 0 < (LL S (amU S) stT N).length := List.length_pos_iff.mpr eL
        rw [if_neg (show ¬ nI (LL S (amU S) stT N).length ≤ 0 from nI_ge (a := 0) this (by omega))]
        exact ⟨nI N, M4, rfl, d2, Or.inl ⟨N, by omega, hl, eL, rfl⟩⟩
  obtain ⟨M9, c1, c2, c3, c4⟩ := x_begin hS hx
  have hM9 : XA M9 S := hx.off (c2.mono (fun a ha => xQ_S (xQ_of (by simp at ha; omega))))
  obtain ⟨r, M', d1, d2, d3⟩ := key 5 0 fuel M9 rfl (by decide) hM9 c3 c4 (fun j hj => absurd hj (Nat.not_lt_zero j))
  obtain ⟨M4, g1, g2, g3⟩ := m_asks fuel 2 0 0 0 hS hm
  obtain ⟨r', M6, k1, k2, k3⟩ := m_fewestHands fuel (by decide) hS (gd_k2 fuel (by decide) hS) (st_k2 fuel) g2 g3
  have k3 : FwR S (amU S) stT 18 r' M6 := k3
  have hRel : Rel M' M6 := ⟨S, hS, d2, k2⟩
  have er : r = r' := by
    rcases d3 with ⟨N, h1, h2, h3, h4⟩ | ⟨h1, h2⟩
    · rcases k3 with ⟨N', w', l', g1, g2, g3, g4, g5⟩ | ⟨g1, g2⟩
      · have e : N = N' := by
          rcases Nat.lt_trichotomy N N' with q | q | q
          · exact absurd (g2 N q) h3
          · exact q
          · rw [h2 N' q] at g3; exact absurd g3 (by simp)
        rw [h4, g4, e]
      · exact absurd (g1 N h1) h3
    · rcases k3 with ⟨N', w', l', g1, g2, g3, g4, g5⟩ | ⟨g1, g2⟩
      · rw [h1 N' g1] at g3
        exact absurd g3 (by simp)
      · rw [h2, g2]
  subst er
  refine ⟨r, M', M6, ?_, ?_, hRel⟩
  · unfold X_ShakeHands_least
    rw [c1, bd_ret]
    exact d1
  · unfold X_Model_least
    rw [g1, bd_ret, k1, bd_ret]
end
section
/-! SEARCH: rounds, as choices and as masks -/
def TK (R : Rl) (g : Nat) (K : WW → Prop) : Nat → Nat → WW → Prop
  | 0, _, W => K W
  | j + 1, b, W => TK R g K j b W ∨ (free R.1 g (14 - j) = true ∧ b &&& two_ (14 - j) = 0 ∧ TK R g K j (b ||| two_ (14 - j)) (handF R g (14 - j) W))
theorem TK_iff {R : Rl} {g : Nat} {K : WW → Prop} : ∀ (j : Nat), j ≤ 15 → ∀ (b : Nat) (W : WW), TK R g K j b W ↔ (K W ∨ ∃ x, 15 - j ≤ x ∧ x < 15 ∧ free R.1 g x = true ∧ b &&& two_ x = 0 ∧ TK R g K (14 - x) (b ||| two_ x) (handF R g x W))
  | 0, _, b, W => ⟨Or.inl, fun h => h.elim id (fun ⟨x, h1, h2, _⟩ => by omega)⟩
  | j + 1, hj, b, W => by
    have ih := TK_iff (R := R) (g := g) (K := K) j (by omega) b W
    constructor
    · intro h
      rcases h with h | ⟨h1, h2, h3⟩
      · rcases ih.mp h with h | ⟨x, h1, h2, h3⟩
        · exact Or.inl h
        · exact Or.inr ⟨x, by omega, h2, h3⟩
      · refine Or.inr ⟨14 - j, by omega, by omega, h1, h2, ?_⟩
        rw [show 14 - (14 - j) = j by omega]
        exact h3
    · intro h
      rcases h with h | ⟨x, h1, h2, h3, h4, h5⟩
      · exact Or.inl (ih.mpr (Or.inl h))
      · by_cases e : x = 14 - j
        · subst e
          rw [show 14 - (14 - j) = j by omega] at h5
          exact Or.inr ⟨h3, h4, h5⟩
        · exact Or.inl (ih.mpr (Or.inr ⟨x, by omega, h2, h3, h4, h5⟩))
def isRd (P g m : Nat) : Nat → Nat → Bool
  | 0, _ => true
  | j + 1, b => if m.testBit (14 - j) then (free P g (14 - j) && (decide (b &&& two_ (14 - j) = 0) && isRd P g m j (b ||| two_ (14 - j)))) else isRd P g m j b
def ap (R : Rl) (g m : Nat) : Nat → WW → WW
  | 0, W => W
  | j + 1, W => ap R g m j (if m.testBit (14 - j) then handF R g (14 - j) W else W)
theorem isRd_congr {P g m m' : Nat} : ∀ (j : Nat), j ≤ 15 → (∀ x, 15 - j ≤ x → x < 15 → m.testBit x = m'.testBit x) → ∀ b, isRd P g m j b = isRd P g m' j b
  | 0, _, _, b => rfl
  | j + 1, hj, h, b => by
    unfold isRd
    rw [h (14 - j) (by omega) (by omega), isRd_congr j (by omega) (fun x h1 h2 => h x (by omega) h2), isRd_congr j (by omega) (fun x h1 h2 => h x (by omega) h2)]
theorem ap_congr {R : Rl} {g m m' : Nat} : ∀ (j : Nat), j ≤ 15 → (∀ x, 15 - j ≤ x → x < 15 → m.testBit x = m'.testBit x) → ∀ W, ap R g m j W = ap R g m' j W
  | 0, _, _, W => rfl
  | j + 1, hj, h, W => by
    unfold ap
    rw [h (14 - j) (by omega) (by omega), ap_congr j (by omega) (fun x h1 h2 => h x (by omega) h2)]
theorem TK_mask {R : Rl} {g : Nat} {K : WW → Prop} : ∀ (j : Nat), j ≤ 15 → ∀ (b : Nat) (W : WW), TK R g K j b W ↔ ∃ m, m < 2 ^ 15 ∧ isRd R.1 g m j b = true ∧ K (ap R g m j W)
  | 0, _, b, W => ⟨fun h => ⟨0, by decide, rfl, h⟩, fun ⟨m, _, _, h⟩ => h⟩
  | j + 1, hj, b, W => by
    constructor
    · intro h
      rcases h with h | ⟨h1, h2, h3⟩
      · obtain ⟨m, m1, m2, m3⟩ := (TK_mask j (by omega) b W).mp h
        have hc : ∀ x, 15 - j ≤ x → x < 15 → (clN m (14 - j)).testBit x = m.testBit x := fun x h1 h2 => by
          rw [clN_bit, decide_eq_true (show x ≠ 14 - j by omega), Bool.and_true]
        have h0 : (clN m (14 - j)).testBit (14 - j) = false := by
          rw [clN_bit, decide_eq_false (by simp), Bool.and_false]
        refine ⟨clN m (14 - j), clN_lt m1, ?_, ?_⟩
        · unfold isRd
          rw [h0, if_neg Bool.false_ne_true, isRd_congr j (by omega) hc]
          exact m2
        · unfold ap
          rw [h0, ap_congr j (by omega) hc]
          exact m3
      · obtain ⟨m, m1, m2, m3⟩ := (TK_mask j (by omega) _ _).mp h3
        have hc : ∀ x, 15 - j ≤ x → x < 15 → (m ||| 2 ^ (14 - j)).testBit x = m.testBit x := fun x h1 h2 => by
          rw [or_bit, decide_eq_false (show ¬ 14 - j = x by omega), Bool.or_false]
        have h0 : (m ||| 2 ^ (14 - j)).testBit (14 - j) = true := by
          rw [or_bit, decide_eq_true rfl, Bool.or_true]
        refine ⟨m ||| 2 ^ (14 - j), Nat.or_lt_two_pow m1 (Nat.pow_lt_pow_right (by decide) (by omega)), ?_, ?_⟩
        · unfold isRd
          rw [h0, if_pos rfl, h1, decide_eq_true h2, isRd_congr j (by omega) hc, m2]
          rfl
        · unfold ap
          rw [h0, if_pos rfl, ap_congr j (by omega) hc]
          exact m3
    · intro ⟨m, m1, m2, m3⟩
      unfold isRd at m2
      unfold ap at m3
      cases e : m.testBit (14 - j) with
      | false =>
        rw [e] at m2 m3
        exact Or.inl ((TK_mask j (by omega) b W).mpr ⟨m, m1, m2, m3⟩)
      | true =>
        rw [e, if_pos rfl] at m2 m3
        rw [Bool.and_eq_true, Bool.and_eq_true] at m2
        exact Or.inr ⟨m2.1, of_decide_eq_true m2.2.1, (TK_mask j (by omega) _ _).mpr ⟨m, m1, m2.2.2, m3⟩⟩
theorem ap_0 (R : Rl) (g : Nat) : ∀ (j : Nat) (W : WW), ap R g 0 j W = W
  | 0, W => rfl
  | j + 1, W => by
    unfold ap
    rw [Nat.zero_testBit]
    exact ap_0 R g j W
theorem isRd_0 (P g : Nat) : ∀ (j b : Nat), isRd P g 0 j b = true
  | 0, b => rfl
  | j + 1, b => by
    unfold isRd
    rw [Nat.zero_testBit]
    exact isRd_0 P g j b
theorem pop_two : ∀ b, b < 64 → ∀ x, x < 15 → b &&& two_ x = 0 → popN 16 (b ||| two_ x) = popN 16 b + 2 ∧ popN 16 b ≤ 4 := by decide +kernel
theorem isRd_pop {P g m : Nat} : ∀ (j : Nat), j ≤ 15 → ∀ b, b < 64 → isRd P g m j b = true → 2 * popN 15 m + popN 16 b ≤ 6 + 2 * popN (15 - j) m
  | 0, _, b, hb, _ => by
    have : ∀ b, b < 64 → popN 16 b ≤ 6 := by decide +kernel
    have := this b hb
    show 2 * popN 15 m + _ ≤ 6 + 2 * popN 15 m
    omega
  | j + 1, hj, b, hb, h => by
    have e2 : popN (15 - j) m = (if m.testBit (14 - j) then 1 else 0) + popN (14 - j) m := by
      rw [show 15 - j = 14 - j + 1 by omega]; rfl
    rw [show 15 - (j + 1) = 14 - j by omega]
    unfold isRd at h
    cases e : m.testBit (14 - j) with
    | false =>
      rw [e, if_neg Bool.false_ne_true] at h
      rw [e, if_neg Bool.false_ne_true] at e2
      have := isRd_pop j (by omega) b hb h
      omega
    | true =>
      rw [e, if_pos rfl, Bool.and_eq_true, Bool.and_eq_true] at h
      rw [e, if_pos rfl] at e2
      have hx : 14 - j < 15 := by omega
      have h1 := pop_two b hb (14 - j) hx (of_decide_eq_true h.2.1)
      have := isRd_pop j (by omega) _ (Nat.or_lt_two_pow (n := 6) hb (two_lt _ hx)) h.2.2
      omega
theorem isRd_3 {P g m : Nat} (h : isRd P g m 15 0 = true) (hm : m < 2 ^ 15) : popN 16 m ≤ 3 := by
  have := isRd_pop 15 (Nat.le_refl _) 0 (by decide) h
  have e0 : popN 16 0 = 0 := by decide
  have e1 : popN (15 - 15) m = 0 := rfl
  rw [pop_16 hm (by decide)]
  omega
def vld (P g m : Nat) : Bool := decide (m ≠ 0) && isRd P g m 15 0
def vls (P g : Nat) : Nat → List Nat
  | 0 => []
  | v + 1 => if vld P g v then vls P g v ++ [v] else vls P g v
theorem vls_mem {P g m : Nat} : ∀ v, m ∈ vls P g v ↔ (m < v ∧ vld P g m = true)
  | 0 => ⟨fun h => absurd h List.not_mem_nil, fun h => by omega⟩
  | v + 1 => by
    have ih := vls_mem (P := P) (g := g) (m := m) v
    unfold vls
    split
    · rename_i e
      rw [List.mem_append, ih, List.mem_singleton]
      constructor
      · intro h
        rcases h with h | h
        · exact ⟨by omega, h.2⟩
        · rw [h]; exact ⟨by omega, e⟩
      · intro h
        by_cases q : m = v
        · exact Or.inr q
        · exact Or.inl ⟨by omega, h.2⟩
    · rename_i e
      rw [ih]
      constructor
      · intro h; exact ⟨by omega, h.2⟩
      · intro h
        refine ⟨?_, h.2⟩
        have : m ≠ v := fun q => e (by rw [← q]; exact h.2)
        omega
def dn (m : Nat) : Nat → Nat → Bool
  | 0, _ => true
  | j + 1, b => if m.testBit j then (decide (b &&& two_ j = 0) && dn m j (b ||| two_ j)) else dn m j b
def dc : Nat → Nat → Nat
  | 0, _ => 1
  | j + 1, b => dc j b + (if b &&& two_ j = 0 then dc j (b ||| two_ j) else 0)
def dls (j b o : Nat) : Nat → Nat
  | 0 => 0
  | v + 1 => dls j b o v + (if dn (o + v) j b then 1 else 0)
theorem dn_s (m j b : Nat) : dn m (j + 1) b = if m.testBit j then (decide (b &&& two_ j = 0) && dn m j (b ||| two_ j)) else dn m j b := rfl
theorem dc_s (j b : Nat) : dc (j + 1) b = dc j b + (if b &&& two_ j = 0 then dc j (b ||| two_ j) else 0) := rfl
theorem dn_congr {m m' : Nat} : ∀ (j : Nat), (∀ x, x < j → m.testBit x = m'.testBit x) → ∀ b, dn m j b = dn m' j b
  | 0, _, b => rfl
  | j + 1, h, b => by
    unfold dn
    rw [h j (by omega), dn_congr j (fun x h1 => h x (by omega)), dn_congr j (fun x h1 => h x (by omega))]
theorem dls_add (j b o : Nat) (u : Nat) : ∀ v, dls j b o (u + v) = dls j b o u + dls j b (o + u) v
  | 0 => rfl
  | v + 1 => by
    show dls j b o (u + v) + (if dn (o + (u + v)) j b then 1 else 0) = dls j b o u + (dls j b (o + u) v + (if dn (o + u + v) j b then 1 else 0))
    rw [dls_add j b o u v, Nat.add_assoc o u v]
    omega
theorem dls_dc : ∀ (j b o : Nat), 2 ^ j ∣ o → dls j b o (2 ^ j) = dc j b
  | 0, b, o, _ => rfl
  | j + 1, b, o, h => by
    obtain ⟨q, hq⟩ := h
    have hb : ∀ i, i < 2 ^ j → (o + i).testBit j = false := fun i hi => by
      rw [hq, Nat.testBit_eq_decide_div_mod_eq, show 2 ^ (j + 1) * q + i = i + 2 ^ j * (2 * q) by rw [Nat.pow_succ, Nat.mul_assoc]; omega, Nat.add_mul_div_left _ _ (Nat.two_pow_pos j), Nat.div_eq_of_lt hi, Nat.zero_add, Nat.mul_mod_right]
      rfl
    have hb2 : ∀ i, i < 2 ^ j → (o + 2 ^ j + i).testBit j = true := fun i hi => by
      rw [hq, Nat.testBit_eq_decide_div_mod_eq, show 2 ^ (j + 1) * q + 2 ^ j + i = i + 2 ^ j * (2 * q + 1) by rw [Nat.pow_succ, Nat.mul_assoc, Nat.mul_add]; omega, Nat.add_mul_div_left _ _ (Nat.two_pow_pos j), Nat.div_eq_of_lt hi, Nat.zero_add]
      rw [Nat.mul_add_mod]
      rfl
    have s1 : ∀ v, v ≤ 2 ^ j → dls (j + 1) b o v = dls j b o v := by
      intro v
      induction v with
      | zero => intro _; rfl
      | succ v ih =>
        intro hv
        show dls (j + 1) b o v + (if dn (o + v) (j + 1) b then 1 else 0) = dls j b o v + (if dn (o + v) j b then 1 else 0)
        rw [ih (by omega), dn_s, hb v (by omega), if_neg Bool.false_ne_true]
    have s2 : ∀ v, v ≤ 2 ^ j → dls (j + 1) b (o + 2 ^ j) v = if b &&& two_ j = 0 then dls j (b ||| two_ j) (o + 2 ^ j) v else 0 := by
      intro v
      induction v with
      | zero => intro _; split <;> rfl
      | succ v ih =>
        intro hv
        show dls (j + 1) b (o + 2 ^ j) v + (if dn (o + 2 ^ j + v) (j + 1) b then 1 else 0) = _
        rw [ih (by omega)]
        rw [dn_s, hb2 v (by omega), if_pos rfl]
        by_cases e : b &&& two_ j = 0
        · rw [if_pos e, if_pos e, decide_eq_true e]
          rfl
        · rw [if_neg e, if_neg e, decide_eq_false e]
          rfl
    rw [show 2 ^ (j + 1) = 2 ^ j + 2 ^ j by rw [Nat.pow_succ]; omega, dls_add, s1 _ (Nat.le_refl _), s2 _ (Nat.le_refl _), dls_dc j b o ⟨2 * q, by rw [hq, Nat.pow_succ, Nat.mul_assoc]⟩]
    rw [dc_s]
    by_cases e : b &&& two_ j = 0
    · rw [if_pos e, if_pos e, dls_dc j _ (o + 2 ^ j) ⟨2 * q + 1, by rw [hq, Nat.pow_succ, Nat.mul_assoc, Nat.mul_add]; omega⟩]
    · rw [if_neg e, if_neg e]
theorem dc_76 : dc 15 0 = 76 := by decide +kernel
theorem z_or (a b : Nat) : (a ||| b = 0) ↔ (a = 0 ∧ b = 0) := ⟨fun h => ⟨Nat.le_zero.mp (h ▸ Nat.left_le_or), Nat.le_zero.mp (h ▸ Nat.right_le_or)⟩, fun h => by rw [h.1, h.2]; rfl⟩
theorem z_oa (a b c : Nat) : ((a ||| b) &&& c = 0) ↔ (a &&& c = 0 ∧ b &&& c = 0) := by
  rw [Nat.and_or_distrib_right, z_or]
theorem isRd_dis {P g m : Nat} : ∀ (j : Nat), j ≤ 15 → ∀ b, isRd P g m j b = true → (∀ x, 15 - j ≤ x → x < 15 → m.testBit x = true → free P g x = true ∧ b &&& two_ x = 0) ∧ ∀ x y, 15 - j ≤ x → x < y → y < 15 → m.testBit x = true → m.testBit y = true → two_ x &&& two_ y = 0
  | 0, _, b, _ => ⟨fun x h1 h2 => by omega, fun x y h1 h2 h3 => by omega⟩
  | j + 1, hj, b, h => by
    unfold isRd at h
    cases e : m.testBit (14 - j) with
    | false =>
      rw [e, if_neg Bool.false_ne_true] at h
      obtain ⟨i1, i2⟩ := isRd_dis j (by omega) b h
      refine ⟨fun x h1 h2 h3 => ?_, fun x y h1 h2 h3 h4 h5 => ?_⟩
      · by_cases q : x = 14 - j
        · rw [q, e] at h3; exact absurd h3 Bool.false_ne_true
        · exact i1 x (by omega) h2 h3
      · by_cases q : x = 14 - j
        · rw [q, e] at h4; exact absurd h4 Bool.false_ne_true
        · exact i2 x y (by omega) h2 h3 h4 h5
    | true =>
      rw [e, if_pos rfl, Bool.and_eq_true, Bool.and_eq_true] at h
      obtain ⟨i1, i2⟩ := isRd_dis j (by omega) _ h.2.2
      refine ⟨fun x h1 h2 h3 => ?_, fun x y h1 h2 h3 h4 h5 => ?_⟩
      · by_cases q : x = 14 - j
        · rw [q]; exact ⟨h.1, of_decide_eq_true h.2.1⟩
        · have := i1 x (by omega) h2 h3
          exact ⟨this.1, ((z_oa _ _ _).mp this.2).1⟩
      · by_cases q : x = 14 - j
        · have := i1 y (by omega) h3 h5
          rw [q]
          exact ((z_oa _ _ _).mp this.2).2
        · exact i2 x y (by omega) h2 h3 h4 h5
theorem dn_of {m : Nat} (hd : ∀ x y, x < y → y < 15 → m.testBit x = true → m.testBit y = true → two_ x &&& two_ y = 0) : ∀ (j : Nat), j ≤ 15 → ∀ b, (∀ x, x < j → m.testBit x = true → b &&& two_ x = 0) → dn m j b = true
  | 0, _, b, _ => rfl
  | j + 1, hj, b, h => by
    rw [dn_s]
    cases e : m.testBit j with
    | false =>
      rw [if_neg Bool.false_ne_true]
      exact dn_of hd j (by omega) b (fun x h1 h2 => h x (by omega) h2)
    | true =>
      rw [if_pos rfl, decide_eq_true (h j (by omega) e), Bool.true_and]
      refine dn_of hd j (by omega) _ (fun x h1 h2 => (z_oa _ _ _).mpr ⟨h x (by omega) h2, ?_⟩)
      rw [Nat.and_comm]
      exact hd x j h1 (by omega) h2 e
theorem vld_dn {P g m : Nat} (h : isRd P g m 15 0 = true) : dn m 15 0 = true := by
  obtain ⟨_, i2⟩ := isRd_dis 15 (Nat.le_refl _) 0 h
  exact dn_of (fun x y h1 h2 h3 h4 => i2 x y (by omega) h1 h2 h3 h4) 15 (Nat.le_refl _) 0 (fun x _ _ => Nat.zero_and _)
theorem vls_dls (P g : Nat) : ∀ v, (vls P g (v + 1)).length + 1 ≤ dls 15 0 0 (v + 1)
  | 0 => by
    have h1 : vls P g (0 + 1) = [] := by
      unfold vls
      rw [if_neg]
      · rfl
      · unfold vld; simp
    have h2 : dls 15 0 0 (0 + 1) = 1 := by
      show 0 + (if dn (0 + 0) 15 0 then 1 else 0) = 1
      rw [if_pos (by decide +kernel)]
    rw [h1, h2]
    exact Nat.le_refl _
  | v + 1 => by
    have ih := vls_dls P g v
    have e1 : vls P g (v + 1 + 1) = if vld P g (v + 1) then vls P g (v + 1) ++ [v + 1] else vls P g (v + 1) := rfl
    have e2 : dls 15 0 0 (v + 1 + 1) = dls 15 0 0 (v + 1) + (if dn (0 + (v + 1)) 15 0 then 1 else 0) := rfl
    rw [e1, e2]
    by_cases e : vld P g (v + 1) = true
    · have e3 : isRd P g (v + 1) 15 0 = true := by
        unfold vld at e
        rw [Bool.and_eq_true] at e
        exact e.2
      rw [if_pos e, if_pos (by rw [Nat.zero_add]; exact vld_dn e3), List.length_append]
      simp only [List.length_cons, List.length_nil]
      omega
    · rw [if_neg e]
      omega
theorem dls_mono (j b o v : Nat) : ∀ d, dls j b o v ≤ dls j b o (v + d)
  | 0 => Nat.le_refl _
  | d + 1 => Nat.le_trans (dls_mono j b o v d) (Nat.le_add_right _ _)
theorem vls_75 (P g : Nat) {v : Nat} (hv : v ≤ 32768) : (vls P g v).length ≤ 75 := by
  rcases Nat.eq_zero_or_pos v with e | e
  · rw [e]; exact Nat.zero_le _
  · obtain ⟨k, rfl⟩ : ∃ q, v = q + 1 := ⟨v - 1, by omega⟩
    have h1 := vls_dls P g k
    have h2 := dls_mono 15 0 0 (k + 1) (32768 - (k + 1))
    have h3 := dls_dc 15 0 0 ⟨0, rfl⟩
    rw [dc_76] at h3
    rw [show k + 1 + (32768 - (k + 1)) = 2 ^ 15 by omega, h3] at h2
    omega
end
section
/-! SEARCH: the class's turns -/
def TT (R : Rl) (g : Nat) (st : WW → Bool) (am : WW → Nat) : Nat → Nat → Nat → WW → Prop
  | 0, _, _, W => am W = 0
  | l + 1, j, b, W => TK R g (fun V => st V = true ∧ TT R g st am l 15 0 V) j b W
def UU (R : Rl) (g : Nat) (st : WW → Bool) (am : WW → Nat) (l b : Nat) (W : WW) (v : Nat) : Prop := ∃ x, v ≤ x ∧ x < 15 ∧ free R.1 g x = true ∧ b &&& two_ x = 0 ∧ TT R g st am l (14 - x) (b ||| two_ x) (handF R g x W)
theorem x_turns (n : Nat) (hn : 20 ≤ n) {S : Ab} (hS : Ok S) {u : Nat → Int32} {am : WW → Nat} {st : WW → Bool} (hA : OkA am) (hm : amH n S u am) (hb : baH n S u st) : ∀ l, l < 100 → ∀ h f d j b M W, 4 * l + h < f → b < 64 → ((l = 0 ∧ d ≤ 6) ∨ (1 ≤ l ∧ popN 16 b + 2 * h = 6 ∧ d + h + 3 * (l - 1) ≤ 6)) → j ≤ 15 → Ks S u M → OkW W → (∀ p, S.R.1 ≤ p → W p = []) → rowsAt M (30 + d) W → ∃ r M', X_Search_turns n f (nI d) (nI b) (nI (15 - j)) (nI l) M = some (r, M') ∧ Xf d M M' ∧ ((r = 1 ∧ TT S.R S.A.gl st am l j b W) ∨ (r = 0 ∧ ¬ TT S.R S.A.gl st am l j b W)) := by
  have h6 := hS.p6
  have hg := hS.gl
  have hP := hS.hR.1
  intro l
  induction l with
  | zero =>
    intro _ h f d j b M W hf hb64 hc hj hK hW he hr
    obtain ⟨f, rfl⟩ : ∃ q, f = q + 1 := ⟨f - 1, by omega⟩
    have hd : d ≤ 6 := by omega
    have un : X_Search_turns n (f + 1) (nI d) (nI b) (nI (15 - j)) (nI 0) M = (if nI (am W) = 0 then some (1, M) else some (0, M)) := by
      show (if nI 0 = 0 then gd (nI d) 7 (bd (X_Search_amiss n (([30, 31, 32, 33, 34, 35, 36] : List Nat).getD (nI d).toNatClampNeg 0) M) fun r15 M16 => (if r15 = 0 then some (1, M16) else some (0, M16))) else _) = _
      rw [if_pos (show nI 0 = 0 from rfl), gd_in (vp_in_nI (n := d) (by omega) (by decide)), nI_clamp (by omega), lv_id (by omega), hm M W d (by omega) hK hW he hr, bd_ret]
    have hlt := hA.1 W
    rw [un]
    by_cases ea : am W = 0
    · rw [if_pos (by rw [ea]; rfl)]
      exact ⟨1, M, rfl, Xf.rf, Or.inl ⟨rfl, ea⟩⟩
    · rw [if_neg (fun q => ea ((i_z (show am W < 2 ^ 31 by omega)).mp q))]
      exact ⟨0, M, rfl, Xf.rf, Or.inr ⟨rfl, ea⟩⟩
  | succ l ihl =>
    intro hl100 h
    induction h using Nat.strongRecOn with
    | ind h ihh =>
    intro f d j b M W hf hb64 hc hj hK hW he hr
    obtain ⟨f, rfl⟩ : ∃ q, f = q + 1 := ⟨f - 1, by omega⟩
    obtain ⟨hpop, hdh⟩ : popN 16 b + 2 * h = 6 ∧ d + h + 3 * l ≤ 6 := by
      rcases hc with hc | hc
      · omega
      · exact ⟨hc.2.1, by have := hc.2.2; omega⟩
    have key : ∀ j v m M, v + j = 15 → j < m → Ks S u M → rowsAt M (30 + d) W → ∃ r M', X_Search_turns_L56 n (X_Search_turns n f) (nI d) (nI b) (nI (l + 1)) m (nI v) M = some (r, M') ∧ Xf d M M' ∧ ((r = 1 ∧ UU S.R S.A.gl st am (l + 1) b W v) ∨ (r = 0 ∧ ¬ UU S.R S.A.gl st am (l + 1) b W v)) := by
      intro j
      induction j with
      | zero =>
        intro v m M h1 h2 hK hr
        obtain ⟨m, rfl⟩ : ∃ q, m = q + 1 := ⟨m - 1, by omega⟩
        have hp := (prs_i S.R.1 (by omega) hP).2
        refine ⟨0, M, ?_, Xf.rf, Or.inr ⟨rfl, fun ⟨x, q1, q2, _⟩ => by omega⟩⟩
        show (if M.1 26 8 ≤ nI v then _ else _) = _
        rw [hK.2.1, if_pos (nI_le (by omega) (by omega))]
      | succ j ihj =>
        intro v m M h1 h2 hK hr
        obtain ⟨m, rfl⟩ : ∃ q, m = q + 1 := ⟨m - 1, by omega⟩
        have hp := (prs_i S.R.1 (by omega) hP).2
        have hv : v < 15 := by omega
        by_cases hx : prs S.R.1 ≤ v
        · refine ⟨0, M, ?_, Xf.rf, Or.inr ⟨rfl, fun ⟨x, q1, q2, q3, _⟩ => by rw [free_big (by omega) q2 (by omega)] at q3; exact absurd q3 Bool.false_ne_true⟩⟩
          show (if M.1 26 8 ≤ nI v then _ else _) = _
          rw [hK.2.1, if_pos (nI_le (by omega) (by omega))]
        · by_cases hd6 : 6 ≤ d
          · refine ⟨0, M, ?_, Xf.rf, Or.inr ⟨rfl, fun ⟨x, q1, q2, q3, q4, _⟩ => ?_⟩⟩
            · show (if M.1 26 8 ≤ nI v then _ else if (6 : Int32) ≤ nI d then _ else _) = _
              rw [hK.2.1, if_neg (nI_ge (by omega) (by omega)), if_pos (show (6 : Int32) ≤ nI d from nI_le (a := 6) hd6 (by omega))]
            · have := (pop_two b hb64 x q2 q4).2
              omega
          · have hgr : gre v < S.R.1 := (prs_gre S.R.1 (by omega) v hv).mp (by omega)
            have hfr := free_of (g := S.A.gl) hg hv hgr
            obtain ⟨r0, M0, i1, i2, i3⟩ := ihj (v + 1) m M (by omega) (by omega) hK hr
            have un : X_Search_turns_L56 n (X_Search_turns n f) (nI d) (nI b) (nI (l + 1)) (m + 1) (nI v) M = if (b ||| S.A.gl) &&& two_ v = 0 then (bd (X_Search_step n (nI d) (nI v) M) fun r8 M9 => bd (X_Search_turns n f (nI (d + 1)) (nI (b ||| two_ v)) (nI (v + 1)) (nI (l + 1)) M9) fun r10 M11 => (if r10 = 0 then X_Search_turns_L56 n (X_Search_turns n f) (nI d) (nI b) (nI (l + 1)) m (nI (v + 1)) M11 else some (1, M11))) else X_Search_turns_L56 n (X_Search_turns n f) (nI d) (nI b) (nI (l + 1)) m (nI (v + 1)) M := by
              show (if M.1 26 8 ≤ nI v then _ else if (6 : Int32) ≤ nI d then _ else bd (X_Search_bitsOf n (nI v) M) fun r5 M6 => nm (fun (M7 : Mem) => (X_Search_turns_L56 n (X_Search_turns n f) (nI d) (nI b) (nI (l + 1)) m (nI v + 1) M7 : Option (Int32 × Mem))) fun k123 => (if ((nI b ||| (M6.1 16 1)) &&& r5) = 0 then bd (X_Search_step n (nI d) (nI v) M6) fun r8 M9 => bd (X_Search_turns n f (nI d + 1) (nI b ||| r5) (nI v + 1) (nI (l + 1)) M9) fun r10 M11 => (if r10 = 0 then k123 M11 else some (1, M11)) else k123 M6)) = _
              simp only [nm]
              rw [hK.2.1, if_neg (nI_ge (by omega) (by omega)), if_neg (show ¬ (6 : Int32) ≤ nI d from nI_ge (b := 6) (by omega) (by decide)), x_bits2 n hv, bd_ret, hK.1.a.1, i_or, i_or, nI_1, nI_1]
              have hbg : b ||| S.A.gl < 64 := Nat.or_lt_two_pow (n := 6) hb64 hg
              by_cases e : (b ||| S.A.gl) &&& two_ v = 0
              · rw [if_pos e, if_pos ((and_i0 hbg).mpr e)]
              · rw [if_neg e, if_neg (fun q => e ((and_i0 hbg).mp q))]
            rw [un]
            by_cases e : (b ||| S.A.gl) &&& two_ v = 0
            · rw [if_pos e]
              obtain ⟨eb, eg⟩ := (z_oa _ _ _).mp e
              obtain ⟨pt1, pt2⟩ := pop_two b hb64 v hv eb
              obtain ⟨r, M2, s1, s2, s3, -⟩ := x_step n hn hS hK.1 (d := d) (by omega) hv hW hr
              have f2 : Xf d M M2 := Xf.step (by omega) s2
              obtain ⟨r2, M3, t1, t2, t3⟩ := ihh (h - 1) (by omega) f (d + 1) j (b ||| two_ v) M2 (handF S.R S.A.gl v W) (by omega) (Nat.or_lt_two_pow (n := 6) hb64 (two_lt v hv)) (Or.inr ⟨by omega, by omega, by show d + 1 + (h - 1) + 3 * l ≤ 6; omega⟩) (by omega) (hK.fr f2) (hW.hand hS.hR _ _) (handF_end hv hgr he) (by rw [show 30 + (d + 1) = 31 + d by omega]; exact s3)
              rw [show 15 - j = v + 1 by omega] at t1
              have f3 := f2.trans t2.mono
              rw [s1, bd_ret, t1, bd_ret]
              rcases t3 with ⟨t3, t4⟩ | ⟨t3, t4⟩
              · rw [t3, if_neg i10]
                exact ⟨1, M3, rfl, f3, Or.inl ⟨rfl, v, Nat.le_refl _, hv, hfr.mp eg, eb, by rw [show 14 - v = j by omega]; exact t4⟩⟩
              · rw [t3, if_pos rfl]
                obtain ⟨r4, M4, w1, w2, w3⟩ := ihj (v + 1) m M3 (by omega) (by omega) (hK.fr f3) (rows_fr hr f3)
                refine ⟨r4, M4, w1, f3.trans w2, ?_⟩
                rcases w3 with ⟨w3, x, q1, q2⟩ | ⟨w3, w4⟩
                · exact Or.inl ⟨w3, x, by omega, q2⟩
                · refine Or.inr ⟨w3, fun ⟨x, q1, q2⟩ => ?_⟩
                  by_cases ex : x = v
                  · rw [ex, show 14 - v = j by omega] at q2
                    exact t4 q2.2.2.2
                  · exact w4 ⟨x, by omega, q2⟩
            · rw [if_neg e]
              refine ⟨r0, M0, i1, i2, ?_⟩
              rcases i3 with ⟨w3, x, q1, q2⟩ | ⟨w3, w4⟩
              · exact Or.inl ⟨w3, x, by omega, q2⟩
              · refine Or.inr ⟨w3, fun ⟨x, q1, q2⟩ => ?_⟩
                by_cases ex : x = v
                · rw [ex] at q2
                  exact e ((z_oa _ _ _).mpr ⟨q2.2.2.1, hfr.mpr q2.2.1⟩)
                · exact w4 ⟨x, by omega, q2⟩
    have eT : TT S.R S.A.gl st am (l + 1) j b W ↔ ((st W = true ∧ TT S.R S.A.gl st am l 15 0 W) ∨ UU S.R S.A.gl st am (l + 1) b W (15 - j)) := TK_iff j hj b W
    have eb := hb M W d (by omega) hK hW he hr
    have un : X_Search_turns n (f + 1) (nI d) (nI b) (nI (15 - j)) (nI (l + 1)) M = if (if st W then (0 : Int32) else 1) = 0 then (bd (X_Search_turns n f (nI d) 0 0 (nI l) M) fun r12 M13 => (if r12 = 0 then X_Search_turns_L56 n (X_Search_turns n f) (nI d) (nI b) (nI (l + 1)) n (nI (15 - j)) M13 else some (1, M13))) else X_Search_turns_L56 n (X_Search_turns n f) (nI d) (nI b) (nI (l + 1)) n (nI (15 - j)) M := by
      show (if nI (l + 1) = 0 then _ else gd (nI d) 7 (bd (X_Search_isBarred n (([30, 31, 32, 33, 34, 35, 36] : List Nat).getD (nI d).toNatClampNeg 0) M) fun r2 M3 => nm (fun (M4 : Mem) => (X_Search_turns_L56 n (X_Search_turns n f) (nI d) (nI b) (nI (l + 1)) n (nI (15 - j)) M4 : Option (Int32 × Mem))) fun k53 => (if r2 = 0 then bd ((X_Search_turns n f) (nI d) 0 0 (nI (l + 1) - 1) M3) fun r12 M13 => (if r12 = 0 then k53 M13 else some (1, M13)) else k53 M3))) = _
      rw [if_neg (fun q => by have := (i_z (k := l + 1) (by omega)).mp q; omega), gd_in (vp_in_nI (n := d) (by omega) (by decide)), nI_clamp (by omega), lv_id (by omega), eb, bd_ret, show nI (l + 1) - 1 = nI l by rw [show (1 : Int32) = nI 1 from rfl, pk_sub (by omega), Nat.add_sub_cancel]]
      rfl
    rw [un]
    cases es : st W with
    | false =>
      rw [if_neg (show ¬ (if false = true then (0 : Int32) else 1) = 0 by decide)]
      obtain ⟨r, M', a1, a2, a3⟩ := key j (15 - j) n M (by omega) (by omega) hK hr
      refine ⟨r, M', a1, a2, ?_⟩
      rcases a3 with ⟨a3, a4⟩ | ⟨a3, a4⟩
      · exact Or.inl ⟨a3, eT.mpr (Or.inr a4)⟩
      · exact Or.inr ⟨a3, fun q => (eT.mp q).elim (fun q => by rw [es] at q; exact absurd q.1 Bool.false_ne_true) a4⟩
    | true =>
      rw [if_pos (show (if true = true then (0 : Int32) else 1) = 0 from rfl)]
      have e0 : popN 16 0 = 0 := by decide
      obtain ⟨r, M2, b1, b2, b3⟩ : ∃ r M2, X_Search_turns n f (nI d) 0 0 (nI l) M = some (r, M2) ∧ Xf d M M2 ∧ ((r = 1 ∧ TT S.R S.A.gl st am l 15 0 W) ∨ (r = 0 ∧ ¬ TT S.R S.A.gl st am l 15 0 W)) := by
        rcases Nat.eq_zero_or_pos l with e | e
        · exact ihl (by omega) 0 f d 15 0 M W (by omega) (by decide) (Or.inl ⟨e, by omega⟩) (Nat.le_refl _) hK hW he hr
        · exact ihl (by omega) 3 f d 15 0 M W (by omega) (by decide) (Or.inr ⟨e, by omega, by omega⟩) (Nat.le_refl _) hK hW he hr
      rw [b1, bd_ret]
      rcases b3 with ⟨b3, b4⟩ | ⟨b3, b4⟩
      · rw [b3, if_neg i10]
        exact ⟨1, M2, rfl, b2, Or.inl ⟨rfl, eT.mpr (Or.inl ⟨es, b4⟩)⟩⟩
      · rw [b3, if_pos rfl]
        obtain ⟨r, M', a1, a2, a3⟩ := key j (15 - j) n M2 (by omega) (by omega) (hK.fr b2) (rows_fr hr b2)
        refine ⟨r, M', a1, b2.trans a2, ?_⟩
        rcases a3 with ⟨a3, a4⟩ | ⟨a3, a4⟩
        · exact Or.inl ⟨a3, eT.mpr (Or.inr a4)⟩
        · exact Or.inr ⟨a3, fun q => (eT.mp q).elim (fun q => b4 q.2) a4⟩
end
section
/-! SEARCH: the reference's rounds -/
theorem m_isRound_L (n : Nat) {M : Mem} {R : Rl} (hR : OkR R) (hC : MC M R) {g m : Nat} (h38 : M.1 0 38 = nI g) (hg : g < 64) (hm : m < 2 ^ 15) (kx : Mem → Option (Int32 × Mem)) : ∀ j b f, j ≤ 15 → j < f → b < 64 → X_Model_isRound_L4 n (nI m) kx f (nI b) (nI (15 - j)) M = if isRd R.1 g m j b then kx M else some (0, M) := by
  intro j
  induction j with
  | zero =>
    intro b f h1 h2 hb
    obtain ⟨f, rfl⟩ : ∃ q, f = q + 1 := ⟨f - 1, by omega⟩
    show (if (15 : Int32) ≤ nI 15 then _ else _) = _
    rw [if_pos (by decide)]
    rfl
  | succ j ih =>
    intro b f h1 h2 hb
    obtain ⟨f, rfl⟩ : ∃ q, f = q + 1 := ⟨f - 1, by omega⟩
    have hx : 14 - j < 15 := by omega
    obtain ⟨c1, c2⟩ := hC.2.2.2.2.2.2.2.2 (14 - j) hx
    obtain ⟨p1, p2, -, -, -⟩ := les_gre (14 - j) hx
    rw [show 15 - (j + 1) = 14 - j by omega]
    show (if (15 : Int32) ≤ nI (14 - j) then _ else nm (fun (z1 : Int32) (M2 : Mem) => (X_Model_isRound_L4 n (nI m) kx f z1 (nI (14 - j) + 1) M2 : Option (Int32 × Mem))) fun k60 => (if ((nI m >>> (nI (14 - j) &&& 31)) &&& 1) = 1 then gd (nI (14 - j)) 15 (gd (nI (14 - j)) 15 (nm (((1 : Int32) <<< ((M.1 6 (nI (14 - j)).toNatClampNeg) &&& 31)) ||| ((1 : Int32) <<< ((M.1 7 (nI (14 - j)).toNatClampNeg) &&& 31))) fun x3 => bd (X_Model_isFreePair n (nI (14 - j)) M) fun r4 M5 => (if r4 = 0 then some (0, M5) else (if (nI b &&& x3) = 0 then nm (nI b ||| x3) fun x6 => k60 x6 M5 else some (0, M5))))) else k60 (nI b) M)) = _
    simp only [nm]
    rw [if_neg (show ¬ (15 : Int32) ≤ nI (14 - j) from nI_ge (b := 15) hx (by decide)), gd_in (v15 hx), gd_in (v15 hx), nI_clamp (show 14 - j < 2 ^ 31 by omega), c1, c2, i_shl1 (by omega), i_shl1 (by omega), i_or, i_or, m_isFreePair n hR hC h38 hg hx, bd_ret, b_is (by omega) (by omega), nI_1, show 14 - j + 1 = 15 - j by omega]
    unfold isRd
    cases e : m.testBit (14 - j) with
    | false =>
      rw [if_neg (show ¬ nI (if false = true then 1 else 0) = 1 by decide), if_neg Bool.false_ne_true]
      exact ih b f (by omega) (by omega) hb
    | true =>
      rw [if_pos (show nI (if true = true then 1 else 0) = 1 from rfl), if_pos rfl]
      cases e1 : free R.1 g (14 - j) with
      | false => rfl
      | true =>
        rw [if_neg (show ¬ (if true = true then (1 : Int32) else 0) = 0 by decide), Bool.true_and]
        by_cases e2 : b &&& two_ (14 - j) = 0
        · rw [if_pos (show nI b &&& nI (2 ^ les (14 - j) ||| 2 ^ gre (14 - j)) = 0 from (and_i0 hb).mpr e2), decide_eq_true e2, Bool.true_and]
          exact ih _ f (by omega) (by omega) (Nat.or_lt_two_pow (n := 6) hb (two_lt _ hx))
        · rw [if_neg (show ¬ nI b &&& nI (2 ^ les (14 - j) ||| 2 ^ gre (14 - j)) = 0 from fun q => e2 ((and_i0 hb).mp q)), decide_eq_false e2, Bool.false_and, if_neg Bool.false_ne_true]
theorem m_isRound (n : Nat) (hn : 20 ≤ n) {M : Mem} {R : Rl} (hR : OkR R) (hC : MC M R) {g m : Nat} (h38 : M.1 0 38 = nI g) (hg : g < 64) (hm : m < 2 ^ 15) (h0 : m ≠ 0) : X_Model_isRound n (nI m) M = some (if vld R.1 g m then 1 else 0, M) := by
  unfold X_Model_isRound
  refine (m_isRound_L n hR hC h38 hg hm _ 15 0 n (Nat.le_refl _) (by omega) (by decide)).trans ?_
  unfold vld
  rw [decide_eq_true h0, Bool.true_and, if_neg (fun q => h0 ((i_z (show m < 2 ^ 31 by omega)).mp q))]
  cases isRd R.1 g m 15 0 <;> rfl
def Vr (M : Mem) (V : List Nat) : Prop := M.1 0 47 = nI V.length ∧ ∀ i m, V[i]? = some m → M.1 19 i = nI m
theorem Vr.fr {P : Nat → Nat → Prop} {M M' : Mem} {V : List Nat} (h : Vr M V) (ho : Fr P M M') (h1 : ¬ P 0 47) (h2 : ∀ k, ¬ P 19 k) : Vr M' V := ⟨by rw [(ho 0 47 h1).1]; exact h.1, fun i m hi => by rw [(ho 19 i (h2 i)).1]; exact h.2 i m hi⟩
def lr (c k : Nat) : Prop := c = 19 ∨ (c = 0 ∧ k = 47)
theorem m_layRounds_L (n : Nat) (hn : 20 ≤ n) {S : Ab} (hS : Ok S) {v0 : Nat → Int32} : ∀ e v f M, v + e = 32768 → 1 ≤ v → e < f → Kr S v0 M → Vr M (vls S.R.1 S.A.gl v) → ∃ M', X_Model_layRounds_L15 n f (nI v) M = some ((), M') ∧ Fr lr M M' ∧ Vr M' (vls S.R.1 S.A.gl 32768) := by
  have lrS : ∀ c k, lr c k → mS c k ∧ ¬ (c = 0 ∧ 38 ≤ k ∧ k ≤ 42) := fun c k q => by unfold lr at q; unfold mS; omega
  intro e
  induction e with
  | zero =>
    intro v f M h1 h2 h3 hK hV
    obtain ⟨f, rfl⟩ : ∃ q, f = q + 1 := ⟨f - 1, by omega⟩
    have : v = 32768 := by omega
    refine ⟨M, ?_, Fr.rf, by rw [← this]; exact hV⟩
    show (if (32768 : Int32) ≤ nI v then _ else _) = _
    rw [if_pos (show (32768 : Int32) ≤ nI v from nI_le (a := 32768) (by omega) (by omega))]
  | succ e ih =>
    intro v f M h1 h2 h3 hK hV
    obtain ⟨f, rfl⟩ : ∃ q, f = q + 1 := ⟨f - 1, by omega⟩
    have hv : v < 2 ^ 15 := by omega
    have h75 := vls_75 S.R.1 S.A.gl (v := v) (by omega)
    have es : vls S.R.1 S.A.gl (v + 1) = if vld S.R.1 S.A.gl v then vls S.R.1 S.A.gl v ++ [v] else vls S.R.1 S.A.gl v := rfl
    have un : X_Model_layRounds_L15 n (f + 1) (nI v) M = if nI 3 < nI (popN 16 v) then X_Model_layRounds_L15 n f (nI (v + 1)) M else (if (if vld S.R.1 S.A.gl v then (1 : Int32) else 0) = 0 then X_Model_layRounds_L15 n f (nI (v + 1)) M else X_Model_layRounds_L15 n f (nI (v + 1)) (si (si M 19 (vls S.R.1 S.A.gl v).length (nI v)) 0 47 (nI ((vls S.R.1 S.A.gl v).length + 1)))) := by
      show (if (32768 : Int32) ≤ nI v then _ else bd (X_Model_bitsOf n (nI v) M) fun r3 M4 => nm (fun (M5 : Mem) => (X_Model_layRounds_L15 n f (nI v + 1) M5 : Option (Unit × Mem))) fun k58 => (if 3 < r3 then k58 M4 else bd (X_Model_isRound n (nI v) M4) fun r6 M7 => (if r6 = 0 then k58 M7 else gd (M7.1 0 47) 80 (nm (si M7 19 ((M7.1 0 47).toNatClampNeg) (nI v)) fun N8 => k58 (si N8 0 47 ((N8.1 0 47) + 1)))))) = _
      simp only [nm]
      rw [if_neg (show ¬ (32768 : Int32) ≤ nI v from nI_ge (b := 32768) (by omega) (by decide)), m_bitsOf n hn (by omega), bd_ret, m_isRound n hn hS.hR hK.1.c hK.2.1 hS.gl hv (by omega), bd_ret, hV.1, gd_in (vp_in_nI (n := (vls S.R.1 S.A.gl v).length) (by omega) (by decide)), nI_clamp (show (vls S.R.1 S.A.gl v).length < 2 ^ 31 by omega), si_ne (Or.inl (by decide)), hV.1, nI_1, nI_1]
      rfl
    rw [un]
    by_cases e3 : 3 < popN 16 v
    · have : vld S.R.1 S.A.gl v = false := by
        unfold vld
        cases q : isRd S.R.1 S.A.gl v 15 0 with
        | false => rw [Bool.and_false]
        | true => have := isRd_3 q hv; omega
      rw [this, if_neg Bool.false_ne_true] at es
      have hp := popN_le v 16
      rw [if_pos (nI_lt e3 (by omega))]
      exact ih (v + 1) f M (by omega) (by omega) (by omega) hK (by rw [es]; exact hV)
    · rw [if_neg (Int32.not_lt.mpr (nI_le (by omega) (by omega)))]
      cases eV : vld S.R.1 S.A.gl v with
      | false =>
        rw [eV, if_neg Bool.false_ne_true] at es
        rw [if_pos (show (if false = true then (1 : Int32) else 0) = 0 from rfl)]
        exact ih (v + 1) f M (by omega) (by omega) (by omega) hK (by rw [es]; exact hV)
      | true =>
        rw [eV, if_pos rfl] at es
        rw [if_neg (show ¬ (if true = true then (1 : Int32) else 0) = 0 by decide)]
        have f1 : Fr lr M (si (si M 19 (vls S.R.1 S.A.gl v).length (nI v)) 0 47 (nI ((vls S.R.1 S.A.gl v).length + 1))) := (Fr.si (Or.inl rfl)).trans (Fr.si (Or.inr ⟨rfl, rfl⟩))
        obtain ⟨M', a1, a2, a3⟩ := ih (v + 1) f _ (by omega) (by omega) (by omega) (hK.fr hS lrS f1) (by
          rw [es]
          refine ⟨by rw [si_at, List.length_append]; rfl, fun i m hi => ?_⟩
          rw [si_ne (Or.inl (by decide))]
          by_cases q : i < (vls S.R.1 S.A.gl v).length
          · rw [List.getElem?_append_left q] at hi
            rw [si_ne (Or.inr (by omega))]
            exact hV.2 i m hi
          · have hl := (List.getElem?_eq_some_iff.mp hi).1
            rw [List.length_append, List.length_singleton] at hl
            have : i = (vls S.R.1 S.A.gl v).length := by omega
            subst this
            rw [List.getElem?_append_right (Nat.le_refl _), Nat.sub_self] at hi
            rw [si_at, ← Option.some.inj hi])
        exact ⟨M', a1, f1.trans a2, a3⟩
theorem m_goes_L (n : Nat) (hn : 20 ≤ n) {R : Rl} (hR : OkR R) {g m L : Nat} (hL : L < 10) (hm : m < 2 ^ 15) (hf : ∀ x, x < 15 → m.testBit x = true → free R.1 g x = true) : ∀ j f M W, j ≤ 15 → j < f → MC M R → OkW W → LyM M 15 (60 * L) W → ∃ M', X_Model_goesRound_L10 n (nI L) (nI m) f (nI (15 - j)) M = some ((), M') ∧ Fr (mh L) M M' ∧ LyM M' 15 (60 * L) (ap R g m j W) := by
  intro j
  induction j with
  | zero =>
    intro f M W h1 h2 hC hW hl
    obtain ⟨f, rfl⟩ : ∃ q, f = q + 1 := ⟨f - 1, by omega⟩
    refine ⟨M, ?_, Fr.rf, hl⟩
    show (if (15 : Int32) ≤ nI 15 then _ else _) = _
    rw [if_pos (by decide)]
  | succ j ih =>
    intro f M W h1 h2 hC hW hl
    obtain ⟨f, rfl⟩ : ∃ q, f = q + 1 := ⟨f - 1, by omega⟩
    have hx : 14 - j < 15 := by omega
    rw [show 15 - (j + 1) = 14 - j by omega]
    have un : X_Model_goesRound_L10 n (nI L) (nI m) (f + 1) (nI (14 - j)) M = if m.testBit (14 - j) then (bd (X_Model_shakes n (nI L) (nI (14 - j)) (nI 0) M) fun _ M5 => X_Model_goesRound_L10 n (nI L) (nI m) f (nI (15 - j)) M5) else X_Model_goesRound_L10 n (nI L) (nI m) f (nI (15 - j)) M := by
      show (if (15 : Int32) ≤ nI (14 - j) then _ else nm (fun (M3 : Mem) => (X_Model_goesRound_L10 n (nI L) (nI m) f (nI (14 - j) + 1) M3 : Option (Unit × Mem))) fun k32 => (if ((nI m >>> (nI (14 - j) &&& 31)) &&& 1) = 1 then bd (X_Model_shakes n (nI L) (nI (14 - j)) 0 M) fun _ M5 => k32 M5 else k32 M)) = _
      simp only [nm]
      rw [if_neg (show ¬ (15 : Int32) ≤ nI (14 - j) from nI_ge (b := 15) hx (by decide)), b_is (by omega) (by omega), nI_1, show 14 - j + 1 = 15 - j by omega]
      cases m.testBit (14 - j) <;> rfl
    rw [un]
    cases e : m.testBit (14 - j) with
    | false =>
      rw [if_neg Bool.false_ne_true]
      obtain ⟨M', a1, a2, a3⟩ := ih f M W (by omega) (by omega) hC hW hl
      refine ⟨M', a1, a2, ?_⟩
      unfold ap
      rw [e, if_neg Bool.false_ne_true]
      exact a3
    | true =>
      rw [if_pos rfl]
      obtain ⟨M2, b1, b2, b3⟩ := m_shakes n hn hR hC hL hW hl (g := 0) (x := 14 - j) (by decide) hx
      obtain ⟨M', a1, a2, a3⟩ := ih f M2 _ (by omega) (by omega) (hC.mh b2) (hW.hand hR _ _) b3
      refine ⟨M', by rw [b1, bd_ret]; exact a1, b2.trans a2, ?_⟩
      unfold ap
      rw [e, if_pos rfl, ← hand_free (hf _ hx e)]
      exact a3
theorem ap_ok {R : Rl} (hR : OkR R) {g m : Nat} : ∀ j W, OkW W → OkW (ap R g m j W)
  | 0, W, h => h
  | j + 1, W, h => by
    unfold ap
    apply ap_ok hR j
    split
    · exact h.hand hR _ _
    · exact h
theorem m_goes (n : Nat) (hn : 61 ≤ n) {S : Ab} (hS : Ok S) {M : Mem} {m L : Nat} (hM : MA M S) (hL : L < 9) (hm : vld S.R.1 S.A.gl m = true) (h15 : m < 2 ^ 15) {W : WW} (hW : OkW W) (hl : LyM M 15 (60 * L) W) : ∃ M', X_Model_goesRound n (nI (L + 1)) (nI m) M = some ((), M') ∧ Fr (mh (L + 1)) M M' ∧ LyM M' 15 (60 * (L + 1)) (ap S.R S.A.gl m 15 W) := by
  have f1 : Fr (mh (L + 1)) M (cpI M 15 (60 * L) 15 (60 * (L + 1)) 60) := Fr.cpI (fun k h1 h2 => Or.inr ⟨rfl, h1, h2⟩)
  have hd := isRd_dis 15 (Nat.le_refl _) 0 (show isRd S.R.1 S.A.gl m 15 0 = true by
    unfold vld at hm
    rw [Bool.and_eq_true] at hm
    exact hm.2)
  obtain ⟨M', a1, a2, a3⟩ := m_goes_L n (by omega) hS.hR (L := L + 1) (by omega) h15 (fun x h1 h2 => (hd.1 x (by omega) h1 h2).1) 15 n _ W (Nat.le_refl _) (by omega) (hM.c.mh f1) hW (LyM.cp hl hW)
  refine ⟨M', ?_, f1.trans a2, a3⟩
  unfold X_Model_goesRound
  rw [show nI (L + 1) - 1 = nI L by rw [show (1 : Int32) = nI 1 from rfl, pk_sub (by omega), Nat.add_sub_cancel], m_copies n hn (by omega) (by omega), bd_ret]
  exact a1
end
section
/-! CALLS: rounds -/
def QQ (st : WW → Bool) (am : WW → Nat) (W : WW) : Prop := st W = true ∧ am W = 0
theorem m_L111 (n : Nat) (hn : 61 ≤ n) {S : Ab} (hS : Ok S) {v : Nat → Int32} {am : WW → Nat} {st : WW → Bool} (hG : gdH n S v am) (hT : stH n S v st) (a5 : Int32) (kx : Int32 → Mem → Option (Int32 × Mem)) {V : List Nat} (hV : ∀ m ∈ V, vld S.R.1 S.A.gl m = true ∧ m < 2 ^ 15) (hl : V.length ≤ 75) {W1 : WW} (hW : OkW W1) : ∀ (suf pre : List Nat) (f : Nat) (v4 : Bool) (M : Mem), V = pre ++ suf → suf.length < f → Kr S v M → Vr M V → LyM M 15 (60 * 1) W1 → ∃ M' b, X_Model_rounds_L111 n a5 kx f (nI (if v4 = true then 1 else 0)) (nI pre.length) M = kx (nI (if b = true then 1 else 0)) M' ∧ Fr (mh 2) M M' ∧ (b = true ↔ (v4 = true ∨ ∃ m, m ∈ suf ∧ QQ st am (ap S.R S.A.gl m 15 W1)))
  | [], pre, f, v4, M, e, hf, hK, hVr, hL => by
    obtain ⟨f, rfl⟩ : ∃ q, f = q + 1 := ⟨f - 1, by omega⟩
    rw [List.append_nil] at e
    refine ⟨M, v4, ?_, Fr.rf, ⟨Or.inl, fun h => h.elim id (fun ⟨m, h, _⟩ => absurd h List.not_mem_nil)⟩⟩
    show (if M.1 0 47 ≤ nI pre.length then _ else _) = _
    rw [hVr.1, e, if_pos (nI_le (Nat.le_refl _) (by rw [← e]; omega))]
  | m :: suf, pre, f, v4, M, e, hf, hK, hVr, hL => by
    rw [List.length_cons] at hf
    obtain ⟨f, rfl⟩ : ∃ q, f = q + 1 := ⟨f - 1, by omega⟩
    have hlen : pre.length < V.length := by rw [e, List.length_append, List.length_cons]; omega
    have em : V[pre.length]? = some m := by rw [e, List.getElem?_append_right (Nat.le_refl _), Nat.sub_self]; rfl
    have hm := hV m (by rw [e]; exact List.mem_append_right _ List.mem_cons_self)
    cases ev : v4 with
    | true =>
      refine ⟨M, true, ?_, Fr.rf, ⟨fun _ => Or.inl rfl, fun _ => rfl⟩⟩
      show (if M.1 0 47 ≤ nI pre.length then _ else (if nI 1 = 0 then _ else _)) = _
      rw [hVr.1, if_neg (nI_ge hlen (by omega)), if_neg (show ¬ nI 1 = 0 by decide)]
    | false =>
      obtain ⟨M2, g1, g2, g3⟩ := m_goes n hn hS hK.1 (L := 1) (by omega) hm.1 hm.2 hW hL
      have hK2 : Kr S v M2 := hK.fr hS (fun c k q => ⟨mh_mS q, fun r => by unfold mh mk rg at q; omega⟩) g2
      have hW2 : OkW (ap S.R S.A.gl m 15 W1) := ap_ok hS.hR 15 _ hW
      have hVr2 : Vr M2 V := hVr.fr g2 (fun q => by unfold mh mk rg at q; omega) (fun k q => by unfold mh mk rg at q; omega)
      have hL2 : LyM M2 15 (60 * 1) W1 := hL.fr hW g2 (fun k h1 h2 q => by unfold mh mk rg at q; omega)
      have un : X_Model_rounds_L111 n a5 kx (f + 1) (nI (if false = true then 1 else 0)) (nI pre.length) M = X_Model_rounds_L111 n a5 kx f (nI (if (st (ap S.R S.A.gl m 15 W1) && decide (am (ap S.R S.A.gl m 15 W1) = 0)) = true then 1 else 0)) (nI (pre.length + 1)) M2 := by
        show (if M.1 0 47 ≤ nI pre.length then _ else (if nI 0 = 0 then gd (nI pre.length) 80 (bd (X_Model_goesRound n 2 (M.1 19 (nI pre.length).toNatClampNeg) M) fun _ M26 => bd (X_Model_isStill n 2 M26) fun r27 M28 => nm (fun (u29 : Int32) (M30 : Mem) => (X_Model_rounds_L111 n a5 kx f u29 (nI pre.length + 1) M30 : Option (Int32 × Mem))) fun k158 => (if r27 = 0 then k158 0 M28 else bd (X_Model_isGood n 2 M28) fun r31 M32 => (if r31 = 0 then k158 0 M32 else k158 1 M32))) else _)) = _
        simp only [nm]
        rw [hVr.1, if_neg (nI_ge hlen (by omega)), if_pos (show nI 0 = 0 from rfl), gd_in (vp_in_nI (n := pre.length) (by omega) (by decide)), nI_clamp (by omega), hVr.2 _ _ em, show X_Model_goesRound n 2 (nI m) M = _ from g1, bd_ret, show X_Model_isStill n 2 M2 = _ from hT M2 _ 2 (by omega) hK2 hW2 g3, bd_ret, nI_1]
        cases es : st (ap S.R S.A.gl m 15 W1) with
        | false => rfl
        | true =>
          rw [if_neg (show ¬ (if true = true then (1 : Int32) else 0) = 0 by decide), show X_Model_isGood n 2 M2 = _ from hG M2 _ 2 (by omega) hK2 hW2 g3, bd_ret]
          by_cases ea : am (ap S.R S.A.gl m 15 W1) = 0
          · rw [if_pos ea, if_neg i10, decide_eq_true ea]
            rfl
          · rw [if_neg ea, if_pos rfl, decide_eq_false ea]
            rfl
      obtain ⟨M', b, c1, c2, c3⟩ := m_L111 n hn hS hG hT a5 kx hV hl hW suf (pre ++ [m]) f (st (ap S.R S.A.gl m 15 W1) && decide (am (ap S.R S.A.gl m 15 W1) = 0)) M2 (by rw [e, List.append_assoc]; rfl) (by omega) hK2 hVr2 hL2
      rw [List.length_append, List.length_singleton] at c1
      refine ⟨M', b, by rw [un]; exact c1, g2.trans c2, ?_⟩
      rw [c3, Bool.and_eq_true, decide_eq_true_iff]
      constructor
      · intro h
        rcases h with h | ⟨m', h1, h2⟩
        · exact Or.inr ⟨m, List.mem_cons_self, h⟩
        · exact Or.inr ⟨m', List.mem_cons_of_mem _ h1, h2⟩
      · intro h
        rcases h with h | ⟨m', h1, h2⟩
        · exact absurd h Bool.false_ne_true
        · rcases List.mem_cons.mp h1 with q | q
          · rw [q] at h2; exact Or.inl h2
          · exact Or.inr ⟨m', q, h2⟩
theorem m_L69 (n : Nat) (hn : 100 ≤ n) {S : Ab} (hS : Ok S) {v : Nat → Int32} {am : WW → Nat} {st : WW → Bool} (hG : gdH n S v am) (hT : stH n S v st) (kx : Int32 → Mem → Option (Int32 × Mem)) {V : List Nat} (hV : ∀ m ∈ V, vld S.R.1 S.A.gl m = true ∧ m < 2 ^ 15) (hl : V.length ≤ 75) {W : WW} (hW : OkW W) : ∀ (suf pre : List Nat) (f : Nat) (v4 : Bool) (M : Mem), V = pre ++ suf → suf.length < f → Kr S v M → Vr M V → LyM M 15 (60 * 0) W → ((∃ m, m ∈ suf ∧ QQ st am (ap S.R S.A.gl m 15 W)) ∧ ∃ M', X_Model_rounds_L69 n kx f (nI (if v4 = true then 1 else 0)) (nI pre.length) M = some (1, M') ∧ MA M' S) ∨ ((¬ ∃ m, m ∈ suf ∧ QQ st am (ap S.R S.A.gl m 15 W)) ∧ ∃ M' b, X_Model_rounds_L69 n kx f (nI (if v4 = true then 1 else 0)) (nI pre.length) M = kx (nI (if b = true then 1 else 0)) M' ∧ MA M' S ∧ (b = true ↔ (v4 = true ∨ ∃ m, m ∈ suf ∧ st (ap S.R S.A.gl m 15 W) = true ∧ ∃ m', m' ∈ V ∧ QQ st am (ap S.R S.A.gl m' 15 (ap S.R S.A.gl m 15 W)))))
  | [], pre, f, v4, M, e, hf, hK, hVr, hL => by
    obtain ⟨f, rfl⟩ : ∃ q, f = q + 1 := ⟨f - 1, by omega⟩
    rw [List.append_nil] at e
    refine Or.inr ⟨fun ⟨m, h, _⟩ => absurd h List.not_mem_nil, M, v4, ?_, hK.1, ⟨Or.inl, fun h => h.elim id (fun ⟨m, h, _⟩ => absurd h List.not_mem_nil)⟩⟩
    show (if M.1 0 47 ≤ nI pre.length then _ else _) = _
    rw [hVr.1, e, if_pos (nI_le (Nat.le_refl _) (by rw [← e]; omega))]
  | m :: suf, pre, f, v4, M, e, hf, hK, hVr, hL => by
    rw [List.length_cons] at hf
    obtain ⟨f, rfl⟩ : ∃ q, f = q + 1 := ⟨f - 1, by omega⟩
    have hlen : pre.length < V.length := by rw [e, List.length_append, List.length_cons]; omega
    have em : V[pre.length]? = some m := by rw [e, List.getElem?_append_right (Nat.le_refl _), Nat.sub_self]; rfl
    have hm := hV m (by rw [e]; exact List.mem_append_right _ List.mem_cons_self)
    have e2 : V = (pre ++ [m]) ++ suf := by rw [e, List.append_assoc]; rfl
    obtain ⟨M2, g1, g2, g3⟩ := m_goes n (by omega) hS hK.1 (L := 0) (by omega) hm.1 hm.2 hW hL
    have hK2 : Kr S v M2 := hK.fr hS (fun c k q => ⟨mh_mS q, fun r => by unfold mh mk rg at q; omega⟩) g2
    have hW2 : OkW (ap S.R S.A.gl m 15 W) := ap_ok hS.hR 15 _ hW
    have hVr2 : Vr M2 V := hVr.fr g2 (fun q => by unfold mh mk rg at q; omega) (fun k q => by unfold mh mk rg at q; omega)
    have hL2 : LyM M2 15 (60 * 0) W := hL.fr hW g2 (fun k h1 h2 q => by unfold mh mk rg at q; omega)
    have un : X_Model_rounds_L69 n kx (f + 1) (nI (if v4 = true then 1 else 0)) (nI pre.length) M = if st (ap S.R S.A.gl m 15 W) then (if am (ap S.R S.A.gl m 15 W) = 0 then some (1, M2) else X_Model_rounds_L111 n (nI pre.length) (fun y33 M34 => X_Model_rounds_L69 n kx f y33 (nI (pre.length + 1)) M34) n (nI (if v4 = true then 1 else 0)) 0 M2) else X_Model_rounds_L69 n kx f (nI (if v4 = true then 1 else 0)) (nI (pre.length + 1)) M2 := by
      show (if M.1 0 47 ≤ nI pre.length then _ else gd (nI pre.length) 80 (bd (X_Model_goesRound n 1 (M.1 19 (nI pre.length).toNatClampNeg) M) fun _ M18 => bd (X_Model_isStill n 1 M18) fun r19 M20 => nm (fun (z21 : Int32) (M22 : Mem) => (X_Model_rounds_L69 n kx f z21 (nI pre.length + 1) M22 : Option (Int32 × Mem))) fun k166 => (if r19 = 0 then k166 (nI (if v4 = true then 1 else 0)) M20 else bd (X_Model_isGood n 1 M20) fun r23 M24 => (if r23 = 0 then X_Model_rounds_L111 n (nI pre.length) (fun y33 M34 => k166 y33 M34) n (nI (if v4 = true then 1 else 0)) 0 M24 else some (1, M24))))) = _
      simp only [nm]
      rw [hVr.1, if_neg (nI_ge hlen (by omega)), gd_in (vp_in_nI (n := pre.length) (by omega) (by decide)), nI_clamp (by omega), hVr.2 _ _ em, show X_Model_goesRound n 1 (nI m) M = _ from g1, bd_ret, show X_Model_isStill n 1 M2 = _ from hT M2 _ 1 (by omega) hK2 hW2 g3, bd_ret, nI_1]
      cases es : st (ap S.R S.A.gl m 15 W) with
      | false => rfl
      | true =>
        rw [if_neg (show ¬ (if true = true then (1 : Int32) else 0) = 0 by decide), show X_Model_isGood n 1 M2 = _ from hG M2 _ 1 (by omega) hK2 hW2 g3, bd_ret, if_pos rfl]
        by_cases ea : am (ap S.R S.A.gl m 15 W) = 0
        · rw [if_pos ea, if_neg i10, if_pos ea]
        · rw [if_neg ea, if_pos rfl, if_neg ea]
    rw [un]
    have elen : (pre ++ [m]).length = pre.length + 1 := by rw [List.length_append, List.length_singleton]
    cases es : st (ap S.R S.A.gl m 15 W) with
    | false =>
      rw [if_neg Bool.false_ne_true]
      have nq : ¬ QQ st am (ap S.R S.A.gl m 15 W) := fun q => by have := q.1; rw [es] at this; exact absurd this Bool.false_ne_true
      rcases m_L69 n hn hS hG hT kx hV hl hW suf (pre ++ [m]) f v4 M2 e2 (by omega) hK2 hVr2 hL2 with ⟨⟨m', h1, h2⟩, M', c1, c2⟩ | ⟨h1, M', b, c1, c2, c3⟩
      · rw [elen] at c1
        exact Or.inl ⟨⟨m', List.mem_cons_of_mem _ h1, h2⟩, M', c1, c2⟩
      · rw [elen] at c1
        refine Or.inr ⟨fun ⟨m', q1, q2⟩ => ?_, M', b, c1, c2, ?_⟩
        · rcases List.mem_cons.mp q1 with q | q
          · rw [q] at q2; exact nq q2
          · exact h1 ⟨m', q, q2⟩
        · rw [c3]
          constructor
          · intro h
            rcases h with h | ⟨m', q1, q2⟩
            · exact Or.inl h
            · exact Or.inr ⟨m', List.mem_cons_of_mem _ q1, q2⟩
          · intro h
            rcases h with h | ⟨m', q1, q2⟩
            · exact Or.inl h
            · rcases List.mem_cons.mp q1 with q | q
              · rw [q, es] at q2; exact absurd q2.1 Bool.false_ne_true
              · exact Or.inr ⟨m', q, q2⟩
    | true =>
      rw [if_pos rfl]
      by_cases ea : am (ap S.R S.A.gl m 15 W) = 0
      · rw [if_pos ea]
        exact Or.inl ⟨⟨m, List.mem_cons_self, es, ea⟩, M2, rfl, hK2.1⟩
      · rw [if_neg ea]
        have nq : ¬ QQ st am (ap S.R S.A.gl m 15 W) := fun q => ea q.2
        obtain ⟨M3, b0, d1, d2, d3⟩ := m_L111 n (by omega) hS hG hT (nI pre.length) (fun y33 M34 => X_Model_rounds_L69 n kx f y33 (nI (pre.length + 1)) M34) hV hl hW2 V [] n v4 M2 rfl (by omega) hK2 hVr2 g3
        have hK3 : Kr S v M3 := hK2.fr hS (fun c k q => ⟨mh_mS q, fun r => by unfold mh mk rg at q; omega⟩) d2
        have hVr3 : Vr M3 V := hVr2.fr d2 (fun q => by unfold mh mk rg at q; omega) (fun k q => by unfold mh mk rg at q; omega)
        have hL3 : LyM M3 15 (60 * 0) W := hL2.fr hW d2 (fun k h1 h2 q => by unfold mh mk rg at q; omega)
        rw [show X_Model_rounds_L111 n (nI pre.length) (fun y33 M34 => X_Model_rounds_L69 n kx f y33 (nI (pre.length + 1)) M34) n (nI (if v4 = true then 1 else 0)) 0 M2 = _ from d1]
        rcases m_L69 n hn hS hG hT kx hV hl hW suf (pre ++ [m]) f b0 M3 e2 (by omega) hK3 hVr3 hL3 with ⟨⟨m', h1, h2⟩, M', c1, c2⟩ | ⟨h1, M', b, c1, c2, c3⟩
        · rw [elen] at c1
          exact Or.inl ⟨⟨m', List.mem_cons_of_mem _ h1, h2⟩, M', c1, c2⟩
        · rw [elen] at c1
          refine Or.inr ⟨fun ⟨m', q1, q2⟩ => ?_, M', b, c1, c2, ?_⟩
          · rcases List.mem_cons.mp q1 with q | q
            · rw [q] at q2; exact nq q2
            · exact h1 ⟨m', q, q2⟩
          · rw [c3, d3]
            constructor
            · intro h
              rcases h with (h | h) | ⟨m', q1, q2⟩
              · exact Or.inl h
              · exact Or.inr ⟨m, List.mem_cons_self, es, h⟩
              · exact Or.inr ⟨m', List.mem_cons_of_mem _ q1, q2⟩
            · intro h
              rcases h with h | ⟨m', q1, q2⟩
              · exact Or.inl (Or.inl h)
              · rcases List.mem_cons.mp q1 with q | q
                · rw [q] at q2; exact Or.inl (Or.inr q2.2)
                · exact Or.inr ⟨m', q, q2⟩
theorem gd_w0 (n : Nat) (hn : 20 ≤ n) {S : Ab} (hS : Ok S) {t so : Nat} {ot : Int32} (ht : t < 16) (hs : so < 64) {M : Mem} {W : WW} {L : Nat} (hL : L < 10) (hM : MA M S) (hv : Sl (vK 0 (nI t) (nI so) ot) M) (hW : OkW W) (hl : LyM M 15 (60 * L) W) : X_Model_isGood n (nI L) M = some (if amF S.R.1 t so 0 W = 0 then 1 else 0, M) := by
  have e39 : M.1 0 39 = 0 := hv 39 (by omega) (by omega)
  have e40 : M.1 0 40 = nI t := hv 40 (by omega) (by omega)
  have e41 : M.1 0 41 = nI so := hv 41 (by omega) (by omega)
  have hw := wlt hS.p6 W t
  unfold X_Model_isGood
  rw [e39, e40, if_neg (by decide), m_whoIn n hn hM.c.1 hS.p6 hL ht hW hl, bd_ret, e39, if_neg (by decide), e41, i_and]
  have : _ ↔ amF S.R.1 t so 0 W = 0 := am_so _ hw so hs
  by_cases e : whoN W t S.R.1 &&& so = so
  · rw [if_pos (by rw [e]), if_pos (this.mp e)]
  · rw [if_neg (fun q => e ((nI_eq (Nat.lt_of_le_of_lt Nat.and_le_right (by omega)) (by omega)).mp q)), if_neg (fun q => e (this.mpr q))]
theorem st_w0 (n : Nat) (hn : 20 ≤ n) {S : Ab} (hS : Ok S) {t ot : Nat} {so : Int32} (ht : t < 16) {M : Mem} {W : WW} {L : Nat} (hL : L < 10) (hM : MA M S) (hv : Sl (vK 0 (nI t) so (nI ot)) M) (hW : OkW W) (hl : LyM M 15 (60 * L) W) : X_Model_isStill n (nI L) M = some (if stF S.R.1 t ot W then 1 else 0, M) := by
  have e39 : M.1 0 39 = 0 := hv 39 (by omega) (by omega)
  have e40 : M.1 0 40 = nI t := hv 40 (by omega) (by omega)
  have e42 : M.1 0 42 = nI ot := hv 42 (by omega) (by omega)
  have hw := wlt hS.p6 W t
  unfold X_Model_isStill stF
  rw [e39, e40, if_pos rfl, m_whoIn n hn hM.c.1 hS.p6 hL ht hW hl, bd_ret, e42]
  by_cases e : whoN W t S.R.1 &&& ot = 0
  · rw [if_pos ((and_i0 hw).mpr e), decide_eq_true e]; rfl
  · rw [if_neg (fun q => e ((and_i0 hw).mp q)), decide_eq_false e]; rfl
theorem TT_1 {R : Rl} {g : Nat} {st : WW → Bool} {am : WW → Nat} (W : WW) : TT R g st am 1 15 0 W ↔ (QQ st am W ∨ ∃ m, m ∈ vls R.1 g 32768 ∧ QQ st am (ap R g m 15 W)) := by
  refine (TK_mask 15 (Nat.le_refl _) 0 W).trans ?_
  constructor
  · intro ⟨m, h1, h2, h3⟩
    by_cases e : m = 0
    · rw [e, ap_0] at h3
      exact Or.inl h3
    · exact Or.inr ⟨m, (vls_mem _).mpr ⟨h1, by unfold vld; rw [decide_eq_true e, h2]; rfl⟩, h3⟩
  · intro h
    rcases h with h | ⟨m, h1, h2⟩
    · exact ⟨0, by decide, isRd_0 _ _ _ _, by rw [ap_0]; exact h⟩
    · obtain ⟨q1, q2⟩ := (vls_mem _).mp h1
      unfold vld at q2
      rw [Bool.and_eq_true] at q2
      exact ⟨m, q1, q2.2, h2⟩
theorem TT_2 {R : Rl} {g : Nat} {st : WW → Bool} {am : WW → Nat} {W : WW} (h1 : ¬ TT R g st am 1 15 0 W) : TT R g st am 2 15 0 W ↔ ∃ m, m ∈ vls R.1 g 32768 ∧ st (ap R g m 15 W) = true ∧ ∃ m', m' ∈ vls R.1 g 32768 ∧ QQ st am (ap R g m' 15 (ap R g m 15 W)) := by
  have h1' := fun q => h1 ((TT_1 W).mpr q)
  refine (TK_mask 15 (Nat.le_refl _) 0 W).trans ?_
  constructor
  · intro ⟨m, q1, q2, q3, q4⟩
    by_cases e : m = 0
    · rw [e, ap_0] at q4
      exact absurd q4 h1
    · have hm : m ∈ vls R.1 g 32768 := (vls_mem _).mpr ⟨q1, by unfold vld; rw [decide_eq_true e, q2]; rfl⟩
      rcases (TT_1 _).mp q4 with q | q
      · exact absurd (Or.inr ⟨m, hm, q⟩) h1'
      · exact ⟨m, hm, q3, q⟩
  · intro ⟨m, q1, q2, q3⟩
    obtain ⟨r1, r2⟩ := (vls_mem _).mp q1
    unfold vld at r2
    rw [Bool.and_eq_true] at r2
    exact ⟨m, r1, r2.2, q2, (TT_1 _).mpr (Or.inr q3)⟩
theorem sim_rounds (a0' a1' a2' : Int32) : Sm (fun M => X_ShakeHands_rounds fuel a0' a1' a2' M) (fun M => X_Model_rounds fuel a0' a1' a2' M) := by
  intro Mx Mm hR
  have hR0 := hR
  obtain ⟨S, hS, hx, hm⟩ := hR
  have h6 := hS.p6
  have hpw := pw6 h6
  show ∃ r Mx2 Mm2, X_ShakeHands_rounds fuel a0' a1' a2' Mx = some (r, Mx2) ∧ X_Model_rounds fuel a0' a1' a2' Mm = some (r, Mm2) ∧ Rel Mx2 Mm2
  unfold X_ShakeHands_rounds X_Model_rounds
  rw [x_isThing, m_isThing, bd_ret, bd_ret]
  cases ev0 : vN a0' 16 with
  | false => exact ⟨_, _, _, rfl, rfl, hR0⟩
  | true =>
    rw [if_neg (show ¬ (if true = true then (1 : Int32) else 0) = 0 by decide), if_neg (show ¬ (if true = true then (1 : Int32) else 0) = 0 by decide), x_areP h6 hx.c.1, m_areP fuel h6 hm.c.1, bd_ret, bd_ret]
    cases ev1 : vN a1' (2 ^ S.R.1) with
    | false => exact ⟨_, _, _, rfl, rfl, hR0⟩
    | true =>
      rw [if_neg (show ¬ (if true = true then (1 : Int32) else 0) = 0 by decide), if_neg (show ¬ (if true = true then (1 : Int32) else 0) = 0 by decide), x_areP h6 hx.c.1, m_areP fuel h6 hm.c.1, bd_ret, bd_ret]
      cases ev2 : vN a2' (2 ^ S.R.1) with
      | false => exact ⟨_, _, _, rfl, rfl, hR0⟩
      | true =>
        obtain ⟨b1, b2⟩ := vN_y (by decide) ev0
        obtain ⟨c1, c2⟩ := vN_y (by omega) ev1
        obtain ⟨d1, d2⟩ := vN_y (by omega) ev2
        rw [if_neg (show ¬ (if true = true then (1 : Int32) else 0) = 0 by decide), if_neg (show ¬ (if true = true then (1 : Int32) else 0) = 0 by decide)]
        generalize pN a0' = t at b1 b2
        generalize pN a1' = so at c1 c2
        generalize pN a2' = ot at d1 d2
        subst b2 c2 d2
        have hso : so < 64 := by omega
        have hA : OkA (amF S.R.1 t so 0) := amF_ok hso (by decide)
        have hma : amH fuel S (uK (nI t) (nI so) (nI 0) (nI ot)) (amF S.R.1 t so 0) := am_k fuel (by decide) hS b1
        have hba : baH fuel S (uK (nI t) (nI so) (nI 0) (nI ot)) (stF S.R.1 t ot) := ba_k fuel (by decide) hS b1
        have hG : gdH fuel S (vK 0 (nI t) (nI so) (nI ot)) (amF S.R.1 t so 0) := gd_k0 fuel (by decide) hS b1 hso
        have hT : stH fuel S (vK 0 (nI t) (nI so) (nI ot)) (stF S.R.1 t ot) := st_k0 fuel (by decide) hS b1
        have hlt := hA.1 S.A.W
        obtain ⟨M9, f1, f2, f3, f4⟩ := x_begin hS hx
        have hM9 : XA M9 S := hx.off (f2.mono (fun a ha => xQ_S (xQ_of (by simp at ha; omega))))
        obtain ⟨M11, k1, k2, hK⟩ := x_aim fuel (nI t) (nI so) (nI 0) (nI ot) hM9 f3
        have hr : rowsAt M11 (30 + 0) S.A.W := f4.off k2 (by simp)
        obtain ⟨N8, g1, g2, g3⟩ := m_asks fuel 0 (nI t) (nI so) (nI ot) hS hm
        have l0 : LyM (m0 N8) 15 (60 * 0) S.A.W := m0_ly hS g2
        have g4 : MA (m0 N8) S := g2.fr hS (mh_S (m0_fr N8))
        have g5 : Sl (vK 0 (nI t) (nI so) (nI ot)) (m0 N8) := g3
        have hW := hS.hA.1
        have he := hS.hA.2.1
        have es0 := st_w0 fuel (by decide) hS (L := 0) (so := nI so) b1 (by decide) g4 g5 hW l0
        have eg0 := gd_w0 fuel (by decide) hS (L := 0) (ot := nI ot) b1 hso (by decide) g4 g5 hW l0
        generalize amF S.R.1 t so 0 = am at hA hma hG hlt eg0
        generalize stF S.R.1 t ot = st at hba hT es0
        have hb0 := hba M11 S.A.W 0 (by decide) hK hW he hr
        have ha0 := hma M11 S.A.W 0 (by decide) hK hW he hr
        have ux : X_Search_fewestRounds fuel M11 = if st S.A.W then (if am S.A.W = 0 then some (0, M11) else X_Search_fewestRounds_L33 fuel fuel (nI 1) M11) else some (-4, M11) := by
          unfold X_Search_fewestRounds
          rw [gd_in v07, show X_Search_isBarred fuel (([30, 31, 32, 33, 34, 35, 36] : List Nat).getD (0 : Int32).toNatClampNeg 0) M11 = _ from hb0, bd_ret]
          cases es : st S.A.W with
          | false => rfl
          | true =>
            rw [if_pos (show (if true = true then (0 : Int32) else 1) = 0 from rfl), gd_in v07, show X_Search_amiss fuel (([30, 31, 32, 33, 34, 35, 36] : List Nat).getD (0 : Int32).toNatClampNeg 0) M11 = _ from ha0, bd_ret, if_pos rfl]
            by_cases ea : am S.A.W = 0
            · rw [ea, if_pos (show nI 0 = 0 from rfl), if_pos rfl]
            · rw [if_neg (fun q => ea ((i_z (show am S.A.W < 2 ^ 31 by omega)).mp q)), if_neg ea]
              rfl
        rw [f1, bd_ret, show X_Search_aim fuel (nI t) (nI so) 0 (nI ot) M9 = _ from k1, bd_ret, ux, g1, bd_ret, show X_Model_begins fuel 0 N8 = _ from m0_b N8, bd_ret, show X_Model_isStill fuel 0 (m0 N8) = _ from es0, bd_ret]
        have hX11 : XA M11 S := hK.1
        cases es : st S.A.W with
        | false => exact ⟨_, _, _, rfl, rfl, ⟨S, hS, hX11, g4⟩⟩
        | true =>
          rw [if_pos rfl, if_neg (show ¬ (if true = true then (1 : Int32) else 0) = 0 by decide), show X_Model_isGood fuel 0 (m0 N8) = _ from eg0, bd_ret]
          by_cases ea : am S.A.W = 0
          · rw [if_pos ea, if_pos ea, if_neg i10]
            exact ⟨_, _, _, rfl, rfl, ⟨S, hS, hX11, g4⟩⟩
          · rw [if_neg ea, if_neg ea, if_pos rfl]
            -- the class's loop
            have hx33 : ∀ f, 3 ≤ f → ∃ r M', X_Search_fewestRounds_L33 fuel f (nI 1) M11 = some (r, M') ∧ XA M' S ∧ ((r = 1 ∧ TT S.R S.A.gl st am 1 15 0 S.A.W) ∨ (¬ TT S.R S.A.gl st am 1 15 0 S.A.W ∧ ((r = 2 ∧ TT S.R S.A.gl st am 2 15 0 S.A.W) ∨ (r = -4 ∧ ¬ TT S.R S.A.gl st am 2 15 0 S.A.W)))) := by
              intro f hf
              obtain ⟨f, rfl⟩ : ∃ q, f = q + 3 := ⟨f - 3, by omega⟩
              have e0 : popN 16 0 = 0 := by decide
              have s1 : ∀ f v M, v < 3 → X_Search_fewestRounds_L33 fuel (f + 1) (nI v) M = bd (X_Search_turns fuel 12 (nI 0) (nI 0) (nI (15 - 15)) (nI v) M) fun r7 M8 => (if r7 = 0 then X_Search_fewestRounds_L33 fuel f (nI (v + 1)) M8 else some (nI v, M8)) := fun f v M hv => by
                show (if (2 : Int32) < nI v then _ else bd (X_Search_turns fuel 12 0 0 0 (nI v) M) fun r7 M8 => (if r7 = 0 then X_Search_fewestRounds_L33 fuel f (nI v + 1) M8 else some (nI v, M8))) = _
                rw [if_neg (show ¬ (2 : Int32) < nI v from Int32.not_lt.mpr (nI_le (b := 2) (by omega) (by decide))), nI_1]
                rfl
              obtain ⟨r1, M1, t1, t2, t3⟩ := x_turns fuel (by decide) hS hA hma hba 1 (by decide) 3 12 0 15 0 M11 S.A.W (by decide) (by decide) (Or.inr ⟨by decide, by omega, by decide⟩) (by decide) hK hW he hr
              rw [s1 _ 1 _ (by decide), t1, bd_ret]
              rcases t3 with ⟨t3, t4⟩ | ⟨t3, t4⟩
              · rw [t3, if_neg i10]
                exact ⟨_, M1, rfl, (hK.fr t2).1, Or.inl ⟨rfl, t4⟩⟩
              · rw [t3, if_pos rfl]
                obtain ⟨r2, M2, u1, u2, u3⟩ := x_turns fuel (by decide) hS hA hma hba 2 (by decide) 3 12 0 15 0 M1 S.A.W (by decide) (by decide) (Or.inr ⟨by decide, by omega, by decide⟩) (by decide) (hK.fr t2) hW he (rows_fr hr t2)
                rw [s1 _ 2 _ (by decide), u1, bd_ret]
                have hX2 := ((hK.fr t2).fr u2).1
                rcases u3 with ⟨u3, u4⟩ | ⟨u3, u4⟩
                · rw [u3, if_neg i10]
                  exact ⟨_, M2, rfl, hX2, Or.inr ⟨t4, Or.inl ⟨rfl, u4⟩⟩⟩
                · rw [u3, if_pos rfl]
                  refine ⟨-4, M2, ?_, hX2, Or.inr ⟨t4, Or.inr ⟨rfl, u4⟩⟩⟩
                  show (if (2 : Int32) < nI 3 then _ else _) = _
                  rw [if_pos (by decide)]
            obtain ⟨r, M', v1, v2, v3⟩ := hx33 fuel (by decide)
            -- the reference's rounds
            have hgl := hS.gl
            have ew : X_Model_worn fuel (m0 N8) = some (nI S.A.gl, m0 N8) := m_worn fuel (by decide) g4.c.1 h6 hS.hA.2.2.1 g4.a.2.1
            have f38 : Fr (fun c k => c = 0 ∧ (k = 38 ∨ k = 47)) (m0 N8) (si (si (m0 N8) 0 38 (nI S.A.gl)) 0 47 0) := (Fr.si ⟨rfl, Or.inl rfl⟩).trans (Fr.si ⟨rfl, Or.inr rfl⟩)
            have hKr : Kr S (vK 0 (nI t) (nI so) (nI ot)) (si (si (m0 N8) 0 38 (nI S.A.gl)) 0 47 0) := ⟨g4.fr hS (f38.mono (fun c k q => by unfold mS; omega)), rfl, fun k h1 h2 => by
              rw [si_ne (Or.inr (by omega))]
              by_cases q : k = 38
              · omega
              · rw [si_ne (Or.inr q)]; exact g5 k h1 h2⟩
            have v1e : vls S.R.1 S.A.gl 1 = [] := by
              show (if vld S.R.1 S.A.gl 0 then vls S.R.1 S.A.gl 0 ++ [0] else vls S.R.1 S.A.gl 0) = []
              rw [if_neg]
              · rfl
              · unfold vld; simp
            obtain ⟨M5, w1, w2, w3⟩ := m_layRounds_L fuel (by decide) hS 32767 1 fuel _ (by decide) (by decide) (by decide) hKr (by rw [v1e]; exact ⟨rfl, fun i m h => absurd h (by simp)⟩)
            have hK5 : Kr S (vK 0 (nI t) (nI so) (nI ot)) M5 := hKr.fr hS (fun c k q => by unfold lr at q; unfold mS; omega) w2
            have l5 : LyM M5 15 (60 * 0) S.A.W := (l0.fr hW f38 (fun k h1 h2 q => by omega)).fr hW w2 (fun k h1 h2 q => by unfold lr at q; omega)
            have hVm : ∀ m ∈ vls S.R.1 S.A.gl 32768, vld S.R.1 S.A.gl m = true ∧ m < 2 ^ 15 := fun m h => ((vls_mem _).mp h).symm
            have ul : X_Model_layRounds fuel (m0 N8) = some ((), M5) := by
              unfold X_Model_layRounds
              rw [ew, bd_ret]
              exact w1
            rw [v1, bd_ret, ul, bd_ret]
            have h69 := m_L69 fuel (by decide) hS hG hT (fun y35 M36 => (if y35 = 0 then some ((-4), M36) else some (2, M36))) hVm (vls_75 _ _ (Nat.le_refl _)) hW (vls S.R.1 S.A.gl 32768) [] fuel false M5 rfl (Nat.lt_of_le_of_lt (vls_75 _ _ (Nat.le_refl _)) (by decide)) hK5 w3 l5
            have nQ : ¬ QQ st am S.A.W := fun q => ea q.2
            rcases h69 with ⟨y1, M6, y2, y3⟩ | ⟨y1, M6, b, y2, y3, y4⟩
            · rw [show X_Model_rounds_L69 fuel _ fuel 0 0 M5 = _ from y2]
              have hT1 := (TT_1 (R := S.R) (g := S.A.gl) (st := st) (am := am) S.A.W).mpr (Or.inr y1)
              rcases v3 with ⟨v3, _⟩ | ⟨v3, _⟩
              · rw [v3]; exact ⟨_, _, _, rfl, rfl, ⟨S, hS, v2, y3⟩⟩
              · exact absurd hT1 v3
            · rw [show X_Model_rounds_L69 fuel _ fuel 0 0 M5 = _ from y2]
              have nT1 : ¬ TT S.R S.A.gl st am 1 15 0 S.A.W := fun q => ((TT_1 _).mp q).elim nQ y1
              have e2 := TT_2 nT1
              rcases v3 with ⟨_, v4⟩ | ⟨_, ⟨v3, v4⟩ | ⟨v3, v4⟩⟩
              · exact absurd v4 nT1
              · have : b = true := y4.mpr (Or.inr (e2.mp v4))
                rw [this, v3]
                exact ⟨_, _, _, rfl, rfl, ⟨S, hS, v2, y3⟩⟩
              · have : b = false := Bool.eq_false_iff.mpr (fun q => (y4.mp q).elim (fun q => absurd q Bool.false_ne_true) (fun q => v4 (e2.mpr q)))
                rw [this, v3]
                exact ⟨_, _, _, rfl, rfl, ⟨S, hS, v2, y3⟩⟩
end
section
/-! SEARCH: seats, their order -/
def flP (P : Nat) (h : Nat → List (List Nat)) : Nat → List (List Nat)
  | 0 => []
  | j + 1 => h (P - (j + 1)) ++ flP P h j
def pl (P : Nat) : Nat → Nat → List Nat → List (List Nat)
  | 0, _, pre => [pre]
  | k + 1, b, pre => flP P (fun v => if b.testBit v then [] else pl P k (b ||| 2 ^ v) (pre ++ [v])) P
def nthO (used : Nat) : Nat → Nat → Nat → Option Nat
  | 0, _, _ => none
  | k + 1, c, v => if used.testBit v then nthO used k c (v + 1) else if c = 0 then some v else nthO used k (c - 1) (v + 1)
def decO : Nat → Nat → Nat → Nat → List Nat → Option (List Nat)
  | 0, _, _, _, pre => some pre
  | k + 1, i, f, used, pre => if f / (k + 1) = 0 then none else match nthO used 6 (i / (f / (k + 1))) 0 with
    | none => none
    | some y => decO k (i - i / (f / (k + 1)) * (f / (k + 1))) (f / (k + 1)) (used ||| 2 ^ y) (pre ++ [y])
def fc : Nat → Nat
  | 0 => 1
  | n + 1 => fc n * (n + 1)
theorem dec_pl : ∀ P, P < 7 → 2 ≤ P → (List.range (fc P)).map (fun i => decO P i (fc P) 0 []) = (pl P P 0 []).map some := by decide +kernel
theorem fc_le : ∀ P, P < 7 → fc P ≤ 720 := by decide
theorem i_div {a b : Nat} (ha : a < 2 ^ 31) (hb : b < 2 ^ 31) : nI a / nI b = nI (a / b) := by
  have h1 : (nI a).toInt = (a : Int) := Int32.toInt_ofNat_of_lt ha
  have h2 : (nI b).toInt = (b : Int) := Int32.toInt_ofNat_of_lt hb
  have hd : a / b < 2 ^ 31 := Nat.lt_of_le_of_lt (Nat.div_le_self a b) ha
  have h3 : (nI (a / b)).toInt = ((a / b : Nat) : Int) := Int32.toInt_ofNat_of_lt hd
  apply Int32.toInt_inj.mp
  rw [Int32.toInt_div, h1, h2, h3, ← Int.ofNat_tdiv]
  generalize a / b = q at hd
  exact Int.bmod_eq_of_le (by omega) (by omega)
def Sq (M : Mem) (w : List Nat) : Prop := ∀ i x, w[i]? = some x → M.1 21 i = nI x
theorem Sq.snoc {M : Mem} {w : List Nat} {x : Nat} (h : Sq M w) : Sq (si M 21 w.length (nI x)) (w ++ [x]) := fun i y hi => by
  by_cases q : i < w.length
  · rw [List.getElem?_append_left q] at hi
    rw [si_ne (Or.inr (by omega))]
    exact h i y hi
  · have hl := (List.getElem?_eq_some_iff.mp hi).1
    rw [List.length_append, List.length_singleton] at hl
    have : i = w.length := by omega
    subst this
    rw [List.getElem?_append_right (Nat.le_refl _), Nat.sub_self] at hi
    rw [si_at, ← Option.some.inj hi]
theorem m_sits_64 (n : Nat) {a2 a3 a5 : Int32} {used : Nat} (hu : used < 2 ^ 31) (kx : Int32 → Option (Unit × Mem)) (M : Mem) {y : Nat} : ∀ k c v m, k < m → k + v < 20 → c < 2 ^ 31 → nthO used k c v = some y → X_Model_sits_L64 n a2 a3 (nI used) a5 kx M m (nI c) (nI v) = kx (nI y)
  | 0, c, v, m, h1, h2, h3, h => absurd h (by simp [nthO])
  | k + 1, c, v, m, h1, h2, h3, h => by
    obtain ⟨m, rfl⟩ : ∃ q, m = q + 1 := ⟨m - 1, by omega⟩
    show nm (nm (fun (u6 : Int32) => (nm (nI c - u6) fun x7 => X_Model_sits_L64 n a2 a3 (nI used) a5 kx M m x7 (nI v + 1) : Option (Unit × Mem))) fun k98 => (if ((nI used >>> (nI v &&& 31)) &&& 1) = 1 then k98 0 else k98 1) : Option (Unit × Mem)) (fun k80 => (if ((nI used >>> (nI v &&& 31)) &&& 1) = 1 then k80 else (if nI c ≤ 0 then kx (nI v) else k80))) = _
    simp only [nm]
    rw [b_is hu (by omega)]
    unfold nthO at h
    cases e : used.testBit v with
    | true =>
      rw [e, if_pos rfl] at h
      rw [if_pos (show nI (if true = true then 1 else 0) = 1 from rfl), if_pos (show nI (if true = true then 1 else 0) = 1 from rfl), nI_1, show nI c - 0 = nI c from Int32.sub_zero _]
      exact m_sits_64 n hu kx M k c (v + 1) m (by omega) (by omega) h3 h
    | false =>
      rw [e, if_neg Bool.false_ne_true] at h
      rw [if_neg (show ¬ nI (if false = true then 1 else 0) = 1 by decide)]
      by_cases ec : c = 0
      · rw [if_pos ec] at h
        rw [if_pos (by rw [ec]; exact Int32.le_refl _), Option.some.inj h]
      · rw [if_neg ec] at h
        rw [if_neg (show ¬ nI c ≤ 0 from nI_ge (a := 0) (by omega) h3), if_neg (show ¬ nI (if false = true then 1 else 0) = 1 by decide), nI_1, show (1 : Int32) = nI 1 from rfl, pk_sub (by omega)]
        exact m_sits_64 n hu kx M k (c - 1) (v + 1) m (by omega) (by omega) (by omega) h
theorem nthO_lt {used y : Nat} : ∀ k c v, nthO used k c v = some y → y < k + v
  | 0, c, v, h => absurd h (by simp [nthO])
  | k + 1, c, v, h => by
    unfold nthO at h
    split at h
    · have := nthO_lt k c (v + 1) h
      omega
    · split at h
      · rw [← Option.some.inj h]; omega
      · have := nthO_lt k (c - 1) (v + 1) h
        omega
theorem m_sits_33 (n : Nat) (hn : 20 ≤ n) {P : Nat} (hP : P ≤ 6) : ∀ k i f used pre w m M, pre.length + k = P → k < m → i < 2 ^ 31 → f < 2 ^ 31 → used < 64 → M.1 0 2 = nI P → Sq M pre → decO k i f used pre = some w → ∃ M', X_Model_sits_L33 n m (nI i) (nI f) (nI used) (nI pre.length) M = some ((), M') ∧ Fr (fun c _ => c = 21) M M' ∧ Sq M' w
  | 0, i, f, used, pre, w, m, M, h1, h2, h3, h4, h5, h6, h7, h => by
    obtain ⟨m, rfl⟩ : ∃ q, m = q + 1 := ⟨m - 1, by omega⟩
    refine ⟨M, ?_, Fr.rf, by rw [← Option.some.inj h]; exact h7⟩
    show (if M.1 0 2 ≤ nI pre.length then _ else _) = _
    rw [h6, if_pos (nI_le (by omega) (by omega))]
  | k + 1, i, f, used, pre, w, m, M, h1, h2, h3, h4, h5, h6, h7, h => by
    obtain ⟨m, rfl⟩ : ∃ q, m = q + 1 := ⟨m - 1, by omega⟩
    unfold decO at h
    by_cases e0 : f / (k + 1) = 0
    · rw [if_pos e0] at h
      exact absurd h (by simp)
    · rw [if_neg e0] at h
      have hf : f / (k + 1) < 2 ^ 31 := Nat.lt_of_le_of_lt (Nat.div_le_self _ _) h4
      have hi : i / (f / (k + 1)) < 2 ^ 31 := Nat.lt_of_le_of_lt (Nat.div_le_self _ _) h3
      cases ey : nthO used 6 (i / (f / (k + 1))) 0 with
      | none => rw [ey] at h; exact absurd h (by simp)
      | some y =>
        rw [ey] at h
        have hy : y < 6 := nthO_lt 6 _ 0 ey
        have hle : i / (f / (k + 1)) * (f / (k + 1)) ≤ i := Nat.div_mul_le_self _ _
        have f1 : Fr (fun c _ => c = 21) M (si M 21 pre.length (nI y)) := Fr.si rfl
        obtain ⟨M', a1, a2, a3⟩ := m_sits_33 n hn hP k (i - i / (f / (k + 1)) * (f / (k + 1))) (f / (k + 1)) (used ||| 2 ^ y) (pre ++ [y]) w m (si M 21 pre.length (nI y)) (by rw [List.length_append, List.length_singleton]; omega) (by omega) (by omega) hf (Nat.or_lt_two_pow (n := 6) h5 (Nat.pow_lt_pow_right (by decide) hy)) h6 h7.snoc h
        refine ⟨M', ?_, f1.trans a2, a3⟩
        rw [← a1]
        have e1 : nI P - nI pre.length = nI (k + 1) := by rw [pk_sub (by omega), show P - pre.length = k + 1 by omega]
        have n0 : ¬ nI (f / (k + 1)) = 0 := fun q => e0 ((i_z hf).mp q)
        show (if M.1 0 2 ≤ nI pre.length then _ else (if (M.1 0 2 - nI pre.length) = 0 then none else nm (nI f / (M.1 0 2 - nI pre.length)) fun x3 => (if x3 = 0 then none else nm (nI i / x3) fun x4 => (if x3 = 0 then none else nm (nI i - nI i / x3 * x3) fun x5 => X_Model_sits_L64 n x5 x3 (nI used) (nI pre.length) (fun y8 => gd (nI pre.length) 6 (nm (nI used ||| ((1 : Int32) <<< (y8 &&& 31))) fun x9 => X_Model_sits_L33 n m x5 x3 x9 (nI pre.length + 1) (si M 21 ((nI pre.length).toNatClampNeg) y8))) M n x4 0)))) = _
        simp only [nm]
        rw [h6, if_neg (nI_ge (by omega) (by omega)), e1, if_neg (fun q => by have := (i_z (k := k + 1) (by omega)).mp q; omega), i_div h4 (by omega), if_neg n0, if_neg n0, i_div h3 hf, pk_mul, pk_sub hle]
        refine (m_sits_64 n (show used < 2 ^ 31 by omega) _ M 6 (i / (f / (k + 1))) 0 n (by omega) (by omega) hi ey).trans ?_
        rw [gd_in (vp_in_nI (n := pre.length) (by omega) (by decide)), i_shl1 (by omega), i_or, nI_clamp (by omega), nI_1, List.length_append, List.length_singleton]
theorem m_sits_10 (n : Nat) {a2 a4 : Int32} (kx : Int32 → Option (Unit × Mem)) {M : Mem} {P : Nat} (hP : P ≤ 6) (h6 : M.1 0 2 = nI P) : ∀ d v m, v + d = P → d < m → X_Model_sits_L10 n a2 a4 kx M m (nI (fc v)) (nI (v + 1)) = kx (nI (fc P))
  | 0, v, m, h1, h2 => by
    obtain ⟨m, rfl⟩ : ∃ q, m = q + 1 := ⟨m - 1, by omega⟩
    show (if M.1 0 2 < nI (v + 1) then kx (nI (fc v)) else _) = _
    rw [h6, if_pos (nI_lt (by omega) (by omega)), show v = P by omega]
  | d + 1, v, m, h1, h2 => by
    obtain ⟨m, rfl⟩ : ∃ q, m = q + 1 := ⟨m - 1, by omega⟩
    rw [← m_sits_10 n kx hP h6 d (v + 1) m (by omega) (by omega)]
    show (if M.1 0 2 < nI (v + 1) then _ else nm (nI (fc v) * nI (v + 1)) fun x1 => X_Model_sits_L10 n a2 a4 kx M m x1 (nI (v + 1) + 1)) = _
    simp only [nm]
    rw [h6, if_neg (Int32.not_lt.mpr (nI_le (by omega) (by omega))), pk_mul, nI_1]
    rfl
theorem m_seats_58 (n : Nat) {a1 a2 a3 a4 : Int32} (kx : Int32 → Option (Int32 × Mem)) {M : Mem} {P : Nat} (hP : P ≤ 6) (h6 : M.1 0 2 = nI P) : ∀ d v m, v + d = P → d < m → X_Model_seats_L58 n a1 a2 a3 a4 kx M m (nI (fc v)) (nI (v + 1)) = kx (nI (fc P))
  | 0, v, m, h1, h2 => by
    obtain ⟨m, rfl⟩ : ∃ q, m = q + 1 := ⟨m - 1, by omega⟩
    show (if M.1 0 2 < nI (v + 1) then kx (nI (fc v)) else _) = _
    rw [h6, if_pos (nI_lt (by omega) (by omega)), show v = P by omega]
  | d + 1, v, m, h1, h2 => by
    obtain ⟨m, rfl⟩ : ∃ q, m = q + 1 := ⟨m - 1, by omega⟩
    rw [← m_seats_58 n kx hP h6 d (v + 1) m (by omega) (by omega)]
    show (if M.1 0 2 < nI (v + 1) then _ else nm (nI (fc v) * nI (v + 1)) fun x8 => X_Model_seats_L58 n a1 a2 a3 a4 kx M m x8 (nI (v + 1) + 1)) = _
    simp only [nm]
    rw [h6, if_neg (Int32.not_lt.mpr (nI_le (by omega) (by omega))), pk_mul, nI_1]
    rfl
theorem dec_at {P i : Nat} (hP : P < 7) (h2 : 2 ≤ P) {w : List Nat} (h : (pl P P 0 [])[i]? = some w) : decO P i (fc P) 0 [] = some w ∧ i < fc P := by
  have e := dec_pl P hP h2
  have h1 : ((pl P P 0 []).map some)[i]? = some (some w) := by rw [List.getElem?_map, h]; rfl
  rw [← e, List.getElem?_map] at h1
  cases er : (List.range (fc P))[i]? with
  | none => rw [er] at h1; exact absurd h1 (by simp)
  | some k =>
    rw [er] at h1
    obtain ⟨q1, q2⟩ := List.getElem?_eq_some_iff.mp er
    rw [List.length_range] at q1
    rw [List.getElem_range] at q2
    refine ⟨?_, q1⟩
    rw [q2]
    exact Option.some.inj h1
theorem pl_len {P : Nat} (hP : P < 7) (h2 : 2 ≤ P) : (pl P P 0 []).length = fc P := by
  have e := congrArg List.length (dec_pl P hP h2)
  rw [List.length_map, List.length_map, List.length_range] at e
  exact e.symm
theorem m_sits (n : Nat) (hn : 20 ≤ n) {M : Mem} {P i : Nat} (hP : P < 7) (h2 : 2 ≤ P) (hM : M.1 0 2 = nI P) {w : List Nat} (h : (pl P P 0 [])[i]? = some w) : ∃ M', X_Model_sits n (nI i) M = some ((), M') ∧ Fr (fun c _ => c = 21) M M' ∧ Sq M' w := by
  obtain ⟨e1, e2⟩ := dec_at hP h2 h
  have hf := fc_le P hP
  obtain ⟨M', a1, a2, a3⟩ := m_sits_33 n hn (by omega) P i (fc P) 0 [] w n M (by show 0 + P = P; omega) (by omega) (by omega) (by omega) (by decide) hM (fun i x h => absurd h (by simp)) e1
  refine ⟨M', ?_, a2, a3⟩
  unfold X_Model_sits
  exact (m_sits_10 n _ (by omega) hM (P - 1) 1 n (by omega) (by omega)).trans a1
end
section
/-! SEARCH: seats -/
def wk (R : Rl) (g : Nat) (W : WW) (w : List Nat) : Nat → WW
  | 0 => W
  | i + 1 => handF R g (prN (w.getD i 0) (w.getD (i + 1) 0)) (wk R g W w i)
theorem getD_app {w : List Nat} {i v : Nat} (h : i < w.length) : (w ++ [v]).getD i 0 = w.getD i 0 := by
  rw [List.getD_eq_getElem?_getD, List.getD_eq_getElem?_getD, List.getElem?_append_left h]
theorem getD_end (w : List Nat) (v : Nat) : (w ++ [v]).getD w.length 0 = v := by
  rw [List.getD_eq_getElem?_getD, List.getElem?_append_right (Nat.le_refl _), Nat.sub_self]; rfl
theorem getD_some {w : List Nat} {i : Nat} (h : i < w.length) : w[i]? = some (w.getD i 0) := by
  rw [List.getD_eq_getElem?_getD, List.getElem?_eq_getElem h]; rfl
theorem wk_app {R : Rl} {g : Nat} {W : WW} {w : List Nat} {v : Nat} : ∀ i, i < w.length → wk R g W (w ++ [v]) i = wk R g W w i
  | 0, _ => rfl
  | i + 1, h => by
    unfold wk
    rw [wk_app i (by omega), getD_app (show i < w.length by omega), getD_app h]
def okw (P : Nat) (w : List Nat) : Bool := decide (w.length = P) && (w.all (fun x => decide (x < P)) && (List.range (P - 1)).all (fun i => decide (w.getD i 0 ≠ w.getD (i + 1) 0)))
theorem pl_okw : ∀ P, P < 7 → 2 ≤ P → (pl P P 0 []).all (okw P) = true := by decide +kernel
theorem okw_p {P : Nat} {w : List Nat} (h : okw P w = true) : w.length = P ∧ (∀ x ∈ w, x < P) ∧ ∀ i, i + 1 < P → w.getD i 0 ≠ w.getD (i + 1) 0 := by
  unfold okw at h
  rw [Bool.and_eq_true, Bool.and_eq_true, List.all_eq_true, List.all_eq_true] at h
  exact ⟨of_decide_eq_true h.1, fun x hx => of_decide_eq_true (h.2.1 x hx), fun i hi => of_decide_eq_true (h.2.2 i (List.mem_range.mpr (by omega)))⟩
theorem getD_mem {w : List Nat} {i : Nat} (h : i < w.length) : w.getD i 0 ∈ w := by
  have := getD_some h
  exact List.mem_of_getElem? this
theorem wk_ok {R : Rl} (hR : OkR R) {g : Nat} {W : WW} (hW : OkW W) (w : List Nat) : ∀ i, OkW (wk R g W w i)
  | 0 => hW
  | i + 1 => (wk_ok hR hW w i).hand hR _ _
theorem m_L107 {S : Ab} (hS : Ok S) {a1 a2 a3 a4 a5 a6 a7 : Int32} (n : Nat) (hn : 20 ≤ n) (kx : Mem → Option (Int32 × Mem)) {W : WW} (hW : OkW W) {w : List Nat} (hw : okw S.R.1 w = true) : ∀ d i f M, i + d + 1 = S.R.1 → d < f → MA M S → Sq M w → LyM M 15 (60 * 0) (wk S.R S.A.gl W w i) → ∃ M', X_Model_seats_L107 n a1 a2 a3 a4 a5 a6 a7 kx f (nI i) M = kx M' ∧ Fr (mh 0) M M' ∧ LyM M' 15 (60 * 0) (wk S.R S.A.gl W w (S.R.1 - 1)) := by
  have h6 := hS.p6
  obtain ⟨w1, w2, w3⟩ := okw_p hw
  intro d
  induction d with
  | zero =>
    intro i f M h1 h2 hM hs hl
    obtain ⟨f, rfl⟩ : ∃ q, f = q + 1 := ⟨f - 1, by omega⟩
    refine ⟨M, ?_, Fr.rf, by rw [show S.R.1 - 1 = i by omega]; exact hl⟩
    show (if M.1 0 2 ≤ nI i + 1 then _ else _) = _
    rw [hM.c.1, nI_1, if_pos (nI_le (by omega) (by omega))]
  | succ d ih =>
    intro i f M h1 h2 hM hs hl
    obtain ⟨f, rfl⟩ : ∃ q, f = q + 1 := ⟨f - 1, by omega⟩
    have ha : w.getD i 0 < 6 := by have := w2 _ (getD_mem (w := w) (i := i) (by omega)); omega
    have hb : w.getD (i + 1) 0 < 6 := by have := w2 _ (getD_mem (w := w) (i := i + 1) (by omega)); omega
    have hab := w3 i (by omega)
    have hpr := (pr_ok _ ha _ hb hab).1
    obtain ⟨M2, b1, b2, b3⟩ := m_shakes n hn hS.hR hM.c (L := 0) (by omega) (wk_ok hS.hR hW w i) hl (g := S.A.gl) (x := prN (w.getD i 0) (w.getD (i + 1) 0)) (by have := hS.gl; omega) hpr
    have hM2 : MA M2 S := hM.fr hS (mh_S b2)
    obtain ⟨M', c1, c2, c3⟩ := ih (i + 1) f M2 (by omega) (by omega) hM2 (fun j x hj => by rw [(b2 21 j (fun q => by unfold mh mk rg at q; omega)).1]; exact hs j x hj) b3
    refine ⟨M', ?_, b2.trans c2, c3⟩
    rw [← c1]
    show (if M.1 0 2 ≤ nI i + 1 then _ else gd (nI i) 6 (gd (nI i + 1) 6 (bd (X_Model_pairOf n (M.1 21 (nI i).toNatClampNeg) (M.1 21 (nI i + 1).toNatClampNeg) M) fun r14 M15 => bd (X_Model_worn n M15) fun r16 M17 => bd (X_Model_shakes n 0 r14 r16 M17) fun _ M19 => X_Model_seats_L107 n a1 a2 a3 a4 a5 a6 a7 kx f (nI i + 1) M19))) = _
    rw [hM.c.1, nI_1, if_neg (nI_ge (by omega) (by omega)), gd_in (vp_in_nI (n := i) (by omega) (by decide)), gd_in (vp_in_nI (n := i + 1) (by omega) (by decide)), nI_clamp (show i < 2 ^ 31 by omega), nI_clamp (show i + 1 < 2 ^ 31 by omega), hs i _ (getD_some (by omega)), hs (i + 1) _ (getD_some (by omega)), m_pairOf n ha hb hab, bd_ret, m_worn n hn hM.c.1 h6 hS.hA.2.2.1 hM.a.2.1, bd_ret, show X_Model_shakes n 0 (nI (prN (w.getD i 0) (w.getD (i + 1) 0))) (nI S.A.gl) M = _ from b1, bd_ret]
def F22 (M : Mem) (A : List (List Nat)) : Prop := ∀ w t, A = w :: t → ∀ i x, w[i]? = some x → M.1 22 i = nI x
theorem m_L172 {a1 a2 a3 a4 a5 a7 : Int32} (n : Nat) (kx : Mem → Option (Int32 × Mem)) {P : Nat} (hP : P ≤ 6) {w : List Nat} (hw : w.length = P) : ∀ d i f M, i + d = P → d < f → M.1 0 2 = nI P → Sq M w → (∀ j x, j < i → w[j]? = some x → M.1 22 j = nI x) → ∃ M', X_Model_seats_L172 n a1 a2 a3 a4 a5 0 a7 kx f (nI i) M = kx M' ∧ Fr (fun c _ => c = 22) M M' ∧ ∀ j x, w[j]? = some x → M'.1 22 j = nI x
  | 0, i, f, M, h1, h2, hM, hs, hq => by
    obtain ⟨f, rfl⟩ : ∃ q, f = q + 1 := ⟨f - 1, by omega⟩
    refine ⟨M, ?_, Fr.rf, fun j x hj => hq j x (by have := (List.getElem?_eq_some_iff.mp hj).1; omega) hj⟩
    show (if M.1 0 2 ≤ nI i then _ else _) = _
    rw [hM, if_pos (nI_le (by omega) (by omega))]
  | d + 1, i, f, M, h1, h2, hM, hs, hq => by
    obtain ⟨f, rfl⟩ : ∃ q, f = q + 1 := ⟨f - 1, by omega⟩
    have f1 : Fr (fun c _ => c = 22) M (si M 22 i (M.1 21 i)) := Fr.si rfl
    obtain ⟨M', q1, q2, q3⟩ := m_L172 n kx hP hw d (i + 1) f (si M 22 i (M.1 21 i)) (by omega) (by omega) hM hs (fun j x hj hx => by
      by_cases e : j = i
      · subst e
        rw [si_at]
        exact hs j x hx
      · rw [si_ne (Or.inr e)]
        exact hq j x (by omega) hx)
    refine ⟨M', ?_, f1.trans q2, q3⟩
    rw [← q1]
    show (if M.1 0 2 ≤ nI i then _ else (if (0 : Int32) = 0 then gd (nI i) 6 (gd (nI i) 6 (X_Model_seats_L172 n a1 a2 a3 a4 a5 0 a7 kx f (nI i + 1) (si M 22 ((nI i).toNatClampNeg) (M.1 21 (nI i).toNatClampNeg)))) else kx M)) = _
    rw [hM, if_neg (nI_ge (by omega) (by omega)), if_pos rfl, gd_in (vp_in_nI (n := i) (by omega) (by decide)), gd_in (vp_in_nI (n := i) (by omega) (by decide)), nI_clamp (by omega), nI_1]
def gdS (S : Ab) (t b0 p : Nat) (w : List Nat) : Bool := decide (whoN (wk S.R S.A.gl S.A.W w (S.R.1 - 1)) t S.R.1 &&& (b0 ^^^ (2 ^ 32 - 1)) = 2 ^ p)
theorem m_L86 {S : Ab} (hS : Ok S) (n : Nat) (hn : 61 ≤ n) {t b0 p : Nat} (ht : t < 16) (hb0 : b0 < 64) (hp : p < 6) {a3 : Int32} (kx : Int32 → Mem → Option (Int32 × Mem)) : ∀ suf pre f M, pl S.R.1 S.R.1 0 [] = pre ++ suf → suf.length < f → MA M S → F22 M (pre.filter (gdS S t b0 p)) → ∃ M', X_Model_seats_L86 n (nI t) (nI p) a3 (nI b0) (nI (fc S.R.1)) kx f (nI (pre.filter (gdS S t b0 p)).length) (nI pre.length) M = kx (nI ((pl S.R.1 S.R.1 0 []).filter (gdS S t b0 p)).length) M' ∧ MA M' S ∧ F22 M' ((pl S.R.1 S.R.1 0 []).filter (gdS S t b0 p))
  | [], pre, f, M, h1, h2, hM, hF => by
    obtain ⟨f, rfl⟩ : ∃ q, f = q + 1 := ⟨f - 1, by omega⟩
    have h6 := hS.p6
    have hP := hS.hR.1
    have hf := fc_le S.R.1 (by omega)
    have hl := pl_len (P := S.R.1) (by omega) hP
    rw [List.append_nil] at h1
    rw [h1] at hl ⊢
    refine ⟨M, ?_, hM, hF⟩
    show (if nI (fc S.R.1) ≤ nI pre.length then _ else _) = _
    rw [hl, if_pos (nI_le (Nat.le_refl _) (by omega))]
  | w :: suf, pre, f, M, h1, h2, hM, hF => by
    rw [List.length_cons] at h2
    obtain ⟨f, rfl⟩ : ∃ q, f = q + 1 := ⟨f - 1, by omega⟩
    have h6 := hS.p6
    have hP := hS.hR.1
    have hf := fc_le S.R.1 (by omega)
    have hl := pl_len (P := S.R.1) (by omega) hP
    have hlen : pre.length < fc S.R.1 := by rw [← hl, h1, List.length_append, List.length_cons]; omega
    have ew : (pl S.R.1 S.R.1 0 [])[pre.length]? = some w := by rw [h1, List.getElem?_append_right (Nat.le_refl _), Nat.sub_self]; rfl
    have hok : okw S.R.1 w = true := List.all_eq_true.mp (pl_okw S.R.1 (by omega) hP) w (List.mem_of_getElem? ew)
    have hfl : (pre.filter (gdS S t b0 p)).length ≤ 720 := Nat.le_trans (List.length_filter_le _ _) (by omega)
    obtain ⟨M1, s1, s2, s3⟩ := m_sits n (by omega) (P := S.R.1) (i := pre.length) (by omega) hP hM.c.1 ew
    have hM1 : MA M1 S := hM.fr hS (s2.mono (fun c k q => by unfold mS; omega))
    have f6 : Fr (mh 0) M1 (m0 M1) := m0_fr M1
    have hM2 : MA (m0 M1) S := hM1.fr hS (mh_S f6)
    have sq2 : Sq (m0 M1) w := fun j x hj => by rw [(f6 21 j (fun q => by unfold mh mk rg at q; omega)).1]; exact s3 j x hj
    generalize hkx2 : (fun M20 : Mem => bd (X_Model_whoIn n 0 (nI t) M20) fun r21 M22 => nm (fun (z23 : Int32) (M24 : Mem) => (X_Model_seats_L86 n (nI t) (nI p) a3 (nI b0) (nI (fc S.R.1)) kx f z23 (nI pre.length + 1) M24 : Option (Int32 × Mem))) fun k209 => (if (r21 &&& (nI b0 ^^^ (-1))) = ((1 : Int32) <<< (nI p &&& 31)) then X_Model_seats_L172 n (nI t) (nI p) a3 (nI b0) (nI (fc S.R.1)) (nI (pre.filter (gdS S t b0 p)).length) (nI pre.length) (fun M25 => k209 (nI (pre.filter (gdS S t b0 p)).length + 1) M25) n 0 M22 else k209 (nI (pre.filter (gdS S t b0 p)).length) M22)) = kx2
    obtain ⟨M3, c1, c2, c3⟩ := m_L107 hS (a1 := nI t) (a2 := nI p) (a3 := a3) (a4 := nI b0) (a5 := nI (fc S.R.1)) (a6 := nI (pre.filter (gdS S t b0 p)).length) (a7 := nI pre.length) n (by omega) kx2 hS.hA.1 hok (S.R.1 - 1) 0 n (m0 M1) (by omega) (by omega) hM2 sq2 (m0_ly hS hM1)
    have hM3 : MA M3 S := hM2.fr hS (mh_S c2)
    have sq3 : Sq M3 w := fun j x hj => by rw [(c2 21 j (fun q => by unfold mh mk rg at q; omega)).1]; exact sq2 j x hj
    have e22 : ∀ k, M3.1 22 k = M.1 22 k := fun k => by
      rw [(c2 22 k (fun q => by unfold mh mk rg at q; omega)).1, (f6 22 k (fun q => by unfold mh mk rg at q; omega)).1, (s2 22 k (fun q : 22 = 21 => absurd q (by decide))).1]
    have hF3 : F22 M3 (pre.filter (gdS S t b0 p)) := fun w' t' e i x hi => by rw [e22]; exact hF w' t' e i x hi
    have hwk := wk_ok hS.hR (g := S.A.gl) hS.hA.1 w (S.R.1 - 1)
    have un : X_Model_seats_L86 n (nI t) (nI p) a3 (nI b0) (nI (fc S.R.1)) kx (f + 1) (nI (pre.filter (gdS S t b0 p)).length) (nI pre.length) M = (if gdS S t b0 p w then X_Model_seats_L172 n (nI t) (nI p) a3 (nI b0) (nI (fc S.R.1)) (nI (pre.filter (gdS S t b0 p)).length) (nI pre.length) (fun M25 => X_Model_seats_L86 n (nI t) (nI p) a3 (nI b0) (nI (fc S.R.1)) kx f (nI ((pre.filter (gdS S t b0 p)).length + 1)) (nI (pre.length + 1)) M25) n 0 M3 else X_Model_seats_L86 n (nI t) (nI p) a3 (nI b0) (nI (fc S.R.1)) kx f (nI (pre.filter (gdS S t b0 p)).length) (nI (pre.length + 1)) M3) := by
      show (if nI (fc S.R.1) ≤ nI pre.length then _ else bd (X_Model_sits n (nI pre.length) M) fun _ M11 => bd (X_Model_begins n 0 M11) fun _ M13 => X_Model_seats_L107 n (nI t) (nI p) a3 (nI b0) (nI (fc S.R.1)) (nI (pre.filter (gdS S t b0 p)).length) (nI pre.length) (fun M20 : Mem => bd (X_Model_whoIn n 0 (nI t) M20) fun r21 M22 => nm (fun (z23 : Int32) (M24 : Mem) => (X_Model_seats_L86 n (nI t) (nI p) a3 (nI b0) (nI (fc S.R.1)) kx f z23 (nI pre.length + 1) M24 : Option (Int32 × Mem))) fun k209 => (if (r21 &&& (nI b0 ^^^ (-1))) = ((1 : Int32) <<< (nI p &&& 31)) then X_Model_seats_L172 n (nI t) (nI p) a3 (nI b0) (nI (fc S.R.1)) (nI (pre.filter (gdS S t b0 p)).length) (nI pre.length) (fun M25 => k209 (nI (pre.filter (gdS S t b0 p)).length + 1) M25) n 0 M22 else k209 (nI (pre.filter (gdS S t b0 p)).length) M22)) n 0 M13) = _
      rw [hkx2, if_neg (nI_ge hlen (by omega)), s1, bd_ret, show X_Model_begins n 0 M1 = some ((), m0 M1) from m_begins n hn (L := 0) (by omega) M1, bd_ret, show X_Model_seats_L107 n (nI t) (nI p) a3 (nI b0) (nI (fc S.R.1)) (nI (pre.filter (gdS S t b0 p)).length) (nI pre.length) kx2 n 0 (m0 M1) = _ from c1, ← hkx2]
      simp only [nm]
      rw [show X_Model_whoIn n 0 (nI t) M3 = _ from m_whoIn n (by omega) hM3.c.1 h6 (L := 0) (by omega) ht hwk c3, bd_ret, i_com _ (by omega), i_shl1 (by omega), nI_1, nI_1]
      have hw6 := wlt h6 (wk S.R S.A.gl S.A.W w (S.R.1 - 1)) t
      have hp2 : 2 ^ p ≤ 2 ^ 6 := Nat.pow_le_pow_right (by decide) (by omega)
      by_cases e : whoN (wk S.R S.A.gl S.A.W w (S.R.1 - 1)) t S.R.1 &&& (b0 ^^^ (2 ^ 32 - 1)) = 2 ^ p
      · rw [if_pos (by rw [e]), if_pos (show gdS S t b0 p w = true from decide_eq_true e)]
      · rw [if_neg (fun q => e ((nI_eq (Nat.lt_of_le_of_lt Nat.and_le_left (by omega)) (by omega)).mp q)), if_neg (show ¬ gdS S t b0 p w = true from fun q => e (of_decide_eq_true q))]
    have e2 : pl S.R.1 S.R.1 0 [] = (pre ++ [w]) ++ suf := by rw [h1, List.append_assoc]; rfl
    have elen : (pre ++ [w]).length = pre.length + 1 := by rw [List.length_append, List.length_singleton]
    rw [un]
    by_cases eg : gdS S t b0 p w = true
    · have ef : (pre ++ [w]).filter (gdS S t b0 p) = pre.filter (gdS S t b0 p) ++ [w] := by
        rw [List.filter_append, List.filter_cons, if_pos eg]; rfl
      have ef2 : ((pre ++ [w]).filter (gdS S t b0 p)).length = (pre.filter (gdS S t b0 p)).length + 1 := by rw [ef, List.length_append, List.length_singleton]
      rw [if_pos eg]
      by_cases e0 : pre.filter (gdS S t b0 p) = []
      · obtain ⟨M4, d1, d2, d3⟩ := m_L172 (a1 := nI t) (a2 := nI p) (a3 := a3) (a4 := nI b0) (a5 := nI (fc S.R.1)) (a7 := nI pre.length) n (fun M25 => X_Model_seats_L86 n (nI t) (nI p) a3 (nI b0) (nI (fc S.R.1)) kx f (nI ((pre.filter (gdS S t b0 p)).length + 1)) (nI (pre.length + 1)) M25) h6 (okw_p hok).1 S.R.1 0 n M3 (by omega) (by omega) hM3.c.1 sq3 (fun j x hj => absurd hj (Nat.not_lt_zero j))
        have hM4 : MA M4 S := hM3.fr hS (d2.mono (fun c k q => by unfold mS; omega))
        obtain ⟨M', g1, g2, g3⟩ := m_L86 hS n hn ht hb0 hp kx suf (pre ++ [w]) f M4 e2 (by omega) hM4 (fun w' t' e i x hi => by
          rw [ef, e0] at e
          have : w = w' := (List.cons.inj e).1
          rw [← this] at hi
          exact d3 i x hi)
        rw [ef2, elen] at g1
        refine ⟨M', ?_, g2, g3⟩
        rw [← g1]
        have e00 : nI (pre.filter (gdS S t b0 p)).length = 0 := by rw [e0]; rfl
        rw [← d1]
        conv => lhs; rw [e00]
        rfl
      · obtain ⟨w0, t0, e0'⟩ := List.exists_cons_of_ne_nil e0
        obtain ⟨M', g1, g2, g3⟩ := m_L86 hS n hn ht hb0 hp kx suf (pre ++ [w]) f M3 e2 (by omega) hM3 (fun w' t' e i x hi => by
          rw [ef, e0', List.cons_append] at e
          have : w0 = w' := (List.cons.inj e).1
          rw [← this] at hi
          exact hF3 w0 t0 e0' i x hi)
        rw [ef2, elen] at g1
        refine ⟨M', ?_, g2, g3⟩
        rw [← g1]
        obtain ⟨q, rfl⟩ : ∃ q, n = q + 1 := ⟨n - 1, by omega⟩
        show (if M3.1 0 2 ≤ 0 then X_Model_seats_L86 (q + 1) (nI t) (nI p) a3 (nI b0) (nI (fc S.R.1)) kx f (nI ((pre.filter (gdS S t b0 p)).length + 1)) (nI (pre.length + 1)) M3 else (if nI (pre.filter (gdS S t b0 p)).length = 0 then _ else X_Model_seats_L86 (q + 1) (nI t) (nI p) a3 (nI b0) (nI (fc S.R.1)) kx f (nI ((pre.filter (gdS S t b0 p)).length + 1)) (nI (pre.length + 1)) M3)) = _
        rw [if_neg (show ¬ nI (pre.filter (gdS S t b0 p)).length = 0 from fun q => e0 (List.length_eq_zero_iff.mp ((i_z (by omega)).mp q)))]
        split <;> rfl
    · have ef : (pre ++ [w]).filter (gdS S t b0 p) = pre.filter (gdS S t b0 p) := by
        rw [List.filter_append, List.filter_cons, if_neg eg, List.filter_nil, List.append_nil]
      rw [if_neg eg]
      obtain ⟨M', g1, g2, g3⟩ := m_L86 hS n hn ht hb0 hp kx suf (pre ++ [w]) f M3 e2 (by omega) hM3 (by rw [ef]; exact hF3)
      rw [ef, elen] at g1
      exact ⟨M', g1, g2, g3⟩
end
section
/-! CALLS: seats -/
def WA (M : Mem) (A : List (List Nat)) : Prop := M.1 26 2 = nI A.length ∧ ∀ w t, A = w :: t → ∀ i x, w[i]? = some x → M.1 28 i = nI x
theorem WA.off {M M' : Mem} {A : List (List Nat)} {L : List Nat} (h : WA M A) (ho : Off L M M') (h1 : 26 ∉ L) (h2 : 28 ∉ L) : WA M' A := ⟨by rw [(ho 26 h1).1]; exact h.1, fun w t e i x hi => by rw [(ho 28 h2).1]; exact h.2 w t e i x hi⟩
theorem x_sit (n : Nat) (hn : 20 ≤ n) {S : Ab} (hS : Ok S) {u : Nat → Int32} {am : WW → Nat} (hA : OkA am) (hm : amH n S u am) : ∀ k f d b pre M A, k < f → d + k = S.R.1 → pre.length = d → b < 64 → (∀ x ∈ pre, x < S.R.1 ∧ b.testBit x = true) → Ks S u M → OkW (wk S.R S.A.gl S.A.W pre (d - 1)) → (∀ q, S.R.1 ≤ q → wk S.R S.A.gl S.A.W pre (d - 1) q = []) → rowsAt M (30 + d) (wk S.R S.A.gl S.A.W pre (d - 1)) → Pt M pre → WA M A → A.length + (pl S.R.1 k b pre).length < 2 ^ 31 → ∃ M', X_Search_sit n f (nI d) (nI b) M = some ((), M') ∧ Xf d M M' ∧ WA M' (A ++ (pl S.R.1 k b pre).filter (fun w => decide (am (wk S.R S.A.gl S.A.W w (S.R.1 - 1)) = 0))) := by
  have h6 := hS.p6
  have hP := hS.hR.1
  intro k
  induction k with
  | zero =>
    intro f d b pre M A hf hd hl hb hpx hK hW he hr hp hA' hcnt
    obtain ⟨f, rfl⟩ : ∃ q, f = q + 1 := ⟨f - 1, by omega⟩
    have hdP : d = S.R.1 := by omega
    have hlt := hA.1 (wk S.R S.A.gl S.A.W pre (d - 1))
    have un : X_Search_sit n (f + 1) (nI d) (nI b) M = (if am (wk S.R S.A.gl S.A.W pre (d - 1)) = 0 then (if M.1 26 2 = 0 then some ((), si (cpI M 27 0 28 0 6) 26 2 ((cpI M 27 0 28 0 6).1 26 2 + 1)) else some ((), si M 26 2 (M.1 26 2 + 1))) else some ((), M)) := by
      show (if nI d < M.1 11 0 then _ else gd (nI d) 7 (bd (X_Search_amiss n (([30, 31, 32, 33, 34, 35, 36] : List Nat).getD (nI d).toNatClampNeg 0) M) fun r12 M13 => (if r12 = 0 then nm (fun (M14 : Mem) => (some ((), si M14 26 2 ((M14.1 26 2) + 1)) : Option (Unit × Mem))) fun k46 => (if (M13.1 26 2) = 0 then gc (0 : Int32) (0 : Int32) (6 : Int32) 6 6 (k46 (cpI M13 27 ((0 : Int32).toNatClampNeg) 28 ((0 : Int32).toNatClampNeg) ((6 : Int32).toNatClampNeg))) else k46 M13) else some ((), M13)))) = _
      simp only [nm]
      rw [hK.1.c.1, hdP, if_neg Int32.lt_irrefl, ← hdP, gd_in (vp_in_nI (n := d) (by omega) (by decide)), nI_clamp (by omega), lv_id (by omega), hm M _ d (by omega) hK hW he hr, bd_ret]
      by_cases ea : am (wk S.R S.A.gl S.A.W pre (d - 1)) = 0
      · rw [if_pos ea, ea, if_pos (show nI 0 = 0 from rfl)]
        unfold gc
        rw [if_neg (show ¬ ((0 : Int32) < 0 ∨ (0 : Int32) < 0 ∨ (6 : Int32) < 0 ∨ 6 < (0 : Int32).toNatClampNeg + (6 : Int32).toNatClampNeg ∨ 6 < (0 : Int32).toNatClampNeg + (6 : Int32).toNatClampNeg) by decide)]
        rfl
      · rw [if_neg ea, if_neg (fun q => ea ((i_z (show am (wk S.R S.A.gl S.A.W pre (d - 1)) < 2 ^ 31 by omega)).mp q))]
    rw [un]
    have ef : (pl S.R.1 0 b pre).filter (fun w => decide (am (wk S.R S.A.gl S.A.W w (S.R.1 - 1)) = 0)) = if am (wk S.R S.A.gl S.A.W pre (d - 1)) = 0 then [pre] else [] := by
      show [pre].filter _ = _
      rw [List.filter_cons, hdP]
      by_cases ea : am (wk S.R S.A.gl S.A.W pre (S.R.1 - 1)) = 0
      · rw [if_pos ea, if_pos (decide_eq_true ea)]; rfl
      · rw [if_neg ea, if_neg (fun q => ea (of_decide_eq_true q))]; rfl
    rw [ef]
    by_cases ea : am (wk S.R S.A.gl S.A.W pre (d - 1)) = 0
    · rw [if_pos ea, if_pos ea]
      by_cases e0 : A = []
      · rw [if_pos (by rw [hA'.1, e0]; rfl)]
        refine ⟨_, rfl, Xf.trans (M' := cpI M 27 0 28 0 6) ⟨Off.cpI (by simp [xQ]), fun _ _ => rfl, fun _ _ => rfl, fun _ _ => rfl⟩ (Xf.acc (by decide)), ?_, fun w t e i x hi => ?_⟩
        · rw [si_at, show (cpI M 27 0 28 0 6).1 26 2 = M.1 26 2 from rfl, hA'.1, nI_1, List.length_append]; rfl
        · rw [e0, List.nil_append] at e
          rw [← (List.cons.inj e).1] at hi
          have hi6 : i < 6 := by have := (List.getElem?_eq_some_iff.mp hi).1; omega
          rw [si_ne (Or.inl (by decide))]
          have := cpI_at (M := M) (a := 27) (sp := 0) (b := 28) (dp := 0) hi6
          rw [Nat.zero_add] at this
          rw [this]
          exact hp i x hi
      · rw [if_neg (fun q => e0 (List.length_eq_zero_iff.mp ((i_z (by omega)).mp (hA'.1 ▸ q))))]
        refine ⟨_, rfl, Xf.acc (by decide), ?_, fun w t e i x hi => ?_⟩
        · rw [si_at, hA'.1, nI_1, List.length_append]; rfl
        · obtain ⟨w0, t0, e0'⟩ := List.exists_cons_of_ne_nil e0
          rw [e0', List.cons_append] at e
          rw [← (List.cons.inj e).1] at hi
          rw [si_ne (Or.inl (by decide))]
          exact hA'.2 w0 t0 e0' i x hi
    · rw [if_neg ea, if_neg ea, List.append_nil]
      exact ⟨M, rfl, Xf.rf, hA'⟩
  | succ k ih =>
    intro f d b pre M A hf hd hl hb hpx hK hW he hr hp hA' hcnt
    obtain ⟨f, rfl⟩ : ∃ q, f = q + 1 := ⟨f - 1, by omega⟩
    have hd6 : d < 6 := by omega
    generalize hh : (fun v => if b.testBit v then [] else pl S.R.1 k (b ||| 2 ^ v) (pre ++ [v])) = h
    have key : ∀ j v m M A, v + j = S.R.1 → j < m → Ks S u M → rowsAt M (30 + d) (wk S.R S.A.gl S.A.W pre (d - 1)) → Pt M pre → WA M A → A.length + (flP S.R.1 h j).length < 2 ^ 31 → ∃ M', X_Search_sit_L59 n (X_Search_sit n f) (nI d) (nI b) m (nI v) M = some ((), M') ∧ Xf d M M' ∧ WA M' (A ++ (flP S.R.1 h j).filter (fun w => decide (am (wk S.R S.A.gl S.A.W w (S.R.1 - 1)) = 0))) := by
      intro j
      induction j with
      | zero =>
        intro v m M A h1 h2 hK hr hp hA' hcnt
        obtain ⟨m, rfl⟩ : ∃ q, m = q + 1 := ⟨m - 1, by omega⟩
        refine ⟨M, ?_, Xf.rf, by show WA M (A ++ []); rw [List.append_nil]; exact hA'⟩
        show (if M.1 11 0 ≤ nI v then _ else _) = _
        rw [hK.1.c.1, if_pos (nI_le (by omega) (by omega))]
      | succ j ihj =>
        intro v m M A h1 h2 hK hr hp hA' hcnt
        obtain ⟨m, rfl⟩ : ∃ q, m = q + 1 := ⟨m - 1, by omega⟩
        have hv : v < S.R.1 := by omega
        have e1 : flP S.R.1 h (j + 1) = h v ++ flP S.R.1 h j := by
          show h (S.R.1 - (j + 1)) ++ _ = _
          rw [show S.R.1 - (j + 1) = v by omega]
        rw [e1, List.length_append] at hcnt
        generalize hself : X_Search_sit n f = self at ihj
        have un0 : X_Search_sit_L59 n self (nI d) (nI b) (m + 1) (nI v) M = (if b.testBit v then X_Search_sit_L59 n self (nI d) (nI b) m (nI (v + 1)) M else (if nI d = 0 then (bd (X_Search_step n (nI d) (-1) (si M 27 d (nI v))) fun r4 M5 => bd (self (nI (d + 1)) (nI (b ||| 2 ^ v)) M5) fun _ M7 => X_Search_sit_L59 n self (nI d) (nI b) m (nI (v + 1)) M7) else gd (nI d - 1) 6 (bd (X_ShakeHands_pairOf n ((si M 27 d (nI v)).1 27 (nI d - 1).toNatClampNeg) (nI v) (si M 27 d (nI v))) fun r9 M10 => (bd (X_Search_step n (nI d) r9 M10) fun r4 M5 => bd (self (nI (d + 1)) (nI (b ||| 2 ^ v)) M5) fun _ M7 => X_Search_sit_L59 n self (nI d) (nI b) m (nI (v + 1)) M7)))) := by
          show (if M.1 11 0 ≤ nI v then _ else nm (fun (M1 : Mem) => (X_Search_sit_L59 n self (nI d) (nI b) m (nI v + 1) M1 : Option (Unit × Mem))) fun k123 => (if ((((nI b).toUInt32 >>> ((nI v).toUInt32 &&& Int32.toUInt32 31)).toInt32) &&& 1) = 0 then gd (nI d) 6 (nm (fun (u2 : Int32) (M3 : Mem) => (bd (X_Search_step n (nI d) u2 M3) fun r4 M5 => bd (self (nI d + 1) (nI b ||| ((1 : Int32) <<< (nI v &&& 31))) M5) fun _ M7 => k123 M7 : Option (Unit × Mem))) fun k107 => (if nI d = 0 then k107 (-1) (si M 27 ((nI d).toNatClampNeg) (nI v)) else nm (si M 27 ((nI d).toNatClampNeg) (nI v)) fun N8 => gd (nI d - 1) 6 (bd (X_ShakeHands_pairOf n (N8.1 27 (nI d - 1).toNatClampNeg) (nI v) N8) fun r9 M10 => k107 r9 M10))) else k123 M)) = _
          simp only [nm]
          rw [hK.1.c.1, if_neg (nI_ge hv (by omega)), b_iu (by omega) (by omega), gd_in (vp_in_nI (n := d) (by omega) (by decide)), nI_clamp (show d < 2 ^ 31 by omega), nI_1, nI_1, i_shl1 (by omega), i_or]
          cases b.testBit v <;> rfl
        rw [un0, e1, List.filter_append, ← List.append_assoc]
        cases eb : b.testBit v with
        | true =>
          rw [if_pos rfl]
          have eh : h v = [] := by rw [← hh]; exact if_pos eb
          rw [eh, List.filter_nil, List.append_nil]
          rw [eh] at hcnt
          exact ihj (v + 1) m M A (by omega) (by omega) hK hr hp hA' (by rw [List.length_nil] at hcnt; omega)
        | false =>
          rw [if_neg Bool.false_ne_true]
          have eh : h v = pl S.R.1 k (b ||| 2 ^ v) (pre ++ [v]) := by rw [← hh]; exact if_neg (by rw [eb]; exact Bool.false_ne_true)
          have fN : Xf d M (si M 27 d (nI v)) := Xf.path
          have pN' : Pt (si M 27 d (nI v)) (pre ++ [v]) := (hp.fr (by omega) fN).snoc (by rw [hl]; exact si_at _ _ _ _)
          have hKN := hK.fr fN
          have hrN := rows_fr hr fN
          have hAN : WA (si M 27 d (nI v)) A := hA'.off (L := [27]) (Off.si (by simp)) (by simp) (by simp)
          obtain ⟨M2, s1, s2, s3, s4, s5, s6⟩ : ∃ M2, (if nI d = 0 then (bd (X_Search_step n (nI d) (-1) (si M 27 d (nI v))) fun r4 M5 => bd (self (nI (d + 1)) (nI (b ||| 2 ^ v)) M5) fun _ M7 => X_Search_sit_L59 n self (nI d) (nI b) m (nI (v + 1)) M7) else gd (nI d - 1) 6 (bd (X_ShakeHands_pairOf n ((si M 27 d (nI v)).1 27 (nI d - 1).toNatClampNeg) (nI v) (si M 27 d (nI v))) fun r9 M10 => (bd (X_Search_step n (nI d) r9 M10) fun r4 M5 => bd (self (nI (d + 1)) (nI (b ||| 2 ^ v)) M5) fun _ M7 => X_Search_sit_L59 n self (nI d) (nI b) m (nI (v + 1)) M7))) = (bd (self (nI (d + 1)) (nI (b ||| 2 ^ v)) M2) fun _ M7 => X_Search_sit_L59 n self (nI d) (nI b) m (nI (v + 1)) M7) ∧ Xf d (si M 27 d (nI v)) M2 ∧ rowsAt M2 (30 + (d + 1)) (wk S.R S.A.gl S.A.W (pre ++ [v]) d) ∧ OkW (wk S.R S.A.gl S.A.W (pre ++ [v]) d) ∧ (∀ q, S.R.1 ≤ q → wk S.R S.A.gl S.A.W (pre ++ [v]) d q = []) ∧ Pt M2 (pre ++ [v]) ∧ WA M2 A := by
            rcases Nat.eq_zero_or_pos d with e | e
            · subst e
              obtain ⟨M2, t1, t2, t3⟩ := x_step0 (S := S) n (M := si M 27 0 (nI v)) hrN
              refine ⟨M2, ?_, ⟨t2.mono (fun a ha => xQ_of (by simp at ha; omega)), fun k _ => by rw [(t2 26 (by simp)).1], fun e q => (t2 (30 + e) (by simp; omega)).2, fun i q => absurd q (Nat.not_lt_zero i)⟩, t3, hW, he, fun i x hi => by rw [(t2 27 (by simp)).1]; exact pN' i x hi, hAN.off t2 (by simp) (by simp)⟩
              rw [if_pos (show nI 0 = 0 from rfl), show X_Search_step n (nI 0) (-1) (si M 27 0 (nI v)) = _ from t1, bd_ret]
            · have hd0 : d - 1 < pre.length := by omega
              have hlast := getD_mem (w := pre) (i := d - 1) hd0
              obtain ⟨l1, l2⟩ := hpx _ hlast
              have hne : pre.getD (d - 1) 0 ≠ v := fun q => by rw [q, eb] at l2; exact absurd l2 Bool.false_ne_true
              have hpr := pr_ok _ (show pre.getD (d - 1) 0 < 6 by omega) v (by omega) hne
              obtain ⟨r, M2, t1, t2, t3, -⟩ := x_step n hn hS hKN.1 (d := d) hd6 hpr.1 hW hrN
              have ewk : wk S.R S.A.gl S.A.W (pre ++ [v]) d = handF S.R S.A.gl (prN (pre.getD (d - 1) 0) v) (wk S.R S.A.gl S.A.W pre (d - 1)) := by
                obtain ⟨c, rfl⟩ : ∃ c, d = c + 1 := ⟨d - 1, by omega⟩
                rw [Nat.add_sub_cancel]
                conv => lhs; unfold wk
                rw [wk_app c (by omega), getD_app (show c < pre.length by omega), show (pre ++ [v]).getD (c + 1) 0 = v by rw [← hl]; exact getD_end pre v]
              rw [ewk]
              refine ⟨M2, ?_, Xf.step hd6 t2, by rw [show 30 + (d + 1) = 31 + d by omega]; exact t3, hW.hand hS.hR _ _, handF_end hpr.1 (by rw [hpr.2.2]; omega) he, fun i x hi => by rw [(t2 27 (by simp; omega)).1]; exact pN' i x hi, hAN.off t2 (by simp; omega) (by simp; omega)⟩
              have e27 : (si M 27 d (nI v)).1 27 (d - 1) = nI (pre.getD (d - 1) 0) := by
                rw [si_ne (Or.inr (by omega))]
                exact hp _ _ (getD_some hd0)
              rw [if_neg (fun q => by have := (i_z (k := d) (by omega)).mp q; omega), show nI d - 1 = nI (d - 1) by rw [show (1 : Int32) = nI 1 from rfl, pk_sub (by omega)], gd_in (vp_in_nI (n := d - 1) (by omega) (by decide)), nI_clamp (show d - 1 < 2 ^ 31 by omega), e27, x_pairOf n (by omega) (by omega) hne, bd_ret, t1, bd_ret]
          rw [s1]
          obtain ⟨M3, t1, t2, t3⟩ := ih f (d + 1) (b ||| 2 ^ v) (pre ++ [v]) M2 A (by omega) (by omega) (by rw [List.length_append, hl]; rfl) (Nat.or_lt_two_pow (n := 6) hb (Nat.pow_lt_pow_right (by decide) (by omega))) (fun x hx => by
            rw [or_bit]
            rcases List.mem_append.mp hx with q | q
            · exact ⟨(hpx x q).1, by rw [(hpx x q).2]; rfl⟩
            · rw [List.mem_singleton.mp q, decide_eq_true rfl, Bool.or_true]
              exact ⟨hv, rfl⟩) (hKN.fr s2) s4 s5 s3 s6.1 s6.2 (by rw [← eh]; omega)
          rw [hself] at t1
          have f3 := (fN.trans s2).trans t2.mono
          rw [← eh] at t3
          have hfl : ((h v).filter (fun w => decide (am (wk S.R S.A.gl S.A.W w (S.R.1 - 1)) = 0))).length ≤ (h v).length := List.length_filter_le _ _
          obtain ⟨M4, w1, w2, w3⟩ := ihj (v + 1) m M3 _ (by omega) (by omega) (hK.fr f3) (rows_fr hr f3) (hp.fr (by omega) f3) t3 (by rw [List.length_append]; omega)
          refine ⟨M4, ?_, f3.trans w2, w3⟩
          rw [t1, bd_ret]
          exact w1
    obtain ⟨M', a1, a2, a3⟩ := key S.R.1 0 n M A (by omega) (by omega) hK hr hp hA' (by unfold pl at hcnt; rw [hh] at hcnt; exact hcnt)
    refine ⟨M', ?_, a2, by unfold pl; rw [hh]; exact a3⟩
    show (if nI d < M.1 11 0 then X_Search_sit_L59 n (X_Search_sit n f) (nI d) (nI b) n 0 M else _) = _
    rw [hK.1.c.1, if_pos (nI_lt (by omega) (by omega))]
    exact a1
theorem seat_bits {P a b p : Nat} (hP : P ≤ 6) (ha : a < 2 ^ P) (hp : p < P) (hb : b.testBit p = false) : (a &&& (b ^^^ (2 ^ 32 - 1)) = 2 ^ p) ↔ (a ^^^ 2 ^ p) &&& (2 ^ p ||| clN ((2 ^ P - 1) &&& (b ^^^ (2 ^ 32 - 1))) p) = 0 := by
  have ha32 : ∀ i, P ≤ i → a.testBit i = false := fun i hi => Nat.testBit_lt_two_pow (Nat.lt_of_lt_of_le ha (Nat.pow_le_pow_right (by decide) hi))
  constructor
  · intro h
    apply Nat.eq_of_testBit_eq
    intro i
    have hi := congrArg (fun q => q.testBit i) h
    simp only [Nat.testBit_and, Nat.testBit_two_pow] at hi
    rw [Nat.zero_testBit, Nat.testBit_and, Nat.testBit_xor, Nat.testBit_or, Nat.testBit_two_pow, clN_bit, Nat.testBit_and, Nat.testBit_two_pow_sub_one]
    by_cases e : i < P
    · rw [com_bit (by omega)] at hi ⊢
      by_cases e2 : p = i
      · subst e2
        rw [hb] at hi
        simp at hi ⊢
        exact hi
      · rw [decide_eq_false e2] at hi ⊢
        cases e3 : b.testBit i <;> rw [e3] at hi <;> simp at hi ⊢
        · rw [hi]; simp
    · rw [ha32 i (by omega), decide_eq_false (show ¬ p = i by omega), decide_eq_false e]
      rfl
  · intro h
    apply Nat.eq_of_testBit_eq
    intro i
    have hi := congrArg (fun q => q.testBit i) h
    simp only [Nat.zero_testBit, Nat.testBit_and, Nat.testBit_xor, Nat.testBit_or, Nat.testBit_two_pow, clN_bit, Nat.testBit_two_pow_sub_one] at hi
    rw [Nat.testBit_and, Nat.testBit_two_pow]
    by_cases e : i < P
    · have e32 : decide (i < 32) = true := decide_eq_true (by omega)
      rw [e32, Bool.xor_true] at hi
      rw [com_bit (by omega)]
      by_cases e2 : p = i
      · subst e2
        rw [hb] at hi ⊢
        rw [decide_eq_true rfl] at hi ⊢
        cases e4 : a.testBit p
        · rw [e4] at hi; simp at hi
        · rfl
      · rw [decide_eq_false e2] at hi ⊢
        cases e3 : b.testBit i
        · rw [e3] at hi
          cases e4 : a.testBit i
          · rfl
          · rw [e4] at hi
            have e5 : i ≠ p := fun q => e2 q.symm
            simp [e, e5] at hi
        · rw [Bool.not_true, Bool.and_false]
    · rw [ha32 i (by omega), decide_eq_false (show ¬ p = i by omega), Bool.false_and]
theorem s_cases {P : Nat} (hP : P ≤ 6) (a : Int32) : ((a < 10 ∨ (¬ a < 10 ∧ nI (10 + P) ≤ a ∧ a ≠ 0)) ∧ vN (a - 10) P = false) ∨ ∃ k, k < P ∧ a = nI (10 + k) ∧ vN (a - 10) P = true := by
  cases ev : vN (a - 10) P with
  | true =>
    obtain ⟨k, h1, h2⟩ : ∃ k, k < P ∧ a - 10 = nI k := ⟨_, vN_y (by omega) ev⟩
    refine Or.inr ⟨k, h1, ?_, rfl⟩
    rw [← Int32.sub_add_cancel a 10, h2, show (10 : Int32) = nI 10 from rfl, nI_add, Nat.add_comm]
  | false =>
    refine Or.inl ⟨?_, rfl⟩
    rcases i_cases a with q | ⟨k, hk, rfl⟩
    · exact Or.inl (Int32.lt_trans q (by decide))
    · by_cases e : k < 10
      · exact Or.inl (nI_lt (b := 10) e (by decide))
      · refine Or.inr ⟨Int32.not_lt.mpr (nI_le (a := 10) (by omega) hk), ?_, fun q => by have := (i_z hk).mp q; omega⟩
        apply nI_le _ hk
        have es : nI k - 10 = nI (k - 10) := by rw [show (10 : Int32) = nI 10 from rfl, pk_sub (by omega)]
        rw [es, vN_k (by omega) (by omega)] at ev
        have := of_decide_eq_false ev
        omega
end
section
/-! CALLS: seats, the whole -/
theorem nm_eq {α β : Sort _} (a : α) (f : α → β) : nm a f = f a := rfl
theorem x_seatlook {S : Ab} (hS : Ok S) {M : Mem} (hx : XA M S) {t p : Nat} (b1 : t < 16) (c1 : p < S.R.1) : ∃ M', (∀ F : Mem → Option (Int32 × Mem), (bd (X_ShakeHands_everybody fuel M) fun r8 M9 => bd (X_Minds_knowers fuel 17 (nI t) M9) fun r10 M11 => nm (r8 &&& (r10 ^^^ (-1))) fun x12 => bd (X_Search_begin fuel M11) fun _ M14 => bd (X_Search_aim fuel (nI t) ((1 : Int32) <<< (nI p &&& 31)) (x12 &&& (((1 : Int32) <<< (nI p &&& 31)) ^^^ (-1))) 0 M14) fun _ M16 => bd (X_Search_countSeats fuel M16) fun _ M18 => F M18) = F M') ∧ XA M' S ∧ WA M' ([] ++ (pl S.R.1 S.R.1 0 []).filter (fun w => decide (amF S.R.1 t (2 ^ p) (clN ((2 ^ S.R.1 - 1) &&& (whoN S.A.W t S.R.1 ^^^ (2 ^ 32 - 1))) p) (wk S.R S.A.gl S.A.W w (S.R.1 - 1)) = 0))) := by
  have h6 := hS.p6
  have hP2 := hS.hR.1
  have hpw := pw6 h6
  have hw64 := wlt h6 S.A.W t
  have h2p : 2 ^ p < 2 ^ 6 := Nat.pow_lt_pow_right (by decide) (by omega)
  have hxx : (2 ^ S.R.1 - 1) &&& (whoN S.A.W t S.R.1 ^^^ (2 ^ 32 - 1)) < 2 ^ S.R.1 := Nat.lt_of_le_of_lt Nat.and_le_left (by omega)
  have hsh : clN ((2 ^ S.R.1 - 1) &&& (whoN S.A.W t S.R.1 ^^^ (2 ^ 32 - 1))) p < 64 := Nat.lt_of_lt_of_le (clN_lt hxx) hpw.2
  obtain ⟨M9, f1, f2, f3, f4⟩ := x_begin hS hx
  have hM9 : XA M9 S := hx.off (f2.mono (fun a ha => xQ_S (xQ_of (by simp at ha; omega))))
  obtain ⟨M11, k1, k2, hK⟩ := x_aim fuel (nI t) (nI (2 ^ p)) (nI (clN ((2 ^ S.R.1 - 1) &&& (whoN S.A.W t S.R.1 ^^^ (2 ^ 32 - 1))) p)) (nI 0) hM9 f3
  have hr : rowsAt M11 (30 + 0) S.A.W := f4.off k2 (by simp)
  have hA : OkA (amF S.R.1 t (2 ^ p) (clN ((2 ^ S.R.1 - 1) &&& (whoN S.A.W t S.R.1 ^^^ (2 ^ 32 - 1))) p)) := amF_ok h2p hsh
  have hK2 : Ks S _ (si M11 26 2 0) := hK.fr (d := 0) (Xf.acc (by decide))
  have hplen := pl_len (P := S.R.1) (by omega) hP2
  have hfc := fc_le S.R.1 (by omega)
  obtain ⟨M12, s1, s2, s3⟩ := x_sit fuel (by decide) hS hA (am_k fuel (by decide) hS b1) S.R.1 12 0 0 [] (si M11 26 2 0) [] (by omega) (by omega) rfl (by decide) (fun x hx => absurd hx List.not_mem_nil) hK2 hS.hA.1 hS.hA.2.1 hr (fun i x h => absurd h (by simp)) ⟨si_at _ _ _ _, fun w t e => absurd e (by simp)⟩ (by rw [hplen, List.length_nil]; omega)
  have hX12 : XA M12 S := (hK2.fr s2).1
  have un1 : X_Search_countSeats fuel M11 = some ((), M12) := by
    unfold X_Search_countSeats
    simp only [nm]
    rw [show X_Search_sit fuel 12 0 0 (si M11 26 2 0) = _ from s1, bd_ret]
  have un2 : ∀ F : Mem → Option (Int32 × Mem), (bd (X_Search_countSeats fuel M11) fun _ M18 => F M18) = F M12 := fun F => by rw [un1, bd_ret]
  have un3 : ∀ F : Mem → Option (Int32 × Mem), (bd (X_Search_aim fuel (nI t) (nI (2 ^ p)) (nI (clN ((2 ^ S.R.1 - 1) &&& (whoN S.A.W t S.R.1 ^^^ (2 ^ 32 - 1))) p)) 0 M9) fun _ M16 => F M16) = F M11 := fun F => by
    rw [show (0 : Int32) = nI 0 from rfl, k1, bd_ret]
  refine ⟨M12, fun F => ?_, hX12, s3⟩
  rw [x_everybody h6 hx.c.1, bd_ret, x_whoNow hS hx b1, bd_ret, i_com _ (by omega), nm_eq]
  rw [f1, bd_ret, i_clr (by omega) (by omega), i_shl1 (by omega), un3, un2]
theorem sim_seats (a0' a1' a2' : Int32) : Sm (fun M => X_ShakeHands_seats fuel a0' a1' a2' M) (fun M => X_Model_seats fuel a0' a1' a2' M) := by
  intro Mx Mm hR
  have hR0 := hR
  obtain ⟨S, hS, hx, hm⟩ := hR
  have h6 := hS.p6
  have hP2 := hS.hR.1
  have hpw := pw6 h6
  show ∃ r Mx2 Mm2, X_ShakeHands_seats fuel a0' a1' a2' Mx = some (r, Mx2) ∧ X_Model_seats fuel a0' a1' a2' Mm = some (r, Mm2) ∧ Rel Mx2 Mm2
  generalize hu : (if vN (a2' - 10) S.R.1 then (1 : Int32) else 0) = u1
  generalize hX : (fun (u1 : Int32) (M5 : Mem) => (bd (X_ShakeHands_knowsNow fuel a1' a0' M5) fun r6 M7 => (if r6 = 0 then bd (X_ShakeHands_everybody fuel M7) fun r8 M9 => bd (X_Minds_knowers fuel 17 a0' M9) fun r10 M11 => nm (r8 &&& (r10 ^^^ (-1))) fun x12 => bd (X_Search_begin fuel M11) fun _ M14 => bd (X_Search_aim fuel a0' ((1 : Int32) <<< (a1' &&& 31)) (x12 &&& (((1 : Int32) <<< (a1' &&& 31)) ^^^ (-1))) 0 M14) fun _ M16 => bd (X_Search_countSeats fuel M16) fun _ M18 => (if u1 = 0 then some ((M18.1 26 2), M18) else (if (M18.1 26 2) = 0 then some ((-4), M18) else gd (a2' - 10) 6 (some ((M18.1 28 (a2' - 10).toNatClampNeg), M18)))) else some ((-2), M7)) : Option (Int32 × Mem))) = bX
  have ux : X_ShakeHands_seats fuel a0' a1' a2' Mx = (if vN a0' 16 then (if vN a1' S.R.1 then (if a2' = 0 ∨ ¬ u1 = 0 then bX u1 Mx else some (-1, Mx)) else some (-1, Mx)) else some (-1, Mx)) := by
    have body : ∀ u1 : Int32, (bd (X_ShakeHands_isThing fuel a0' Mx) fun r2 M3 => (if r2 = 0 then some ((-1), M3) else bd (X_ShakeHands_isOne fuel a1' M3) fun r4 M5 => (if r4 = 0 then some ((-1), M5) else (if a2' = 0 then bX u1 M5 else (if u1 = 0 then some ((-1), M5) else bX u1 M5)))) : Option (Int32 × Mem)) = (if vN a0' 16 then (if vN a1' S.R.1 then (if a2' = 0 ∨ ¬ u1 = 0 then bX u1 Mx else some (-1, Mx)) else some (-1, Mx)) else some (-1, Mx)) := fun u1 => by
      rw [x_isThing, bd_ret, x_isOne fuel hx.c.1, bd_ret]
      cases vN a0' 16 with
      | false => rfl
      | true =>
        cases vN a1' S.R.1 with
        | false => rfl
        | true =>
          simp only [if_true, if_neg i10]
          by_cases e1 : a2' = 0
          · rw [if_pos e1, if_pos (Or.inl e1)]
          · rw [if_neg e1]
            by_cases e2 : u1 = 0
            · rw [if_pos e2, if_neg (fun q => q.elim e1 (fun r => r e2))]
            · rw [if_neg e2, if_pos (Or.inr e2)]
    rw [← body u1, ← hX]
    show (if a2' < 10 then _ else (if ((10 : Int32) + (Mx.1 11 0)) ≤ a2' then _ else _)) = _
    rw [hx.c.1, show (10 : Int32) + nI S.R.1 = nI (10 + S.R.1) from nI_add 10 _]
    rcases s_cases h6 a2' with ⟨q1 | ⟨q1, q2, -⟩, q4⟩ | ⟨k, q1, q2, q3⟩
    · rw [if_pos q1, ← hu, q4]
      rfl
    · rw [if_neg q1, if_pos q2, ← hu, q4]
      rfl
    · rw [if_neg (by rw [q2]; exact Int32.not_lt.mpr (nI_le (a := 10) (by omega) (by omega))), if_neg (by rw [q2]; exact nI_ge (by omega) (by omega)), ← hu, q3]
      rfl
  generalize hY : (fun (M5 : Mem) => (bd (X_Model_whoNow fuel a0' M5) fun r6 M7 => (if ((r6 >>> (a1' &&& 31)) &&& 1) = 1 then some ((-2), M7) else X_Model_seats_L58 fuel a0' a1' a2' r6 (fun y9 => X_Model_seats_L86 fuel a0' a1' a2' r6 y9 (fun y26 M27 => (if a2' = 0 then some (y26, M27) else (if y26 = 0 then some ((-4), M27) else gd (a2' - 10) 6 (some ((M27.1 22 (a2' - 10).toNatClampNeg), M27))))) fuel 0 0 M7) M7 fuel 1 2) : Option (Int32 × Mem))) = bY
  have um : X_Model_seats fuel a0' a1' a2' Mm = (if vN a0' 16 then (if vN a1' S.R.1 then (if a2' = 0 ∨ ¬ u1 = 0 then bY Mm else some (-1, Mm)) else some (-1, Mm)) else some (-1, Mm)) := by
    have e0 : X_Model_seats fuel a0' a1' a2' Mm = (bd (X_Model_isThing fuel a0' Mm) fun r1 M2 => (if r1 = 0 then some ((-1), M2) else bd (X_Model_isOne fuel a1' M2) fun r3 M4 => (if r3 = 0 then some ((-1), M4) else (if a2' = 0 then bY M4 else bd (X_Model_isOne fuel (a2' - 10) M4) fun r28 M29 => (if r28 = 0 then some ((-1), M29) else bY M29))))) := by rw [← hY]; rfl
    rw [e0, m_isThing, bd_ret, m_isOne fuel hS.p31 hm.c.1, bd_ret, m_isOne fuel hS.p31 hm.c.1, bd_ret, hu]
    cases vN a0' 16 with
    | false => rfl
    | true =>
      cases vN a1' S.R.1 with
      | false => rfl
      | true =>
        simp only [if_true, if_neg i10]
        by_cases e1 : a2' = 0
        · rw [if_pos e1, if_pos (Or.inl e1)]
        · rw [if_neg e1]
          by_cases e2 : u1 = 0
          · rw [if_pos e2, if_neg (fun q => q.elim e1 (fun r => r e2))]
          · rw [if_neg e2, if_pos (Or.inr e2)]
  rw [ux, um]
  cases ev0 : vN a0' 16 with
  | false => exact ⟨_, _, _, rfl, rfl, hR0⟩
  | true =>
    cases ev1 : vN a1' S.R.1 with
    | false => exact ⟨_, _, _, rfl, rfl, hR0⟩
    | true =>
      rw [if_pos rfl, if_pos rfl, if_pos rfl, if_pos rfl]
      by_cases eok : a2' = 0 ∨ ¬ u1 = 0
      · rw [if_pos eok, if_pos eok, ← hX, ← hY]
        dsimp only
        obtain ⟨b1, b2⟩ := vN_y (by decide) ev0
        obtain ⟨c1, c2⟩ := vN_y hS.p31 ev1
        generalize pN a0' = t at b1 b2
        generalize pN a1' = p at c1 c2
        subst b2 c2
        have hm0 : MA (m0 Mm) S := hm.fr hS (mh_S (m0_fr Mm))
        have hw64 := wlt h6 S.A.W t
        rw [x_knowsNow hS hx c1 b1, bd_ret, m_whoNow hS hm b1, bd_ret, b_is (by omega) (by omega), whoN_bit]
        by_cases ek : t ∈ S.A.W p
        · rw [if_pos ek, if_neg i10, decide_eq_true ⟨c1, ek⟩, if_pos (show nI (if true = true then 1 else 0) = 1 from rfl)]
          exact ⟨_, _, _, rfl, rfl, ⟨S, hS, hx, hm0⟩⟩
        · rw [if_neg ek, if_pos rfl, decide_eq_false (fun q => ek q.2), if_neg (show ¬ nI (if false = true then 1 else 0) = 1 by decide)]
          have hbit : (whoN S.A.W t S.R.1).testBit p = false := by rw [whoN_bit]; exact decide_eq_false (fun q => ek q.2)
          obtain ⟨M12, u1', hX12, s3⟩ := x_seatlook hS hx b1 c1
          have hplen := pl_len (P := S.R.1) (by omega) hP2
          have hfc := fc_le S.R.1 (by omega)
          rw [u1' (fun M18 => (if u1 = 0 then some ((M18.1 26 2), M18) else (if (M18.1 26 2) = 0 then some ((-4), M18) else gd (a2' - 10) 6 (some ((M18.1 28 (a2' - 10).toNatClampNeg), M18)))))]
          -- the reference
          obtain ⟨M13, g1, g2, g3⟩ := m_L86 hS fuel (by decide) b1 hw64 (show p < 6 by omega) (a3 := a2') (fun y26 M27 => (if a2' = 0 then some (y26, M27) else (if y26 = 0 then some ((-4), M27) else gd (a2' - 10) 6 (some ((M27.1 22 (a2' - 10).toNatClampNeg), M27))))) (pl S.R.1 S.R.1 0 []) [] fuel (m0 Mm) rfl (by rw [hplen]; exact Nat.lt_of_le_of_lt hfc (by decide)) hm0 (fun w t e => absurd e (by simp))
          have h58 := m_seats_58 fuel (a1 := nI t) (a2 := nI p) (a3 := a2') (a4 := nI (whoN S.A.W t S.R.1)) (fun y9 => X_Model_seats_L86 fuel (nI t) (nI p) a2' (nI (whoN S.A.W t S.R.1)) y9 (fun y26 M27 => (if a2' = 0 then some (y26, M27) else (if y26 = 0 then some ((-4), M27) else gd (a2' - 10) 6 (some ((M27.1 22 (a2' - 10).toNatClampNeg), M27))))) fuel 0 0 (m0 Mm)) (M := m0 Mm) h6 hm0.c.1 (S.R.1 - 1) 1 fuel (by omega) (Nat.lt_of_le_of_lt (show S.R.1 - 1 ≤ 6 by omega) (by decide))
          simp only [List.filter_nil, List.length_nil] at g1
          rw [show nI 0 = (0 : Int32) from rfl] at g1
          rw [show nI (fc 1) = (1 : Int32) by decide, show nI (1 + 1) = (2 : Int32) by decide] at h58
          have h58' := h58.trans g1
          rw [h58']
          have hRel : Rel M12 M13 := ⟨S, hS, hX12, g2⟩
          have egd : (fun w => decide (amF S.R.1 t (2 ^ p) (clN ((2 ^ S.R.1 - 1) &&& (whoN S.A.W t S.R.1 ^^^ (2 ^ 32 - 1))) p) (wk S.R S.A.gl S.A.W w (S.R.1 - 1)) = 0)) = gdS S t (whoN S.A.W t S.R.1) p := by
            funext w
            unfold gdS
            exact decide_eq_decide.mpr (seat_bits h6 (whoN_lt _ _ _) c1 hbit).symm
          rw [egd, List.nil_append] at s3
          have hin : ∀ w ∈ (pl S.R.1 S.R.1 0 []).filter (gdS S t (whoN S.A.W t S.R.1) p), w.length = S.R.1 := fun w hw => (okw_p (List.all_eq_true.mp (pl_okw S.R.1 (by omega) hP2) w (List.mem_filter.mp hw).1)).1
          have hgl : ((pl S.R.1 S.R.1 0 []).filter (gdS S t (whoN S.A.W t S.R.1) p)).length ≤ 720 := Nat.le_trans (List.length_filter_le _ _) (by omega)
          generalize (pl S.R.1 S.R.1 0 []).filter (gdS S t (whoN S.A.W t S.R.1) p) = G at s3 g3 hin hgl
          rw [s3.1]
          rcases s_cases h6 a2' with ⟨q1, q4⟩ | ⟨k, q1, q2, q3⟩
          · rw [q4] at hu
            have hu0 : u1 = 0 := hu.symm
            have h0 : a2' = 0 := eok.resolve_right (fun q => q hu0)
            rw [if_pos hu0, if_pos h0]
            exact ⟨_, _, _, rfl, rfl, hRel⟩
          · rw [q3] at hu
            have hu1 : ¬ u1 = 0 := by rw [← hu]; decide
            have h0 : ¬ a2' = 0 := fun q => by rw [q2] at q; have := (i_z (k := 10 + k) (by omega)).mp q; omega
            rw [if_neg hu1, if_neg h0]
            have es : a2' - 10 = nI k := by rw [q2, show (10 : Int32) = nI 10 from rfl, pk_sub (by omega), show 10 + k - 10 = k by omega]
            cases G with
            | nil =>
              rw [if_pos (show nI (List.length ([] : List (List Nat))) = 0 from rfl), if_pos (show nI (List.length ([] : List (List Nat))) = 0 from rfl)]
              exact ⟨_, _, _, rfl, rfl, hRel⟩
            | cons w G =>
              have hn0 : ¬ nI (w :: G).length = 0 := fun q => by have := (i_z (by omega)).mp q; rw [List.length_cons] at this; omega
              have hwl := hin w List.mem_cons_self
              have hkw : w[k]? = some (w.getD k 0) := getD_some (by omega)
              rw [if_neg hn0, if_neg hn0, es, gd_in (vp_in_nI (n := k) (by omega) (by decide)), gd_in (vp_in_nI (n := k) (by omega) (by decide)), nI_clamp (by omega), s3.2 w G rfl k _ hkw, g3 w G rfl k _ hkw]
              exact ⟨_, _, _, rfl, rfl, hRel⟩
      · rw [if_neg eok, if_neg eok]
        exact ⟨_, _, _, rfl, rfl, hR0⟩
end
