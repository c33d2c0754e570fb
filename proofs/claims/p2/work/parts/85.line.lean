/-! THE TEXT: the class's names and lines -/
def stN : List (List Nat) := [[112, 101, 111, 112, 108, 101], [104, 111, 108, 100], [107, 110, 111, 119, 115], [106, 111, 105, 110], [104, 97, 110, 100], [100, 97, 105, 108, 121], [103, 108, 111, 118, 101]]
def mtc (tp : List Nat) : List Nat → Nat → Bool
  | [], _ => true
  | c :: cs, q => inr tp c c q && mtc tp cs (q + 1)
def isN (tp : List Nat) (k q a : Nat) : Bool := decide (a - q = (stN.getD k []).length) && mtc tp (stN.getD k []) q
theorem st_len : ∀ k, k < 7 → stLen.getD k 0 = (stN.getD k []).length ∧ (nI (stLen.getD k 0) >>> ((0 : Int32) &&& 31)) = nI (stN.getD k []).length ∧ (stN.getD k []).length ≤ 6 := by decide +kernel
theorem st_chr : ∀ k, k < 7 → ∀ i, i < (stN.getD k []).length → ((((stByt.getD k []).getD (nI i).toNatClampNeg 0 &&& 255).toUInt32 % 65536).toInt32) = nI ((stN.getD k []).getD i 0) := by decide +kernel
theorem st_az : ∀ k, k < 7 → ∀ i, i < (stN.getD k []).length → 97 ≤ (stN.getD k []).getD i 0 ∧ (stN.getD k []).getD i 0 ≤ 122 := by decide +kernel
theorem st_zc : ∀ c, c < 128 → nI c = ((nI c).toUInt32 % 65536).toInt32 := by decide +kernel
theorem sb_az : ∀ b, b < 256 → ∀ c, c < 26 → ((sB b = nI (97 + c)) ↔ b = 97 + c) := by decide +kernel
theorem x_chr {k i : Nat} (hk : k < 7) (hi : i < (stN.getD k []).length) (M : Mem) : X_charAt k (nI i) M = some (nI ((stN.getD k []).getD i 0), M) := by
  obtain ⟨l1, l2, l3⟩ := st_len k hk
  unfold X_charAt
  rw [l1, gd_in (vp_in_nI (n := i) hi (by omega)), st_chr k hk i hi]
  unfold zc
  rw [if_pos (st_zc _ (by have := st_az k hk i hi; omega))]
theorem inr_c {tp : List Nat} {c p : Nat} (hp : p < tp.length) : inr tp c c p = decide (tp.getD p 0 = c) := by
  unfold inr
  rw [getD_some hp]
  dsimp only
  by_cases e : tp.getD p 0 = c
  · rw [decide_eq_true e, decide_eq_true (by omega), decide_eq_true (by omega)]; rfl
  · rw [decide_eq_false e]
    by_cases f : c ≤ tp.getD p 0
    · rw [decide_eq_false (show ¬ tp.getD p 0 ≤ c by omega), Bool.and_false]
    · rw [decide_eq_false f, Bool.false_and]
theorem mtc_c (tp : List Nat) (c : Nat) (cs : List Nat) (q : Nat) : mtc tp (c :: cs) q = (inr tp c c q && mtc tp cs (q + 1)) := rfl
theorem x_called_L (n : Nat) {M : Mem} {tp : List Nat} (hT : XTp M tp) {k q : Nat} (hk : k < 7) (h8 : M.1 3 8 = nI q) (hq : q + (stN.getD k []).length ≤ tp.length) : ∀ d i f, i + d = (stN.getD k []).length → d < f → X_Teller_isCalled_L20 n k f (nI i) M = some (if mtc tp ((stN.getD k []).drop i) (q + i) then 1 else 0, M) := by
  obtain ⟨l1, l2, l3⟩ := st_len k hk
  have hL := hT.2.2.1
  intro d
  induction d with
  | zero =>
    intro i f h1 h2
    obtain ⟨f, rfl⟩ : ∃ g, f = g + 1 := ⟨f - 1, by omega⟩
    show (if (nI (stLen.getD k 0) >>> ((0 : Int32) &&& 31)) ≤ nI i then some ((1 : Int32), M) else _) = _
    rw [l2, if_pos (nI_le (by omega) (by omega)), List.drop_of_length_le (by omega)]
    rfl
  | succ d ih =>
    intro i f h1 h2
    obtain ⟨f, rfl⟩ : ∃ g, f = g + 1 := ⟨f - 1, by omega⟩
    have hi : i < (stN.getD k []).length := by omega
    show (if (nI (stLen.getD k 0) >>> ((0 : Int32) &&& 31)) ≤ nI i then some ((1 : Int32), M) else gd ((M.1 3 8) + nI i) 320 (bd (X_charAt k (nI i) M) fun r5 M6 => (if (M.1 2 ((M.1 3 8) + nI i).toNatClampNeg) = r5 then X_Teller_isCalled_L20 n k f (nI i + 1) M6 else some (0, M6)))) = _
    have hx := getD_some (w := tp) (i := q + i) (by omega)
    have hb := hT.2.2.2 _ (getD_mem (w := tp) (i := q + i) (by omega))
    obtain ⟨z1, z2⟩ := st_az k hk i hi
    have ez := sb_az _ hb ((stN.getD k []).getD i 0 - 97) (by omega)
    rw [show 97 + ((stN.getD k []).getD i 0 - 97) = (stN.getD k []).getD i 0 by omega] at ez
    rw [l2, if_neg (nI_ge (by omega) (by omega)), h8, nI_add, gd_in (v320 (by omega)), x_chr hk hi, bd_ret, nI_clamp (by omega), hT.2.1 _ _ hx, nI_1, ih (i + 1) f (by omega) (by omega), List.drop_eq_getElem_cons hi, mtc_c]
    have eg : (stN.getD k [])[i] = (stN.getD k []).getD i 0 := by
      have := getD_some hi
      rw [List.getElem?_eq_getElem hi] at this
      exact Option.some.inj this
    rw [eg, inr_c (show q + i < tp.length by omega), show q + (i + 1) = q + i + 1 by omega]
    by_cases e : tp.getD (q + i) 0 = (stN.getD k []).getD i 0
    · rw [if_pos (ez.mpr e), decide_eq_true e, Bool.true_and]
    · rw [if_neg (fun r => e (ez.mp r)), decide_eq_false e, Bool.false_and]
      rfl
theorem x_called (n : Nat) (hn : 20 ≤ n) {M : Mem} {tp : List Nat} {s : Tk} (hT : XTp M tp) (hS : XT M s) (hs : OkT tp s) (hq : s.2.2.2.1 ≤ s.2.1) {k : Nat} (hk : k < 7) : X_Teller_isCalled n k M = some (if isN tp k s.2.2.2.1 s.2.1 then 1 else 0, M) := by
  obtain ⟨l1, l2, l3⟩ := st_len k hk
  have hL := hT.2.2.1
  have ha := hs.2.1
  have un : X_Teller_isCalled n k M = if ((M.1 3 6) - (M.1 3 8)) = (nI (stLen.getD k 0) >>> ((0 : Int32) &&& 31)) then X_Teller_isCalled_L20 n k n 0 M else some (0, M) := rfl
  rw [un, hS.2.1, hS.2.2.2.1, pk_sub hq, l2]
  unfold isN
  by_cases e : s.2.1 - s.2.2.2.1 = (stN.getD k []).length
  · rw [if_pos (by rw [e]), decide_eq_true e, Bool.true_and]
    exact x_called_L n hT hk hS.2.2.2.1 (by omega) (stN.getD k []).length 0 n (Nat.zero_add _) (by omega)
  · rw [if_neg (fun r => e ((nI_eq (by omega) (by omega)).mp r)), decide_eq_false e, Bool.false_and]
    rfl
def nmI (tp : List Nat) (q a : Nat) : Nat := if isN tp 0 q a then 0 else if isN tp 1 q a then 1 else if isN tp 2 q a then 2 else if isN tp 3 q a then 3 else if isN tp 4 q a then 4 else if isN tp 5 q a then 5 else if isN tp 6 q a then 6 else 7
def lnS (tp : List Nat) (s : Tk) (D : Dr) : Tk := if s.2.2.1 = 1 then (match nmI tp s.2.2.2.1 s.2.1 with
  | 0 => tkS tp (peoS tp s D)
  | 1 => tkS tp (holS tp s D)
  | 2 => knS tp s D
  | 3 => if D.R.2.2.1.length < 4 then joS tp s else rfs true 5 s
  | 4 => if D.R.2.2.2.1.length < 16 then paS tp s else rfs true 5 s
  | 5 => if D.R.2.2.2.2.length < 8 then paS tp s else rfs true 5 s
  | 6 => gloS tp s D
  | _ => rfs true 2 s) else rfs true 2 s
def haD (tp : List Nat) (s : Tk) (D : Dr) : Dr := ((D.R.1, D.R.2.1, D.R.2.2.1, D.R.2.2.2.1 ++ [paV tp s], D.R.2.2.2.2), (paH tp s D).2)
def daD (tp : List Nat) (s : Tk) (D : Dr) : Dr := ((D.R.1, D.R.2.1, D.R.2.2.1, D.R.2.2.2.1, D.R.2.2.2.2 ++ [paV tp s]), (paH tp s D).2)
def lnD (tp : List Nat) (s : Tk) (D : Dr) : Dr := if s.2.2.1 = 1 then (match nmI tp s.2.2.2.1 s.2.1 with
  | 0 => peoD tp s D
  | 1 => holD tp s D
  | 2 => knD tp s D
  | 3 => if D.R.2.2.1.length < 4 then joD tp s D else D
  | 4 => if D.R.2.2.2.1.length < 16 then haD tp s D else D
  | 5 => if D.R.2.2.2.2.length < 8 then daD tp s D else D
  | 6 => gloD tp s D
  | _ => D) else D
theorem list_snoc {c : Nat} {M M' : Mem} {l : List Nat} {v : Nat} (h : ∀ i x, l[i]? = some x → M.1 c i = nI x) (he : ∀ k, k < l.length → M'.1 c k = M.1 c k) (hv : M'.1 c l.length = nI v) : ∀ i x, (l ++ [v])[i]? = some x → M'.1 c i = nI x := fun i x hi => by
  have hl := (List.getElem?_eq_some_iff.mp hi).1
  rw [List.length_append, List.length_singleton] at hl
  by_cases e : i < l.length
  · rw [List.getElem?_append_left e] at hi
    rw [he i e]
    exact h i x hi
  · have ei : i = l.length := by omega
    subst ei
    rw [List.getElem?_append_right (by omega), Nat.sub_self] at hi
    rw [hv, Option.some.inj hi]
theorem x_line (n : Nat) (hn : 400 ≤ n) {M : Mem} {tp : List Nat} {s : Tk} {D : Dr} (hV : VD D) (h : XS M tp s D) (hq : s.2.2.2.1 ≤ s.2.1) : ∃ M', X_Teller_tellLine n M = some ((), M') ∧ XS M' tp (lnS tp s D) (lnD tp s D) ∧ Fr xd M M' := by
  have hk4 := h.2.1.2.2.2
  have kx : ∀ k, k < 7 → X_Teller_isCalled n k M = some (if isN tp k s.2.2.2.1 s.2.1 then 1 else 0, M) := fun k hk => x_called n (by omega) h.1 h.2.2.1 h.2.1 hq hk
  have two : ∃ M', (bd (X_Teller_refuse n 2 M) fun _ M16 => some ((), M16)) = some ((), M') ∧ XS M' tp (rfs true 2 s) D ∧ Fr xd M M' := by
    obtain ⟨M', b1, b2, b3⟩ := h.rf n 2 (by decide)
    rw [show X_Teller_refuse n 2 M = _ from b1, bd_ret]
    exact ⟨M', rfl, b2, xt_xd b3⟩
  unfold X_Teller_tellLine lnS lnD
  rw [h.2.2.1.2.2.1]
  by_cases e1 : s.2.2.1 = 1
  · rw [if_pos (show nI s.2.2.1 = 1 by rw [e1]; rfl), if_pos e1, if_pos e1]
    generalize hq1 : s.2.2.2.1 = q at kx
    generalize ha1 : s.2.1 = a at kx
    unfold nmI
    rw [kx 0 (by decide), bd_ret]
    cases c0 : isN tp 0 q a with
    | true =>
      rw [if_neg (show ¬ (if true = true then (1 : Int32) else 0) = 0 by decide), if_pos rfl]
      obtain ⟨M', b1, b2, b3⟩ := x_people n hn hV h
      rw [b1, bd_ret]
      exact ⟨M', rfl, b2, b3⟩
    | false =>
      rw [if_pos (show (if false = true then (1 : Int32) else 0) = 0 from rfl), if_neg Bool.false_ne_true, kx 1 (by decide), bd_ret]
      cases c1 : isN tp 1 q a with
      | true =>
        rw [if_neg (show ¬ (if true = true then (1 : Int32) else 0) = 0 by decide), if_pos rfl]
        obtain ⟨M', b1, b2, b3⟩ := x_hold n hn hV h
        rw [b1, bd_ret]
        exact ⟨M', rfl, b2, b3⟩
      | false =>
        rw [if_pos (show (if false = true then (1 : Int32) else 0) = 0 from rfl), if_neg Bool.false_ne_true, kx 2 (by decide), bd_ret]
        cases c2 : isN tp 2 q a with
        | true =>
          rw [if_neg (show ¬ (if true = true then (1 : Int32) else 0) = 0 by decide), if_pos rfl]
          obtain ⟨M', b1, b2, b3, -, -⟩ := x_row n hn hV h
          rw [b1, bd_ret]
          exact ⟨M', rfl, b2, b3⟩
        | false =>
          rw [if_pos (show (if false = true then (1 : Int32) else 0) = 0 from rfl), if_neg Bool.false_ne_true, kx 3 (by decide), bd_ret]
          cases c3 : isN tp 3 q a with
          | true =>
            rw [if_neg (show ¬ (if true = true then (1 : Int32) else 0) = 0 by decide), if_pos rfl]
            by_cases hj : D.R.2.2.1.length < 4
            · rw [if_pos hj, if_pos hj]
              obtain ⟨M', b1, b2, b3⟩ := x_join n hn h hj
              rw [b1, bd_ret]
              exact ⟨M', rfl, b2, b3⟩
            · rw [if_neg hj, if_neg hj]
              obtain ⟨M', b1, b2, b3⟩ := h.rf n 5 (by decide)
              have hv := hV.1
              have un : X_Teller_tellJoin n M = some ((), M') := by
                unfold X_Teller_tellJoin
                rw [h.2.2.2.1.2.2.1, if_neg (show ¬ nI D.R.2.2.1.length < 4 from Int32.not_lt.mpr (nI_le (a := 4) (by omega) (by omega))), show X_Teller_refuse n 5 M = _ from b1, bd_ret]
              rw [un, bd_ret]
              exact ⟨M', rfl, b2, xt_xd b3⟩
          | false =>
            rw [if_pos (show (if false = true then (1 : Int32) else 0) = 0 from rfl), if_neg Bool.false_ne_true, kx 4 (by decide), bd_ret]
            cases c4 : isN tp 4 q a with
            | true =>
              rw [if_neg (show ¬ (if true = true then (1 : Int32) else 0) = 0 by decide), if_pos rfl]
              have hv := hV.2.1
              rw [h.2.2.2.1.2.2.2.1]
              by_cases hj : D.R.2.2.2.1.length < 16
              · rw [if_pos hj, if_pos hj]
                obtain ⟨M', b1, b2, b3, b4⟩ := x_pair n hn hV h (list := 6) (ln := 16) (c := D.R.2.2.2.1.length) (Or.inl rfl) hj (by decide) ⟨fun _ => Nat.le_refl _, fun q => absurd q (by decide)⟩
                have f1 : Fr (fun c k => c = 4 ∧ k = 5) M' (si M' 4 5 (nI (D.R.2.2.2.1.length + 1))) := Fr.si ⟨rfl, rfl⟩
                have x4 := b2.2.2.2.1
                rw [b1, bd_ret]
                refine ⟨_, rfl, b2.wr f1 (fun c k q => by omega) ⟨⟨x4.1, x4.2.1, x4.2.2.1, ?_, x4.2.2.2.2.1, x4.2.2.2.2.2.1, list_snoc (M := M') x4.2.2.2.2.2.2.1 (fun k hk => rfl) b4, x4.2.2.2.2.2.2.2⟩, b2.2.2.2.2.1.fr f1 (fun k q => by omega), b2.2.2.2.2.2.fr f1 (fun k q => by omega)⟩, b3.trans (f1.mono (fun c k q => by unfold xd; omega))⟩
                rw [si_at]
                show _ = nI (D.R.2.2.2.1 ++ [paV tp s]).length
                rw [List.length_append]; rfl
              · rw [if_neg hj, if_neg hj]
                obtain ⟨M', b1, b2, b3⟩ := h.rf n 5 (by decide)
                have un : X_Teller_tellPair n 6 16 (nI D.R.2.2.2.1.length) M = some (nI D.R.2.2.2.1.length, M') := by
                  unfold X_Teller_tellPair
                  rw [if_neg (Int32.not_lt.mpr (nI_le (by omega) (by omega))), show X_Teller_refuse n 5 M = _ from b1, bd_ret]
                rw [un, bd_ret, si_self b2.2.2.2.1.2.2.2.1]
                exact ⟨M', rfl, b2, xt_xd b3⟩
            | false =>
              rw [if_pos (show (if false = true then (1 : Int32) else 0) = 0 from rfl), if_neg Bool.false_ne_true, kx 5 (by decide), bd_ret]
              cases c5 : isN tp 5 q a with
              | true =>
                rw [if_neg (show ¬ (if true = true then (1 : Int32) else 0) = 0 by decide), if_pos rfl]
                have hv := hV.2.2.1
                rw [h.2.2.2.1.2.2.2.2.1]
                by_cases hj : D.R.2.2.2.2.length < 8
                · rw [if_pos hj, if_pos hj]
                  obtain ⟨M', b1, b2, b3, b4⟩ := x_pair n hn hV h (list := 7) (ln := 8) (c := D.R.2.2.2.2.length) (Or.inr rfl) hj (by decide) ⟨fun q => absurd q (by decide), fun _ => Nat.le_refl _⟩
                  have f1 : Fr (fun c k => c = 4 ∧ k = 7) M' (si M' 4 7 (nI (D.R.2.2.2.2.length + 1))) := Fr.si ⟨rfl, rfl⟩
                  have x4 := b2.2.2.2.1
                  rw [b1, bd_ret]
                  refine ⟨_, rfl, b2.wr f1 (fun c k q => by omega) ⟨⟨x4.1, x4.2.1, x4.2.2.1, x4.2.2.2.1, ?_, x4.2.2.2.2.2.1, x4.2.2.2.2.2.2.1, list_snoc (M := M') x4.2.2.2.2.2.2.2 (fun k hk => rfl) b4⟩, b2.2.2.2.2.1.fr f1 (fun k q => by omega), b2.2.2.2.2.2.fr f1 (fun k q => by omega)⟩, b3.trans (f1.mono (fun c k q => by unfold xd; omega))⟩
                  rw [si_at]
                  show _ = nI (D.R.2.2.2.2 ++ [paV tp s]).length
                  rw [List.length_append]; rfl
                · rw [if_neg hj, if_neg hj]
                  obtain ⟨M', b1, b2, b3⟩ := h.rf n 5 (by decide)
                  have un : X_Teller_tellPair n 7 8 (nI D.R.2.2.2.2.length) M = some (nI D.R.2.2.2.2.length, M') := by
                    unfold X_Teller_tellPair
                    rw [if_neg (Int32.not_lt.mpr (nI_le (by omega) (by omega))), show X_Teller_refuse n 5 M = _ from b1, bd_ret]
                  rw [un, bd_ret, si_self b2.2.2.2.1.2.2.2.2.1]
                  exact ⟨M', rfl, b2, xt_xd b3⟩
              | false =>
                rw [if_pos (show (if false = true then (1 : Int32) else 0) = 0 from rfl), if_neg Bool.false_ne_true, kx 6 (by decide), bd_ret]
                cases c6 : isN tp 6 q a with
                | true =>
                  rw [if_neg (show ¬ (if true = true then (1 : Int32) else 0) = 0 by decide), if_pos rfl]
                  obtain ⟨M', b1, b2, b3⟩ := x_glove n hn hV h
                  rw [b1, bd_ret]
                  exact ⟨M', rfl, b2, b3⟩
                | false =>
                  rw [if_pos (show (if false = true then (1 : Int32) else 0) = 0 from rfl), if_neg Bool.false_ne_true]
                  exact two
  · rw [if_neg (show ¬ nI s.2.2.1 = 1 from fun q => e1 ((nI_eq (b := 1) (by omega) (by decide)).mp q)), if_neg e1, if_neg e1]
    exact two
