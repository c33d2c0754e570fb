/-! THE TEXT: tokens -/
def inr (tp : List Nat) (lo hi p : Nat) : Bool := match tp[p]? with
  | some b => decide (lo ≤ b) && decide (b ≤ hi)
  | none => false
def rn (tp : List Nat) (lo hi : Nat) : Nat → Nat → Nat
  | 0, p => p
  | k + 1, p => if inr tp lo hi p then rn tp lo hi k (p + 1) else p
def nv (tp : List Nat) : Nat → Nat → Nat → Nat
  | 0, _, v => v
  | k + 1, p, v => if inr tp 48 57 p then nv tp k (p + 1) (10 * v + tp.getD p 0 - 48) else v
theorem inr_lt {tp : List Nat} {lo hi p : Nat} (h : inr tp lo hi p = true) : p < tp.length := by
  unfold inr at h
  split at h
  · rename_i b e
    exact (List.getElem?_eq_some_iff.mp e).1
  · exact absurd h Bool.false_ne_true
theorem inr_p {tp : List Nat} {lo hi p : Nat} (h : inr tp lo hi p = true) : lo ≤ tp.getD p 0 ∧ tp.getD p 0 ≤ hi := by
  have hp := inr_lt h
  unfold inr at h
  rw [getD_some hp] at h
  dsimp only at h
  rw [Bool.and_eq_true] at h
  exact ⟨of_decide_eq_true h.1, of_decide_eq_true h.2⟩
theorem rn_le {tp : List Nat} {lo hi : Nat} : ∀ k p, p ≤ tp.length → p ≤ rn tp lo hi k p ∧ rn tp lo hi k p ≤ tp.length
  | 0, p, h => ⟨Nat.le_refl _, h⟩
  | k + 1, p, h => by
    unfold rn
    split
    · rename_i e
      have := inr_lt e
      have := rn_le (tp := tp) (lo := lo) (hi := hi) k (p + 1) (by omega)
      omega
    · exact ⟨Nat.le_refl _, h⟩
theorem si_self {M : Mem} {a k : Nat} {v : Int32} (h : M.1 a k = v) : si M a k v = M := by
  rw [← h]
  refine Prod.ext ?_ rfl
  funext x y
  show (if x = a ∧ y = k then M.1 a k else M.1 x y) = M.1 x y
  split
  · rename_i e; rw [e.1, e.2]
  · rfl
theorem si_si (M : Mem) (a k : Nat) (v w : Int32) : si (si M a k v) a k w = si M a k w := by
  refine Prod.ext ?_ rfl
  funext x y
  show (if x = a ∧ y = k then _ else (if x = a ∧ y = k then _ else M.1 x y)) = (if x = a ∧ y = k then _ else M.1 x y)
  split <;> rfl
theorem si_swap (M : Mem) {a k b j : Nat} (v w : Int32) (h : a ≠ b ∨ k ≠ j) : si (si M a k v) b j w = si (si M b j w) a k v := by
  refine Prod.ext ?_ rfl
  funext x y
  show (if x = b ∧ y = j then w else (if x = a ∧ y = k then v else M.1 x y)) = (if x = a ∧ y = k then v else (if x = b ∧ y = j then w else M.1 x y))
  by_cases e : x = b ∧ y = j
  · rw [if_pos e]
    by_cases f : x = a ∧ y = k
    · exact absurd (f.1.symm.trans e.1) (fun q => h.elim (fun r => r q) (fun r => r (f.2.symm.trans e.2)))
    · rw [if_neg f, if_pos e]
  · rw [if_neg e, if_neg e]
-- the tape in the class
def XTp (M : Mem) (tp : List Nat) : Prop := M.1 1 1 = nI tp.length ∧ (∀ i x, tp[i]? = some x → M.1 2 i = sB x) ∧ tp.length ≤ 320 ∧ ∀ x ∈ tp, x < 256
def rg_ok (a b : Int32) (lo hi : Nat) : Prop := ∀ x, x < 256 → (((sB x < a) ∨ (b < sB x)) ↔ ¬ (lo ≤ x ∧ x ≤ hi))
theorem rg_az : ∀ x, x < 256 → (((sB x < 97) ∨ (122 < sB x)) ↔ ¬ (97 ≤ x ∧ x ≤ 122)) := by decide +kernel
theorem rg_09 : ∀ x, x < 256 → (((sB x < 48) ∨ (57 < sB x)) ↔ ¬ (48 ≤ x ∧ x ≤ 57)) := by decide +kernel
theorem rg_sg : ∀ x, x < 256 → (((sB x < 59) ∨ (59 < sB x)) ↔ ¬ (59 ≤ x ∧ x ≤ 59)) := by decide +kernel
theorem sb_32 : ∀ x, x < 256 → ((sB x = 32) ↔ (32 ≤ x ∧ x ≤ 32)) := by decide +kernel
theorem sb_48 : ∀ x, x < 256 → 48 ≤ x → x ≤ 57 → sB x = nI x := by decide +kernel
theorem v320 {p : Nat} (h : p < 320) : vp_in (nI p) 320 := vp_in_nI h (by decide)
theorem x_within (n : Nat) {M : Mem} {tp : List Nat} (hT : XTp M tp) {a b : Int32} {lo hi p : Nat} (hr : rg_ok a b lo hi) (hp : p ≤ tp.length) (hat : M.1 3 6 = nI p) : X_Teller_isWithin n a b M = some (if inr tp lo hi p then 1 else 0, M) := by
  obtain ⟨h1, h2, h3, h4⟩ := hT
  unfold X_Teller_isWithin
  rw [h1, hat]
  by_cases e : p < tp.length
  · have hx := getD_some e
    have hb := h4 _ (getD_mem e)
    rw [if_neg (nI_ge e (by omega)), gd_in (v320 (by omega)), gd_in (v320 (by omega)), nI_clamp (by omega), h2 p _ hx]
    have hrr := hr _ hb
    have ei : inr tp lo hi p = (decide (lo ≤ tp.getD p 0) && decide (tp.getD p 0 ≤ hi)) := by unfold inr; rw [hx]
    by_cases q : lo ≤ tp.getD p 0 ∧ tp.getD p 0 ≤ hi
    · rw [if_neg (fun r => hrr.mp (Or.inl r) q), if_neg (fun r => hrr.mp (Or.inr r) q), ei, decide_eq_true q.1, decide_eq_true q.2]
      rfl
    · have ef : inr tp lo hi p = false := by
        rw [ei]
        cases c : (decide (lo ≤ tp.getD p 0) && decide (tp.getD p 0 ≤ hi)) with
        | false => rfl
        | true =>
          rw [Bool.and_eq_true] at c
          exact absurd ⟨of_decide_eq_true c.1, of_decide_eq_true c.2⟩ q
      rw [ef]
      rcases hrr.mpr q with r | r
      · rw [if_pos r]; rfl
      · by_cases r2 : sB (tp.getD p 0) < a
        · rw [if_pos r2]; rfl
        · rw [if_neg r2, if_pos r]; rfl
  · have : tp[p]? = none := List.getElem?_eq_none (by omega)
    rw [if_pos (nI_le (by omega) (by omega))]
    unfold inr
    rw [this]
    rfl
theorem x_blanks (n : Nat) (kx : Mem → Option (Unit × Mem)) {tp : List Nat} : ∀ k p f M, p ≤ tp.length → tp.length ≤ p + k → k < f → XTp M tp → M.1 3 6 = nI p → X_Teller_readToken_L8 n kx f M = kx (si M 3 6 (nI (rn tp 32 32 k p)))
  | k, p, f, M, h1, h2, h3, hT, hat => by
    obtain ⟨f, rfl⟩ : ∃ q, f = q + 1 := ⟨f - 1, by omega⟩
    have hs : si M 3 6 (nI p) = M := by
      rw [← hat]
      refine Prod.ext ?_ rfl
      funext a b
      show (if a = 3 ∧ b = 6 then M.1 3 6 else M.1 a b) = M.1 a b
      split
      · rename_i e; rw [e.1, e.2]
      · rfl
    show (if (M.1 1 1) ≤ (M.1 3 6) then kx M else gd (M.1 3 6) 320 (if (M.1 2 (M.1 3 6).toNatClampNeg) = 32 then X_Teller_readToken_L8 n kx f (si M 3 6 ((M.1 3 6) + 1)) else kx M)) = _
    by_cases e : p < tp.length
    · obtain ⟨k, rfl⟩ : ∃ q, k = q + 1 := ⟨k - 1, by omega⟩
      have hl := hT.2.2.1
      have hx := getD_some e
      have hb := hT.2.2.2 _ (getD_mem e)
      rw [hT.1, hat, if_neg (nI_ge e (by omega)), gd_in (v320 (by omega)), nI_clamp (by omega), hT.2.1 p _ hx, nI_1]
      have ei : inr tp 32 32 p = (decide (32 ≤ tp.getD p 0) && decide (tp.getD p 0 ≤ 32)) := by unfold inr; rw [hx]
      unfold rn
      by_cases q : 32 ≤ tp.getD p 0 ∧ tp.getD p 0 ≤ 32
      · rw [if_pos ((sb_32 _ hb).mpr q), ei, decide_eq_true q.1, decide_eq_true q.2, if_pos (show (true && true) = true from rfl), x_blanks n kx k (p + 1) f (si M 3 6 (nI (p + 1))) (by omega) (by omega) (by omega) hT (si_at _ _ _ _)]
        congr 1
        refine Prod.ext ?_ rfl
        funext a b
        show (if a = 3 ∧ b = 6 then _ else (if a = 3 ∧ b = 6 then _ else M.1 a b)) = (if a = 3 ∧ b = 6 then _ else M.1 a b)
        split <;> rfl
      · have ef : inr tp 32 32 p = false := by
          rw [ei]
          cases c : (decide (32 ≤ tp.getD p 0) && decide (tp.getD p 0 ≤ 32)) with
          | false => rfl
          | true =>
            rw [Bool.and_eq_true] at c
            exact absurd ⟨of_decide_eq_true c.1, of_decide_eq_true c.2⟩ q
        rw [if_neg (fun r => q ((sb_32 _ hb).mp r)), ef, if_neg Bool.false_ne_true, hs]
    · have hl := hT.2.2.1
      have er : rn tp 32 32 k p = p := by
        cases k with
        | zero => rfl
        | succ k =>
          unfold rn
          rw [if_neg (fun q => e (inr_lt q))]
      rw [hT.1, hat, if_pos (nI_le (by omega) (by omega)), er, hs]
theorem x_letters (n : Nat) {tp : List Nat} : ∀ k p f M, p ≤ tp.length → tp.length ≤ p + k → k < f → XTp M tp → M.1 3 6 = nI p → X_Teller_readToken_L98 n f M = some ((), si M 3 6 (nI (rn tp 97 122 k p)))
  | k, p, f, M, h1, h2, h3, hT, hat => by
    obtain ⟨f, rfl⟩ : ∃ q, f = q + 1 := ⟨f - 1, by omega⟩
    show (if (M.1 1 1) ≤ (M.1 3 6) then some ((), M) else bd (X_Teller_isWithin n 97 122 M) fun r18 M19 => (if r18 = 0 then some ((), M19) else X_Teller_readToken_L98 n f (si M19 3 6 ((M19.1 3 6) + 1)))) = _
    have hl := hT.2.2.1
    by_cases e : p < tp.length
    · obtain ⟨k, rfl⟩ : ∃ q, k = q + 1 := ⟨k - 1, by omega⟩
      rw [x_within n hT rg_az h1 hat, bd_ret, hT.1, hat, if_neg (nI_ge e (by omega))]
      unfold rn
      cases ei : inr tp 97 122 p with
      | true =>
        rw [if_neg (show ¬ (if true = true then (1 : Int32) else 0) = 0 by decide), nI_1, x_letters n k (p + 1) f (si M 3 6 (nI (p + 1))) (by omega) (by omega) (by omega) hT (si_at _ _ _ _), si_si, if_pos rfl]
      | false =>
        rw [if_pos (show (if false = true then (1 : Int32) else 0) = 0 from rfl), if_neg Bool.false_ne_true, si_self hat]
    · have er : rn tp 97 122 k p = p := by
        cases k with
        | zero => rfl
        | succ k =>
          unfold rn
          rw [if_neg (fun q => e (inr_lt q))]
      rw [hT.1, hat, if_pos (nI_le (by omega) (by omega)), er, si_self hat]
theorem x_figs (n : Nat) (kx : Mem → Option (Unit × Mem)) {tp : List Nat} : ∀ k p f v M, p ≤ tp.length → tp.length ≤ p + k → k < f → XTp M tp → M.1 3 6 = nI p → M.1 3 9 = nI v → X_Teller_readToken_L157 n kx f M = kx (si (si M 3 9 (nI (nv tp k p v))) 3 6 (nI (rn tp 48 57 k p)))
  | k, p, f, v, M, h1, h2, h3, hT, hat, hv => by
    obtain ⟨f, rfl⟩ : ∃ q, f = q + 1 := ⟨f - 1, by omega⟩
    show (if (M.1 1 1) ≤ (M.1 3 6) then kx M else bd (X_Teller_isWithin n 48 57 M) fun r12 M13 => (if r12 = 0 then kx M13 else gd (M13.1 3 6) 320 (nm (si M13 3 9 ((((10 : Int32) * (M13.1 3 9)) + (M13.1 2 (M13.1 3 6).toNatClampNeg)) - 48)) fun N14 => X_Teller_readToken_L157 n kx f (si N14 3 6 ((N14.1 3 6) + 1))))) = _
    have hl := hT.2.2.1
    by_cases e : p < tp.length
    · obtain ⟨k, rfl⟩ : ∃ q, k = q + 1 := ⟨k - 1, by omega⟩
      rw [x_within n hT rg_09 h1 hat, bd_ret, hT.1, hat, if_neg (nI_ge e (by omega))]
      unfold rn nv
      cases ei : inr tp 48 57 p with
      | true =>
        obtain ⟨i1, i2⟩ := inr_p ei
        have hb := hT.2.2.2 _ (getD_mem e)
        have hx := getD_some e
        rw [if_neg (show ¬ (if true = true then (1 : Int32) else 0) = 0 by decide), gd_in (v320 (by omega)), nI_clamp (by omega), hT.2.1 p _ hx, sb_48 _ hb i1 i2, hv, nm_eq, si_ne (Or.inr (by decide)), hat, nI_1, show (10 : Int32) = nI 10 from rfl, pk_mul, nI_add, show (48 : Int32) = nI 48 from rfl, pk_sub (by omega)]
        rw [x_figs n kx k (p + 1) f (10 * v + tp.getD p 0 - 48) (si (si M 3 9 (nI (10 * v + tp.getD p 0 - 48))) 3 6 (nI (p + 1))) (by omega) (by omega) (by omega) hT (si_at _ _ _ _) (by rw [si_ne (Or.inr (by decide))]; exact si_at _ _ _ _), if_pos rfl, if_pos rfl]
        congr 1
        rw [si_swap (si M 3 9 (nI (10 * v + tp.getD p 0 - 48))) (a := 3) (k := 6) (b := 3) (j := 9) _ _ (Or.inr (by decide)), si_si, si_si]
      | false =>
        rw [if_pos (show (if false = true then (1 : Int32) else 0) = 0 from rfl), if_neg Bool.false_ne_true, if_neg Bool.false_ne_true, si_self hv, si_self hat]
    · have er : rn tp 48 57 k p = p ∧ nv tp k p v = v := by
        cases k with
        | zero => exact ⟨rfl, rfl⟩
        | succ k =>
          unfold rn nv
          rw [if_neg (fun q => e (inr_lt q)), if_neg (fun q => e (inr_lt q))]
          exact ⟨rfl, rfl⟩
      rw [hT.1, hat, if_pos (nI_le (by omega) (by omega)), er.1, er.2, si_self hv, si_self hat]
-- what is read: the fault, where, the kind, the place, the value
abbrev Tk : Type := Nat × Nat × Nat × Nat × Nat
def rdX (tp : List Nat) (s : Tk) : Tk :=
  if s.1 = 0 then
    let q := rn tp 32 32 tp.length s.2.1
    if q < tp.length then
      if inr tp 97 122 q then (0, rn tp 97 122 tp.length q, 1, q, s.2.2.2.2)
      else if inr tp 48 57 q then ((if rn tp 48 57 tp.length q - q ≤ 2 then 0 else 1), rn tp 48 57 tp.length q, 2, q, nv tp tp.length q 0)
      else if inr tp 59 59 q then (0, q + 1, 3, q, s.2.2.2.2)
      else (1, q, s.2.2.1, q, s.2.2.2.2)
    else (0, q, 0, q, s.2.2.2.2)
  else s
def XT (M : Mem) (s : Tk) : Prop := M.1 3 3 = nI s.1 ∧ M.1 3 6 = nI s.2.1 ∧ M.1 3 7 = nI s.2.2.1 ∧ M.1 3 8 = nI s.2.2.2.1 ∧ M.1 3 9 = nI s.2.2.2.2
def xt (c k : Nat) : Prop := c = 3 ∧ (k = 3 ∨ k = 6 ∨ k = 7 ∨ k = 8 ∨ k = 9)
theorem XTp.fr {P : Nat → Nat → Prop} {M M' : Mem} {tp : List Nat} (h : XTp M tp) (ho : Fr P M M') (hp : ∀ c k, P c k → c ≠ 1 ∧ c ≠ 2) : XTp M' tp := ⟨by rw [(ho 1 1 (fun q => (hp _ _ q).1 rfl)).1]; exact h.1, fun i x hi => by rw [(ho 2 i (fun q => (hp _ _ q).2 rfl)).1]; exact h.2.1 i x hi, h.2.2⟩
theorem x_refuse (n f : Nat) (hf : f < 8) {M : Mem} {s : Tk} (hs : s.1 < 8) (h : XT M s) : ∃ M', X_Teller_refuse n (nI f) M = some ((), M') ∧ XT M' (if s.1 = 0 then (f, s.2) else s) ∧ Fr xt M M' := by
  unfold X_Teller_refuse
  rw [h.1]
  by_cases e : s.1 = 0
  · rw [if_pos (by rw [e]; rfl), if_pos e]
    exact ⟨_, rfl, ⟨si_at _ _ _ _, by rw [si_ne (Or.inr (by decide))]; exact h.2.1, by rw [si_ne (Or.inr (by decide))]; exact h.2.2.1, by rw [si_ne (Or.inr (by decide))]; exact h.2.2.2.1, by rw [si_ne (Or.inr (by decide))]; exact h.2.2.2.2⟩, Fr.si ⟨rfl, Or.inl rfl⟩⟩
  · rw [if_neg (fun q => e ((i_z (by omega)).mp q)), if_neg e]
    exact ⟨M, rfl, h, Fr.rf⟩
theorem x_readToken (n : Nat) (hn : 400 ≤ n) {M : Mem} {tp : List Nat} {s : Tk} (hT : XTp M tp) (hs : s.1 < 8) (hp : s.2.1 ≤ tp.length) (h : XT M s) : ∃ M', X_Teller_readToken n M = some ((), M') ∧ XT M' (rdX tp s) ∧ Fr xt M M' := by
  have hl := hT.2.2.1
  unfold X_Teller_readToken rdX
  rw [h.1]
  by_cases e : s.1 = 0
  · rw [if_pos (by rw [e]; rfl), if_pos e]
    obtain ⟨q1, q2⟩ := rn_le (tp := tp) (lo := 32) (hi := 32) tp.length s.2.1 hp
    rw [x_blanks n _ tp.length s.2.1 n M hp (by omega) (by omega) hT h.2.1]
    generalize rn tp 32 32 tp.length s.2.1 = q at q1 q2
    rw [nm_eq]
    generalize hN : si (si M 3 6 (nI q)) 3 8 ((si M 3 6 (nI q)).1 3 6) = N
    have fN : Fr xt M N := by rw [← hN]; exact (Fr.si ⟨rfl, by decide⟩).trans (Fr.si ⟨rfl, by decide⟩)
    have hTN : XTp N tp := hT.fr fN (fun c k q => by unfold xt at q; omega)
    have n3 : N.1 3 3 = 0 := by rw [← hN, si_ne (Or.inr (by decide)), si_ne (Or.inr (by decide)), h.1, e]; rfl
    have n6 : N.1 3 6 = nI q := by rw [← hN, si_ne (Or.inr (by decide))]; exact si_at _ _ _ _
    have n7 : N.1 3 7 = nI s.2.2.1 := by rw [← hN, si_ne (Or.inr (by decide)), si_ne (Or.inr (by decide))]; exact h.2.2.1
    have n8 : N.1 3 8 = nI q := by rw [← hN, si_at]; exact si_at _ _ _ _
    have n9 : N.1 3 9 = nI s.2.2.2.2 := by rw [← hN, si_ne (Or.inr (by decide)), si_ne (Or.inr (by decide))]; exact h.2.2.2.2
    rw [n6, hTN.1]
    dsimp only
    by_cases eq : q < tp.length
    · rw [if_pos (nI_lt eq (by omega)), if_pos eq, x_within n hTN rg_az q2 n6, bd_ret]
      cases e1 : inr tp 97 122 q with
      | true =>
        rw [if_neg (show ¬ (if true = true then (1 : Int32) else 0) = 0 by decide), if_pos rfl, x_letters n tp.length q n (si N 3 7 1) q2 (by omega) (by omega) hTN n6]
        exact ⟨_, rfl, ⟨n3, si_at _ _ _ _, rfl, n8, n9⟩, fN.trans ((Fr.si ⟨rfl, by decide⟩).trans (Fr.si ⟨rfl, by decide⟩))⟩
      | false =>
        rw [if_pos (show (if false = true then (1 : Int32) else 0) = 0 from rfl), if_neg Bool.false_ne_true, x_within n hTN rg_09 q2 n6, bd_ret]
        cases e2 : inr tp 48 57 q with
        | true =>
          have hr := rn_le (tp := tp) (lo := 48) (hi := 57) tp.length q q2
          rw [if_neg (show ¬ (if true = true then (1 : Int32) else 0) = 0 by decide), if_pos rfl, x_figs n _ tp.length q n 0 (si (si N 3 7 2) 3 9 0) q2 (by omega) (by omega) hTN n6 rfl]
          generalize rn tp 48 57 tp.length q = a at hr
          generalize nv tp tp.length q 0 = v
          have e36 : (si (si (si (si N 3 7 2) 3 9 0) 3 9 (nI v)) 3 6 (nI a)).1 3 6 = nI a := si_at _ _ _ _
          have e38 : (si (si (si (si N 3 7 2) 3 9 0) 3 9 (nI v)) 3 6 (nI a)).1 3 8 = nI q := n8
          have fA : Fr xt N (si (si (si (si N 3 7 2) 3 9 0) 3 9 (nI v)) 3 6 (nI a)) := (((Fr.si ⟨rfl, by decide⟩).trans (Fr.si ⟨rfl, by decide⟩)).trans (Fr.si ⟨rfl, by decide⟩)).trans (Fr.si ⟨rfl, by decide⟩)
          rw [e36, e38, pk_sub hr.1]
          by_cases e3 : a - q ≤ 2
          · rw [if_pos (show nI (a - q) ≤ 2 from nI_le (b := 2) e3 (by decide)), if_pos e3]
            exact ⟨_, rfl, ⟨n3, e36, rfl, e38, rfl⟩, fN.trans fA⟩
          · rw [if_neg (show ¬ nI (a - q) ≤ 2 from nI_ge (a := 2) (by omega) (by omega)), if_neg e3]
            obtain ⟨M', b1, b2, b3⟩ := x_refuse n 1 (by decide) (M := si (si (si (si N 3 7 2) 3 9 0) 3 9 (nI v)) 3 6 (nI a)) (s := (0, a, 2, q, v)) (show 0 < 8 by decide) ⟨n3, e36, rfl, e38, rfl⟩
            rw [show X_Teller_refuse n 1 (si (si (si (si N 3 7 2) 3 9 0) 3 9 (nI v)) 3 6 (nI a)) = _ from b1, bd_ret]
            exact ⟨M', rfl, b2, (fN.trans fA).trans b3⟩
        | false =>
          rw [if_pos (show (if false = true then (1 : Int32) else 0) = 0 from rfl), if_neg Bool.false_ne_true, x_within n hTN rg_sg q2 n6, bd_ret]
          cases e3 : inr tp 59 59 q with
          | true =>
            rw [if_neg (show ¬ (if true = true then (1 : Int32) else 0) = 0 by decide), if_pos rfl, nm_eq]
            exact ⟨_, rfl, ⟨n3, by rw [si_at, si_ne (Or.inr (by decide)), n6, nI_1], rfl, n8, n9⟩, fN.trans ((Fr.si ⟨rfl, by decide⟩).trans (Fr.si ⟨rfl, by decide⟩))⟩
          | false =>
            rw [if_pos (show (if false = true then (1 : Int32) else 0) = 0 from rfl), if_neg Bool.false_ne_true]
            obtain ⟨M', b1, b2, b3⟩ := x_refuse n 1 (by decide) (M := N) (s := (0, q, s.2.2.1, q, s.2.2.2.2)) (show 0 < 8 by decide) ⟨n3, n6, n7, n8, n9⟩
            rw [show X_Teller_refuse n 1 N = _ from b1, bd_ret]
            exact ⟨M', rfl, b2, fN.trans b3⟩
    · rw [if_neg (Int32.not_lt.mpr (nI_le (by omega) (by omega))), if_neg eq]
      exact ⟨_, rfl, ⟨n3, n6, rfl, n8, n9⟩, fN.trans (Fr.si ⟨rfl, by decide⟩)⟩
  · rw [if_neg (fun q => e ((i_z (by omega)).mp q)), if_neg e]
    exact ⟨M, rfl, h, Fr.rf⟩
