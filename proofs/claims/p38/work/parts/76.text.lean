section
/-! THE TEXT: tokens -/
def inr (tp : List Nat) (lo hi p : Nat) : Bool := match tp[p]? with
  | some b => decide (lo ≤ b) && decide (b ≤ hi)
  | none => false
def rn (tp : List Nat) (lo hi : Nat) : Nat → Nat → Nat
  | 0, p => p
  | k + 1, p => if inr tp lo hi p then rn tp lo hi k (p + 1) else p
def nv (tp : List Nat) : Nat → Nat → Nat → Nat
  | 0, _, v => v
  | k + 1, p, v => if inr tp 48 57 p then nv tp k (p + 1) (10 * v + tp.getD p 0 - 48) else v
theorem inr_lt {tp : List Nat} {lo hi p : Nat} (h : inr tp lo hi p = true) : p < tp.length := by
  unfold inr at h
  split at h
  · rename_i b e
    exact (List.getElem?_eq_some_iff.mp e).1
  · exact absurd h Bool.false_ne_true
theorem inr_p {tp : List Nat} {lo hi p : Nat} (h : inr tp lo hi p = true) : lo ≤ tp.getD p 0 ∧ tp.getD p 0 ≤ hi := by
  have hp := inr_lt h
  unfold inr at h
  rw [getD_some hp] at h
  dsimp only at h
  rw [Bool.and_eq_true] at h
  exact ⟨of_decide_eq_true h.1, of_decide_eq_true h.2⟩
theorem rn_le {tp : List Nat} {lo hi : Nat} : ∀ k p, p ≤ tp.length → p ≤ rn tp lo hi k p ∧ rn tp lo hi k p ≤ tp.length
  | 0, p, h => ⟨Nat.le_refl _, h⟩
  | k + 1, p, h => by
    unfold rn
    split
    · rename_i e
      have := inr_lt e
      have := rn_le (tp := tp) (lo := lo) (hi := hi) k (p + 1) (by omega)
      omega
    · exact ⟨Nat.le_refl _, h⟩
theorem si_self {M : Mem} {a k : Nat} {v : Int32} (h : M.1 a k = v) : si M a k v = M := by
  rw [← h]
  refine Prod.ext ?_ rfl
  funext x y
  show (if x = a ∧ y = k then M.1 a k else M.1 x y) = M.1 x y
  split
  · rename_i e; rw [e.1, e.2]
  · rfl
theorem si_si (M : Mem) (a k : Nat) (v w : Int32) : si (si M a k v) a k w = si M a k w := by
  refine Prod.ext ?_ rfl
  funext x y
  show (if x = a ∧ y = k then _ else (if x = a ∧ y = k then _ else M.1 x y)) = (if x = a ∧ y = k then _ else M.1 x y)
  split <;> rfl
theorem si_swap (M : Mem) {a k b j : Nat} (v w : Int32) (h : a ≠ b ∨ k ≠ j) : si (si M a k v) b j w = si (si M b j w) a k v := by
  refine Prod.ext ?_ rfl
  funext x y
  show (if x = b ∧ y = j then w else (if x = a ∧ y = k then v else M.1 x y)) = (if x = a ∧ y = k then v else (if x = b ∧ y = j then w else M.1 x y))
  by_cases e : x = b ∧ y = j
  · rw [if_pos e]
    by_cases f : x = a ∧ y = k
    · exact absurd (f.1.symm.trans e.1) (fun q => h.elim (fun r => r q) (fun r => r (f.2.symm.trans e.2)))
    · rw [if_neg f, if_pos e]
  · rw [if_neg e, if_neg e]
-- the tape in the class
def XTp (M : Mem) (tp : List Nat) : Prop := M.1 1 1 = nI tp.length ∧ (∀ i x, tp[i]? = some x → M.1 2 i = sB x) ∧ tp.length ≤ 320 ∧ ∀ x ∈ tp, x < 256
def rg_ok (a b : Int32) (lo hi : Nat) : Prop := ∀ x, x < 256 → (((sB x < a) ∨ (b < sB x)) ↔ ¬ (lo ≤ x ∧ x ≤ hi))
theorem rg_az : ∀ x, x < 256 → (((sB x < 97) ∨ (122 < sB x)) ↔ ¬ (97 ≤ x ∧ x ≤ 122)) := by decide +kernel
theorem rg_09 : ∀ x, x < 256 → (((sB x < 48) ∨ (57 < sB x)) ↔ ¬ (48 ≤ x ∧ x ≤ 57)) := by decide +kernel
theorem rg_sg : ∀ x, x < 256 → (((sB x < 59) ∨ (59 < sB x)) ↔ ¬ (59 ≤ x ∧ x ≤ 59)) := by decide +kernel
theorem sb_32 : ∀ x, x < 256 → ((sB x = 32) ↔ (32 ≤ x ∧ x ≤ 32)) := by decide +kernel
theorem sb_48 : ∀ x, x < 256 → 48 ≤ x → x ≤ 57 → sB x = nI x := by decide +kernel
theorem v320 {p : Nat} (h : p < 320) : vp_in (nI p) 320 := vp_in_nI h (by decide)
theorem x_within (n : Nat) {M : Mem} {tp : List Nat} (hT : XTp M tp) {a b : Int32} {lo hi p : Nat} (hr : rg_ok a b lo hi) (hp : p ≤ tp.length) (hat : M.1 3 6 = nI p) : X_Teller_isWithin n a b M = some (if inr tp lo hi p then 1 else 0, M) := by
  obtain ⟨h1, h2, h3, h4⟩ := hT
  unfold X_Teller_isWithin
  rw [h1, hat]
  by_cases e : p < tp.length
  · have hx := getD_some e
    have hb := h4 _ (getD_mem e)
    rw [if_neg (nI_ge e (by omega)), gd_in (v320 (by omega)), gd_in (v320 (by omega)), nI_clamp (by omega), h2 p _ hx]
    have hrr := hr _ hb
    have ei : inr tp lo hi p = (decide (lo ≤ tp.getD p 0) && decide (tp.getD p 0 ≤ hi)) := by unfold inr; rw [hx]
    by_cases q : lo ≤ tp.getD p 0 ∧ tp.getD p 0 ≤ hi
    · rw [if_neg (fun r => hrr.mp (Or.inl r) q), if_neg (fun r => hrr.mp (Or.inr r) q), ei, decide_eq_true q.1, decide_eq_true q.2]
      rfl
    · have ef : inr tp lo hi p = false := by
        rw [ei]
        cases c : (decide (lo ≤ tp.getD p 0) && decide (tp.getD p 0 ≤ hi)) with
        | false => rfl
        | true =>
          rw [Bool.and_eq_true] at c
          exact absurd ⟨of_decide_eq_true c.1, of_decide_eq_true c.2⟩ q
      rw [ef]
      rcases hrr.mpr q with r | r
      · rw [if_pos r]; rfl
      · by_cases r2 : sB (tp.getD p 0) < a
        · rw [if_pos r2]; rfl
        · rw [if_neg r2, if_pos r]; rfl
  · have : tp[p]? = none := List.getElem?_eq_none (by omega)
    rw [if_pos (nI_le (by omega) (by omega))]
    unfold inr
    rw [this]
    rfl
theorem x_blanks (n : Nat) (kx : Mem → Option (Unit × Mem)) {tp : List Nat} : ∀ k p f M, p ≤ tp.length → tp.length ≤ p + k → k < f → XTp M tp → M.1 3 6 = nI p → X_Teller_readToken_L8 n kx f M = kx (si M 3 6 (nI (rn tp 32 32 k p)))
  | k, p, f, M, h1, h2, h3, hT, hat => by
    obtain ⟨f, rfl⟩ : ∃ q, f = q + 1 := ⟨f - 1, by omega⟩
    have hs : si M 3 6 (nI p) = M := by
      rw [← hat]
      refine Prod.ext ?_ rfl
      funext a b
      show (if a = 3 ∧ b = 6 then M.1 3 6 else M.1 a b) = M.1 a b
      split
      · rename_i e; rw [e.1, e.2]
      · rfl
    show (if (M.1 1 1) ≤ (M.1 3 6) then kx M else gd (M.1 3 6) 320 (if (M.1 2 (M.1 3 6).toNatClampNeg) = 32 then X_Teller_readToken_L8 n kx f (si M 3 6 ((M.1 3 6) + 1)) else kx M)) = _
    by_cases e : p < tp.length
    · obtain ⟨k, rfl⟩ : ∃ q, k = q + 1 := ⟨k - 1, by omega⟩
      have hl := hT.2.2.1
      have hx := getD_some e
      have hb := hT.2.2.2 _ (getD_mem e)
      rw [hT.1, hat, if_neg (nI_ge e (by omega)), gd_in (v320 (by omega)), nI_clamp (by omega), hT.2.1 p _ hx, nI_1]
      have ei : inr tp 32 32 p = (decide (32 ≤ tp.getD p 0) && decide (tp.getD p 0 ≤ 32)) := by unfold inr; rw [hx]
      unfold rn
      by_cases q : 32 ≤ tp.getD p 0 ∧ tp.getD p 0 ≤ 32
      · rw [if_pos ((sb_32 _ hb).mpr q), ei, decide_eq_true q.1, decide_eq_true q.2, if_pos (show (true && true) = true from rfl), x_blanks n kx k (p + 1) f (si M 3 6 (nI (p + 1))) (by omega) (by omega) (by omega) hT (si_at _ _ _ _)]
        congr 1
        refine Prod.ext ?_ rfl
        funext a b
        show (if a = 3 ∧ b = 6 then _ else (if a = 3 ∧ b = 6 then _ else M.1 a b)) = (if a = 3 ∧ b = 6 then _ else M.1 a b)
        split <;> rfl
      · have ef : inr tp 32 32 p = false := by
          rw [ei]
          cases c : (decide (32 ≤ tp.getD p 0) && decide (tp.getD p 0 ≤ 32)) with
          | false => rfl
          | true =>
            rw [Bool.and_eq_true] at c
            exact absurd ⟨of_decide_eq_true c.1, of_decide_eq_true c.2⟩ q
        rw [if_neg (fun r => q ((sb_32 _ hb).mp r)), ef, if_neg Bool.false_ne_true, hs]
    · have hl := hT.2.2.1
      have er : rn tp 32 32 k p = p := by
        cases k with
        | zero => rfl
        | succ k =>
          unfold rn
          rw [if_neg (fun q => e (inr_lt q))]
      rw [hT.1, hat, if_pos (nI_le (by omega) (by omega)), er, hs]
theorem x_letters (n : Nat) {tp : List Nat} : ∀ k p f M, p ≤ tp.length → tp.length ≤ p + k → k < f → XTp M tp → M.1 3 6 = nI p → X_Teller_readToken_L98 n f M = some ((), si M 3 6 (nI (rn tp 97 122 k p)))
  | k, p, f, M, h1, h2, h3, hT, hat => by
    obtain ⟨f, rfl⟩ : ∃ q, f = q + 1 := ⟨f - 1, by omega⟩
    show (if (M.1 1 1) ≤ (M.1 3 6) then some ((), M) else bd (X_Teller_isWithin n 97 122 M) fun r18 M19 => (if r18 = 0 then some ((), M19) else X_Teller_readToken_L98 n f (si M19 3 6 ((M19.1 3 6) + 1)))) = _
    have hl := hT.2.2.1
    by_cases e : p < tp.length
    · obtain ⟨k, rfl⟩ : ∃ q, k = q + 1 := ⟨k - 1, by omega⟩
      rw [x_within n hT rg_az h1 hat, bd_ret, hT.1, hat, if_neg (nI_ge e (by omega))]
      unfold rn
      cases ei : inr tp 97 122 p with
      | true =>
        rw [if_neg (show ¬ (if true = true then (1 : Int32) else 0) = 0 by decide), nI_1, x_letters n k (p + 1) f (si M 3 6 (nI (p + 1))) (by omega) (by omega) (by omega) hT (si_at _ _ _ _), si_si, if_pos rfl]
      | false =>
        rw [if_pos (show (if false = true then (1 : Int32) else 0) = 0 from rfl), if_neg Bool.false_ne_true, si_self hat]
    · have er : rn tp 97 122 k p = p := by
        cases k with
        | zero => rfl
        | succ k =>
          unfold rn
          rw [if_neg (fun q => e (inr_lt q))]
      rw [hT.1, hat, if_pos (nI_le (by omega) (by omega)), er, si_self hat]
theorem x_figs (n : Nat) (kx : Mem → Option (Unit × Mem)) {tp : List Nat} : ∀ k p f v M, p ≤ tp.length → tp.length ≤ p + k → k < f → XTp M tp → M.1 3 6 = nI p → M.1 3 9 = nI v → X_Teller_readToken_L157 n kx f M = kx (si (si M 3 9 (nI (nv tp k p v))) 3 6 (nI (rn tp 48 57 k p)))
  | k, p, f, v, M, h1, h2, h3, hT, hat, hv => by
    obtain ⟨f, rfl⟩ : ∃ q, f = q + 1 := ⟨f - 1, by omega⟩
    show (if (M.1 1 1) ≤ (M.1 3 6) then kx M else bd (X_Teller_isWithin n 48 57 M) fun r12 M13 => (if r12 = 0 then kx M13 else gd (M13.1 3 6) 320 (nm (si M13 3 9 ((((10 : Int32) * (M13.1 3 9)) + (M13.1 2 (M13.1 3 6).toNatClampNeg)) - 48)) fun N14 => X_Teller_readToken_L157 n kx f (si N14 3 6 ((N14.1 3 6) + 1))))) = _
    have hl := hT.2.2.1
    by_cases e : p < tp.length
    · obtain ⟨k, rfl⟩ : ∃ q, k = q + 1 := ⟨k - 1, by omega⟩
      rw [x_within n hT rg_09 h1 hat, bd_ret, hT.1, hat, if_neg (nI_ge e (by omega))]
      unfold rn nv
      cases ei : inr tp 48 57 p with
      | true =>
        obtain ⟨i1, i2⟩ := inr_p ei
        have hb := hT.2.2.2 _ (getD_mem e)
        have hx := getD_some e
        rw [if_neg (show ¬ (if true = true then (1 : Int32) else 0) = 0 by decide), gd_in (v320 (by omega)), nI_clamp (by omega), hT.2.1 p _ hx, sb_48 _ hb i1 i2, hv, nm_eq, si_ne (Or.inr (by decide)), hat, nI_1, show (10 : Int32) = nI 10 from rfl, pk_mul, nI_add, show (48 : Int32) = nI 48 from rfl, pk_sub (by omega)]
        rw [x_figs n kx k (p + 1) f (10 * v + tp.getD p 0 - 48) (si (si M 3 9 (nI (10 * v + tp.getD p 0 - 48))) 3 6 (nI (p + 1))) (by omega) (by omega) (by omega) hT (si_at _ _ _ _) (by rw [si_ne (Or.inr (by decide))]; exact si_at _ _ _ _), if_pos rfl, if_pos rfl]
        congr 1
        rw [si_swap (si M 3 9 (nI (10 * v + tp.getD p 0 - 48))) (a := 3) (k := 6) (b := 3) (j := 9) _ _ (Or.inr (by decide)), si_si, si_si]
      | false =>
        rw [if_pos (show (if false = true then (1 : Int32) else 0) = 0 from rfl), if_neg Bool.false_ne_true, if_neg Bool.false_ne_true, si_self hv, si_self hat]
    · have er : rn tp 48 57 k p = p ∧ nv tp k p v = v := by
        cases k with
        | zero => exact ⟨rfl, rfl⟩
        | succ k =>
          unfold rn nv
          rw [if_neg (fun q => e (inr_lt q)), if_neg (fun q => e (inr_lt q))]
          exact ⟨rfl, rfl⟩
      rw [hT.1, hat, if_pos (nI_le (by omega) (by omega)), er.1, er.2, si_self hv, si_self hat]
-- what is read: the fault, where, the kind, the place, the value
abbrev Tk : Type := Nat × Nat × Nat × Nat × Nat
def rdX (tp : List Nat) (s : Tk) : Tk :=
  if s.1 = 0 then
    let q := rn tp 32 32 tp.length s.2.1
    if q < tp.length then
      if inr tp 97 122 q then (0, rn tp 97 122 tp.length q, 1, q, s.2.2.2.2)
      else if inr tp 48 57 q then ((if rn tp 48 57 tp.length q - q ≤ 2 then 0 else 1), rn tp 48 57 tp.length q, 2, q, nv tp tp.length q 0)
      else if inr tp 59 59 q then (0, q + 1, 3, q, s.2.2.2.2)
      else (1, q, s.2.2.1, q, s.2.2.2.2)
    else (0, q, 0, q, s.2.2.2.2)
  else s
def XT (M : Mem) (s : Tk) : Prop := M.1 3 3 = nI s.1 ∧ M.1 3 6 = nI s.2.1 ∧ M.1 3 7 = nI s.2.2.1 ∧ M.1 3 8 = nI s.2.2.2.1 ∧ M.1 3 9 = nI s.2.2.2.2
def xt (c k : Nat) : Prop := c = 3 ∧ (k = 3 ∨ k = 6 ∨ k = 7 ∨ k = 8 ∨ k = 9)
theorem XTp.fr {P : Nat → Nat → Prop} {M M' : Mem} {tp : List Nat} (h : XTp M tp) (ho : Fr P M M') (hp : ∀ c k, P c k → c ≠ 1 ∧ c ≠ 2) : XTp M' tp := ⟨by rw [(ho 1 1 (fun q => (hp _ _ q).1 rfl)).1]; exact h.1, fun i x hi => by rw [(ho 2 i (fun q => (hp _ _ q).2 rfl)).1]; exact h.2.1 i x hi, h.2.2⟩
theorem x_refuse (n f : Nat) (hf : f < 8) {M : Mem} {s : Tk} (hs : s.1 < 8) (h : XT M s) : ∃ M', X_Teller_refuse n (nI f) M = some ((), M') ∧ XT M' (if s.1 = 0 then (f, s.2) else s) ∧ Fr xt M M' := by
  unfold X_Teller_refuse
  rw [h.1]
  by_cases e : s.1 = 0
  · rw [if_pos (by rw [e]; rfl), if_pos e]
    exact ⟨_, rfl, ⟨si_at _ _ _ _, by rw [si_ne (Or.inr (by decide))]; exact h.2.1, by rw [si_ne (Or.inr (by decide))]; exact h.2.2.1, by rw [si_ne (Or.inr (by decide))]; exact h.2.2.2.1, by rw [si_ne (Or.inr (by decide))]; exact h.2.2.2.2⟩, Fr.si ⟨rfl, Or.inl rfl⟩⟩
  · rw [if_neg (fun q => e ((i_z (by omega)).mp q)), if_neg e]
    exact ⟨M, rfl, h, Fr.rf⟩
theorem x_readToken (n : Nat) (hn : 400 ≤ n) {M : Mem} {tp : List Nat} {s : Tk} (hT : XTp M tp) (hs : s.1 < 8) (hp : s.2.1 ≤ tp.length) (h : XT M s) : ∃ M', X_Teller_readToken n M = some ((), M') ∧ XT M' (rdX tp s) ∧ Fr xt M M' := by
  have hl := hT.2.2.1
  unfold X_Teller_readToken rdX
  rw [h.1]
  by_cases e : s.1 = 0
  · rw [if_pos (by rw [e]; rfl), if_pos e]
    obtain ⟨q1, q2⟩ := rn_le (tp := tp) (lo := 32) (hi := 32) tp.length s.2.1 hp
    rw [x_blanks n _ tp.length s.2.1 n M hp (by omega) (by omega) hT h.2.1]
    generalize rn tp 32 32 tp.length s.2.1 = q at q1 q2
    rw [nm_eq]
    generalize hN : si (si M 3 6 (nI q)) 3 8 ((si M 3 6 (nI q)).1 3 6) = N
    have fN : Fr xt M N := by rw [← hN]; exact (Fr.si ⟨rfl, by decide⟩).trans (Fr.si ⟨rfl, by decide⟩)
    have hTN : XTp N tp := hT.fr fN (fun c k q => by unfold xt at q; omega)
    have n3 : N.1 3 3 = 0 := by rw [← hN, si_ne (Or.inr (by decide)), si_ne (Or.inr (by decide)), h.1, e]; rfl
    have n6 : N.1 3 6 = nI q := by rw [← hN, si_ne (Or.inr (by decide))]; exact si_at _ _ _ _
    have n7 : N.1 3 7 = nI s.2.2.1 := by rw [← hN, si_ne (Or.inr (by decide)), si_ne (Or.inr (by decide))]; exact h.2.2.1
    have n8 : N.1 3 8 = nI q := by rw [← hN, si_at]; exact si_at _ _ _ _
    have n9 : N.1 3 9 = nI s.2.2.2.2 := by rw [← hN, si_ne (Or.inr (by decide)), si_ne (Or.inr (by decide))]; exact h.2.2.2.2
    rw [n6, hTN.1]
    dsimp only
    by_cases eq : q < tp.length
    · rw [if_pos (nI_lt eq (by omega)), if_pos eq, x_within n hTN rg_az q2 n6, bd_ret]
      cases e1 : inr tp 97 122 q with
      | true =>
        rw [if_neg (show ¬ (if true = true then (1 : Int32) else 0) = 0 by decide), if_pos rfl, x_letters n tp.length q n (si N 3 7 1) q2 (by omega) (by omega) hTN n6]
        exact ⟨_, rfl, ⟨n3, si_at _ _ _ _, rfl, n8, n9⟩, fN.trans ((Fr.si ⟨rfl, by decide⟩).trans (Fr.si ⟨rfl, by decide⟩))⟩
      | false =>
        rw [if_pos (show (if false = true then (1 : Int32) else 0) = 0 from rfl), if_neg Bool.false_ne_true, x_within n hTN rg_09 q2 n6, bd_ret]
        cases e2 : inr tp 48 57 q with
        | true =>
          have hr := rn_le (tp := tp) (lo := 48) (hi := 57) tp.length q q2
          rw [if_neg (show ¬ (if true = true then (1 : Int32) else 0) = 0 by decide), if_pos rfl, x_figs n _ tp.length q n 0 (si (si N 3 7 2) 3 9 0) q2 (by omega) (by omega) hTN n6 rfl]
          generalize rn tp 48 57 tp.length q = a at hr
          generalize nv tp tp.length q 0 = v
          have e36 : (si (si (si (si N 3 7 2) 3 9 0) 3 9 (nI v)) 3 6 (nI a)).1 3 6 = nI a := si_at _ _ _ _
          have e38 : (si (si (si (si N 3 7 2) 3 9 0) 3 9 (nI v)) 3 6 (nI a)).1 3 8 = nI q := n8
          have fA : Fr xt N (si (si (si (si N 3 7 2) 3 9 0) 3 9 (nI v)) 3 6 (nI a)) := (((Fr.si ⟨rfl, by decide⟩).trans (Fr.si ⟨rfl, by decide⟩)).trans (Fr.si ⟨rfl, by decide⟩)).trans (Fr.si ⟨rfl, by decide⟩)
          rw [e36, e38, pk_sub hr.1]
          by_cases e3 : a - q ≤ 2
          · rw [if_pos (show nI (a - q) ≤ 2 from nI_le (b := 2) e3 (by decide)), if_pos e3]
            exact ⟨_, rfl, ⟨n3, e36, rfl, e38, rfl⟩, fN.trans fA⟩
          · rw [if_neg (show ¬ nI (a - q) ≤ 2 from nI_ge (a := 2) (by omega) (by omega)), if_neg e3]
            obtain ⟨M', b1, b2, b3⟩ := x_refuse n 1 (by decide) (M := si (si (si (si N 3 7 2) 3 9 0) 3 9 (nI v)) 3 6 (nI a)) (s := (0, a, 2, q, v)) (show 0 < 8 by decide) ⟨n3, e36, rfl, e38, rfl⟩
            rw [show X_Teller_refuse n 1 (si (si (si (si N 3 7 2) 3 9 0) 3 9 (nI v)) 3 6 (nI a)) = _ from b1, bd_ret]
            exact ⟨M', rfl, b2, (fN.trans fA).trans b3⟩
        | false =>
          rw [if_pos (show (if false = true then (1 : Int32) else 0) = 0 from rfl), if_neg Bool.false_ne_true, x_within n hTN rg_sg q2 n6, bd_ret]
          cases e3 : inr tp 59 59 q with
          | true =>
            rw [if_neg (show ¬ (if true = true then (1 : Int32) else 0) = 0 by decide), if_pos rfl, nm_eq]
            exact ⟨_, rfl, ⟨n3, by rw [si_at, si_ne (Or.inr (by decide)), n6, nI_1], rfl, n8, n9⟩, fN.trans ((Fr.si ⟨rfl, by decide⟩).trans (Fr.si ⟨rfl, by decide⟩))⟩
          | false =>
            rw [if_pos (show (if false = true then (1 : Int32) else 0) = 0 from rfl), if_neg Bool.false_ne_true]
            obtain ⟨M', b1, b2, b3⟩ := x_refuse n 1 (by decide) (M := N) (s := (0, q, s.2.2.1, q, s.2.2.2.2)) (show 0 < 8 by decide) ⟨n3, n6, n7, n8, n9⟩
            rw [show X_Teller_refuse n 1 N = _ from b1, bd_ret]
            exact ⟨M', rfl, b2, fN.trans b3⟩
    · rw [if_neg (Int32.not_lt.mpr (nI_le (by omega) (by omega))), if_neg eq]
      exact ⟨_, rfl, ⟨n3, n6, rfl, n8, n9⟩, fN.trans (Fr.si ⟨rfl, by decide⟩)⟩
  · rw [if_neg (fun q => e ((i_z (by omega)).mp q)), if_neg e]
    exact ⟨M, rfl, h, Fr.rf⟩
end
section
/-! THE TEXT: the reference's tokens -/
def MTp (M : Mem) (tp : List Nat) : Prop := M.1 0 26 = nI tp.length ∧ (∀ i x, tp[i]? = some x → M.1 14 i = nI x) ∧ tp.length ≤ 320 ∧ ∀ x ∈ tp, x < 256
theorem MTp.fr {P : Nat → Nat → Prop} {M M' : Mem} {tp : List Nat} (h : MTp M tp) (ho : Fr P M M') (hp : ∀ c k, P c k → c ≠ 14 ∧ ¬ (c = 0 ∧ k = 26)) : MTp M' tp := ⟨by rw [(ho 0 26 (fun q => (hp _ _ q).2 ⟨rfl, rfl⟩)).1]; exact h.1, fun i x hi => by rw [(ho 14 i (fun q => (hp _ _ q).1 rfl)).1]; exact h.2.1 i x hi, h.2.2⟩
def lk (tp : List Nat) (k : Nat) : Int32 := match tp[k]? with
  | some b => nI b
  | none => -1
theorem m_look' (n : Nat) {M : Mem} {tp : List Nat} (hT : MTp M tp) {k : Nat} (hk : k < 2 ^ 31) : X_Model_look n (nI k) M = some (lk tp k, M) := by
  obtain ⟨h1, h2, h3, h4⟩ := hT
  unfold X_Model_look lk
  rw [h1]
  by_cases e : k < tp.length
  · have hx := getD_some e
    rw [if_neg (nI_ge e (by omega)), gd_in (v320 (by omega)), nI_clamp hk, h2 k _ hx, hx]
  · have : tp[k]? = none := List.getElem?_eq_none (by omega)
    rw [if_pos (nI_le (by omega) hk), this]
theorem lk_in {tp : List Nat} (h4 : ∀ x ∈ tp, x < 256) {lo hi k : Nat} (hlo : lo < 256) (hhi : hi < 256) (n : Nat) (M : Mem) : X_Model_in n (lk tp k).toInt64 (nI lo).toInt64 (nI hi).toInt64 M = some (if inr tp lo hi k then 1 else 0, M) := by
  rw [m_in]
  unfold lk inr
  cases e : tp[k]? with
  | none =>
    dsimp only
    rw [if_neg (fun q => absurd q.1 (Int32.not_le.mpr (Int32.lt_of_lt_of_le (by decide : (-1 : Int32) < 0) (Int32.not_lt.mp (nI_pos (by omega)))))), if_neg Bool.false_ne_true]
  | some b =>
    have hb := h4 b (List.mem_of_getElem? e)
    dsimp only
    by_cases q : lo ≤ b ∧ b ≤ hi
    · rw [if_pos ⟨nI_le q.1 (by omega), nI_le q.2 (by omega)⟩, if_pos (by rw [Bool.and_eq_true]; exact ⟨decide_eq_true q.1, decide_eq_true q.2⟩)]
    · rw [if_neg (fun r => q ⟨Nat.not_lt.mp (fun s => absurd r.1 (nI_ge s (by omega))), Nat.not_lt.mp (fun s => absurd r.2 (nI_ge s (by omega)))⟩), if_neg]
      intro c
      rw [Bool.and_eq_true] at c
      exact q ⟨of_decide_eq_true c.1, of_decide_eq_true c.2⟩
theorem lk_eq {tp : List Nat} (h4 : ∀ x ∈ tp, x < 256) {b k : Nat} (hb : b < 256) : (lk tp k = nI b) ↔ inr tp b b k = true := by
  unfold lk inr
  cases e : tp[k]? with
  | none =>
    dsimp only
    constructor
    · intro q
      have : (-1 : Int32) < 0 := by decide
      rw [q] at this
      exact absurd this (nI_pos (by omega))
    · intro q; exact absurd q Bool.false_ne_true
  | some x =>
    have hx := h4 x (List.mem_of_getElem? e)
    dsimp only
    rw [nI_eq (by omega) (by omega), Bool.and_eq_true, decide_eq_true_iff, decide_eq_true_iff]
    omega
theorem lk_0 {tp : List Nat} {k : Nat} (h4 : ∀ x ∈ tp, x < 256) : (0 ≤ lk tp k) ↔ k < tp.length := by
  unfold lk
  by_cases e : k < tp.length
  · have hx := getD_some e
    have hb := h4 _ (getD_mem e)
    rw [hx]
    exact ⟨fun _ => e, fun _ => Int32.not_lt.mp (nI_pos (by omega))⟩
  · have : tp[k]? = none := List.getElem?_eq_none (by omega)
    rw [this]
    exact ⟨fun q => absurd q (by decide), fun q => absurd q e⟩
theorem rn_end {tp : List Nat} {lo hi k p : Nat} (e : ¬ p < tp.length) : rn tp lo hi k p = p := by
  cases k with
  | zero => rfl
  | succ k =>
    unfold rn
    rw [if_neg (fun q => e (inr_lt q))]
theorem m_blanks (n : Nat) (kx : Mem → Option (Unit × Mem)) {tp : List Nat} : ∀ k p f M, p ≤ tp.length → tp.length ≤ p + k → k < f → MTp M tp → M.1 0 27 = nI p → X_Model_next_L8 n kx f M = kx (si M 0 27 (nI (rn tp 32 32 k p)))
  | k, p, f, M, h1, h2, h3, hT, hat => by
    obtain ⟨f, rfl⟩ : ∃ q, f = q + 1 := ⟨f - 1, by omega⟩
    have hl := hT.2.2.1
    show bd (X_Model_look n (M.1 0 27) M) (fun r1 M2 => (if r1 = 32 then X_Model_next_L8 n kx f (si M2 0 27 ((M2.1 0 27) + 1)) else kx M2)) = _
    rw [hat, m_look' n hT (by omega), bd_ret]
    have hq := lk_eq hT.2.2.2 (b := 32) (k := p) (by decide)
    by_cases e : p < tp.length
    · obtain ⟨k, rfl⟩ : ∃ q, k = q + 1 := ⟨k - 1, by omega⟩
      unfold rn
      by_cases ei : inr tp 32 32 p = true
      · rw [if_pos (show lk tp p = 32 from hq.mpr ei), hat, nI_1, if_pos ei, m_blanks n kx k (p + 1) f (si M 0 27 (nI (p + 1))) (by omega) (by omega) (by omega) (hT.fr (P := fun c k => c = 0 ∧ k = 27) (Fr.si ⟨rfl, rfl⟩) (fun c k q => by omega)) (si_at _ _ _ _), si_si]
      · rw [if_neg (show ¬ lk tp p = 32 from fun q => ei (hq.mp q)), if_neg ei, si_self hat]
    · rw [if_neg (show ¬ lk tp p = 32 from fun q => e (inr_lt (hq.mp q))), rn_end e, si_self hat]
theorem m_letters (n : Nat) {tp : List Nat} : ∀ k p f M, p ≤ tp.length → tp.length ≤ p + k → k < f → MTp M tp → M.1 0 27 = nI p → X_Model_next_L82 n f M = some ((), si M 0 27 (nI (rn tp 97 122 k p)))
  | k, p, f, M, h1, h2, h3, hT, hat => by
    obtain ⟨f, rfl⟩ : ∃ q, f = q + 1 := ⟨f - 1, by omega⟩
    have hl := hT.2.2.1
    show bd (X_Model_look n (M.1 0 27) M) (fun r28 M29 => bd (X_Model_in n r28.toInt64 97 122 M29) fun r30 M31 => (if r30 = 0 then some ((), M31) else X_Model_next_L82 n f (si M31 0 27 ((M31.1 0 27) + 1)))) = _
    rw [hat, m_look' n hT (by omega), bd_ret, show X_Model_in n (lk tp p).toInt64 97 122 M = _ from lk_in hT.2.2.2 (lo := 97) (hi := 122) (by decide) (by decide) n M, bd_ret]
    by_cases e : p < tp.length
    · obtain ⟨k, rfl⟩ : ∃ q, k = q + 1 := ⟨k - 1, by omega⟩
      unfold rn
      by_cases ei : inr tp 97 122 p = true
      · rw [if_pos ei, if_neg i10, hat, nI_1, if_pos ei, m_letters n k (p + 1) f (si M 0 27 (nI (p + 1))) (by omega) (by omega) (by omega) (hT.fr (P := fun c k => c = 0 ∧ k = 27) (Fr.si ⟨rfl, rfl⟩) (fun c k q => by omega)) (si_at _ _ _ _), si_si]
      · rw [if_neg ei, if_pos rfl, if_neg ei, si_self hat]
    · rw [if_neg (fun q => e (inr_lt q)), if_pos rfl, rn_end e, si_self hat]
def nm2 (tp : List Nat) (q : Nat) : Nat → Nat → Nat → Nat
  | 0, _, v => v
  | k + 1, p, v => if inr tp 48 57 p then nm2 tp q k (p + 1) (if 2 ≤ p - q then v else 10 * v + tp.getD p 0 - 48) else v
theorem m_figs (n : Nat) (kx : Mem → Option (Unit × Mem)) {tp : List Nat} {q : Nat} : ∀ k p f v M, q ≤ p → p ≤ tp.length → tp.length ≤ p + k → k < f → MTp M tp → M.1 0 27 = nI p → M.1 0 28 = nI q → M.1 0 30 = nI v → X_Model_next_L140 n kx f M = kx (si (si M 0 30 (nI (nm2 tp q k p v))) 0 27 (nI (rn tp 48 57 k p)))
  | k, p, f, v, M, h0, h1, h2, h3, hT, hat, hpl, hv => by
    obtain ⟨f, rfl⟩ : ∃ q, f = q + 1 := ⟨f - 1, by omega⟩
    have hl := hT.2.2.1
    show bd (X_Model_look n (M.1 0 27) M) (fun r15 M16 => bd (X_Model_in n r15.toInt64 48 57 M16) fun r17 M18 => (if r17 = 0 then kx M18 else nm (fun (u19 : Int32) (M20 : Mem) => (nm (si M20 0 30 u19) fun N21 => X_Model_next_L140 n kx f (si N21 0 27 ((N21.1 0 27) + 1)) : Option (Unit × Mem))) fun k201 => (if 2 ≤ ((M18.1 0 27) - (M18.1 0 28)) then k201 (M18.1 0 30) M18 else bd (X_Model_look n (M18.1 0 27) M18) fun r22 M23 => k201 ((((10 : Int32) * (M18.1 0 30)) + r22) - 48) M23))) = _
    rw [hat, m_look' n hT (by omega), bd_ret, show X_Model_in n (lk tp p).toInt64 48 57 M = _ from lk_in hT.2.2.2 (lo := 48) (hi := 57) (by decide) (by decide) n M, bd_ret]
    by_cases e : p < tp.length
    · obtain ⟨k, rfl⟩ : ∃ q, k = q + 1 := ⟨k - 1, by omega⟩
      unfold rn nm2
      by_cases ei : inr tp 48 57 p = true
      · obtain ⟨i1, i2⟩ := inr_p ei
        have el : lk tp p = nI (tp.getD p 0) := by unfold lk; rw [getD_some e]
        have step : ∀ w, X_Model_next_L140 n kx f (si (si M 0 30 (nI w)) 0 27 (nI (p + 1))) = kx (si (si M 0 30 (nI (nm2 tp q k (p + 1) w))) 0 27 (nI (rn tp 48 57 k (p + 1)))) := fun w => by
          rw [m_figs n kx k (p + 1) f w (si (si M 0 30 (nI w)) 0 27 (nI (p + 1))) (by omega) (by omega) (by omega) (by omega) (hT.fr (P := fun c k => c = 0 ∧ (k = 27 ∨ k = 30)) ((Fr.si ⟨rfl, Or.inr rfl⟩).trans (Fr.si ⟨rfl, Or.inl rfl⟩)) (fun c k q => by omega)) (si_at _ _ _ _) hpl rfl]
          congr 1
          rw [si_swap (si M 0 30 (nI w)) (a := 0) (k := 27) (b := 0) (j := 30) _ _ (Or.inr (by decide)), si_si, si_si]
        rw [if_pos ei, if_neg i10, nm_eq, hat, hpl, pk_sub h0, if_pos ei, if_pos ei]
        by_cases e2 : 2 ≤ p - q
        · rw [if_pos (show (2 : Int32) ≤ nI (p - q) from nI_le (a := 2) e2 (by omega)), if_pos e2]
          dsimp only
          rw [nm_eq, hv, si_ne (Or.inr (by decide)), hat, nI_1]
          exact step v
        · rw [if_neg (show ¬ (2 : Int32) ≤ nI (p - q) from nI_ge (b := 2) (by omega) (by decide)), if_neg e2, m_look' n hT (by omega), bd_ret]
          dsimp only
          rw [nm_eq, hv, el, show (10 : Int32) = nI 10 from rfl, pk_mul, nI_add, show (48 : Int32) = nI 48 from rfl, pk_sub (by omega), si_ne (Or.inr (by decide)), hat, nI_1]
          exact step _
      · rw [if_neg ei, if_pos rfl, if_neg ei, if_neg ei, si_self hv, si_self hat]
    · have er : nm2 tp q k p v = v := by
        cases k with
        | zero => rfl
        | succ k => unfold nm2; rw [if_neg (fun q => e (inr_lt q))]
      rw [if_neg (fun q => e (inr_lt q)), if_pos rfl, rn_end e, er, si_self hv, si_self hat]
-- the fault, its place; where, the place, the kind, the value
abbrev Tm : Type := Nat × Nat × Nat × Nat × Nat × Nat
def MT (M : Mem) (s : Tm) : Prop := M.1 0 31 = nI s.1 ∧ M.1 0 32 = nI s.2.1 ∧ M.1 0 27 = nI s.2.2.1 ∧ M.1 0 28 = nI s.2.2.2.1 ∧ M.1 0 29 = nI s.2.2.2.2.1 ∧ M.1 0 30 = nI s.2.2.2.2.2
def mt (c k : Nat) : Prop := c = 0 ∧ 27 ≤ k ∧ k ≤ 32
theorem mt_at {c k : Nat} (h : mt c k) : c = 0 ∧ 27 ≤ k ∧ k ≤ 32 := h
def ned (ok : Bool) (f : Nat) (s : Tm) : Tm := if ok then s else if s.1 = 0 then (f, s.2.2.2.1, s.2.2) else s
theorem m_needs (n : Nat) {p1 : Int32} {ok : Bool} (hok : p1 = 0 ↔ ok = false) (f : Nat) {M : Mem} {s : Tm} (hs : s.1 < 8) (h : MT M s) : ∃ M', X_Model_needs n p1 (nI f) M = some ((), M') ∧ MT M' (ned ok f s) ∧ Fr mt M M' := by
  unfold X_Model_needs ned
  cases ok with
  | true =>
    rw [if_neg (fun q => absurd (hok.mp q) (by decide)), if_pos rfl]
    exact ⟨M, rfl, h, Fr.rf⟩
  | false =>
    rw [if_pos (hok.mpr rfl), h.1, if_neg Bool.false_ne_true]
    by_cases e : s.1 = 0
    · rw [if_pos (by rw [e]; rfl), if_pos e, nm_eq]
      exact ⟨_, rfl, ⟨by rw [si_ne (Or.inr (by decide))]; exact si_at _ _ _ _, by rw [si_at, si_ne (Or.inr (by decide))]; exact h.2.2.2.1, h.2.2.1, h.2.2.2.1, h.2.2.2.2.1, h.2.2.2.2.2⟩, (Fr.si ⟨rfl, by decide⟩).trans (Fr.si ⟨rfl, by decide⟩)⟩
    · rw [if_neg (fun q => e ((i_z (by omega)).mp q)), if_neg e]
      exact ⟨M, rfl, h, Fr.rf⟩
def rdM (tp : List Nat) (s : Tm) : Tm :=
  if s.1 = 0 then
    let q := rn tp 32 32 tp.length s.2.2.1
    if q < tp.length then
      if inr tp 97 122 q then (0, s.2.1, rn tp 97 122 tp.length q, q, 1, s.2.2.2.2.2)
      else if inr tp 48 57 q then ned (decide (rn tp 48 57 tp.length q - q ≤ 2)) 1 (0, s.2.1, rn tp 48 57 tp.length q, q, 2, nm2 tp q tp.length q 0)
      else ((ned (inr tp 59 59 q) 1 (0, s.2.1, q, q, 3, s.2.2.2.2.2)).1, (ned (inr tp 59 59 q) 1 (0, s.2.1, q, q, 3, s.2.2.2.2.2)).2.1, q + 1, q, 3, s.2.2.2.2.2)
    else (0, s.2.1, q, q, 0, s.2.2.2.2.2)
  else s
theorem ned_at {ok : Bool} {f : Nat} {s : Tm} : (ned ok f s).2.2 = s.2.2 := by
  unfold ned
  split
  · rfl
  · split <;> rfl
theorem m_next (n : Nat) (hn : 400 ≤ n) {M : Mem} {tp : List Nat} {s : Tm} (hT : MTp M tp) (hs : s.1 < 8) (hp : s.2.2.1 ≤ tp.length) (h : MT M s) : ∃ M', X_Model_next n M = some ((), M') ∧ MT M' (rdM tp s) ∧ Fr mt M M' := by
  have hl := hT.2.2.1
  unfold X_Model_next rdM
  rw [h.1]
  by_cases e : s.1 = 0
  · rw [if_pos (by rw [e]; exact Int32.le_refl _), if_pos e]
    obtain ⟨q1, q2⟩ := rn_le (tp := tp) (lo := 32) (hi := 32) tp.length s.2.2.1 hp
    rw [m_blanks n _ tp.length s.2.2.1 n M hp (by omega) (by omega) hT h.2.2.1]
    generalize rn tp 32 32 tp.length s.2.2.1 = q at q1 q2
    rw [nm_eq]
    generalize hN : si (si M 0 27 (nI q)) 0 28 ((si M 0 27 (nI q)).1 0 27) = N
    have fN : Fr mt M N := by rw [← hN]; exact (Fr.si ⟨rfl, by decide⟩).trans (Fr.si ⟨rfl, by decide⟩)
    have hTN : MTp N tp := hT.fr fN (fun c k q => by unfold mt at q; omega)
    have n31 : N.1 0 31 = 0 := by rw [← hN, si_ne (Or.inr (by decide)), si_ne (Or.inr (by decide)), h.1, e]; rfl
    have n32 : N.1 0 32 = nI s.2.1 := by rw [← hN, si_ne (Or.inr (by decide)), si_ne (Or.inr (by decide))]; exact h.2.1
    have n27 : N.1 0 27 = nI q := by rw [← hN, si_ne (Or.inr (by decide))]; exact si_at _ _ _ _
    have n28 : N.1 0 28 = nI q := by rw [← hN, si_at]; exact si_at _ _ _ _
    have n30 : N.1 0 30 = nI s.2.2.2.2.2 := by rw [← hN, si_ne (Or.inr (by decide)), si_ne (Or.inr (by decide))]; exact h.2.2.2.2.2
    rw [n27, m_look' n hTN (by omega), bd_ret]
    dsimp only
    have h0 := lk_0 (tp := tp) (k := q) hT.2.2.2
    by_cases eq : q < tp.length
    · rw [if_pos (h0.mpr eq), if_pos eq, show X_Model_in n (lk tp q).toInt64 97 122 N = _ from lk_in hT.2.2.2 (lo := 97) (hi := 122) (by decide) (by decide) n N, bd_ret]
      cases e1 : inr tp 97 122 q with
      | true =>
        rw [if_pos rfl, if_neg i10, if_pos rfl, m_letters n tp.length q n (si N 0 29 1) q2 (by omega) (by omega) (hTN.fr (P := mt) (Fr.si ⟨rfl, by decide⟩) (fun c k q => by unfold mt at q; omega)) n27]
        exact ⟨_, rfl, ⟨n31, n32, si_at _ _ _ _, n28, rfl, n30⟩, fN.trans ((Fr.si ⟨rfl, by decide⟩).trans (Fr.si ⟨rfl, by decide⟩))⟩
      | false =>
        rw [if_neg Bool.false_ne_true, if_pos rfl, if_neg Bool.false_ne_true, show X_Model_in n (lk tp q).toInt64 48 57 N = _ from lk_in hT.2.2.2 (lo := 48) (hi := 57) (by decide) (by decide) n N, bd_ret]
        cases e2 : inr tp 48 57 q with
        | true =>
          have hr := rn_le (tp := tp) (lo := 48) (hi := 57) tp.length q q2
          rw [if_pos rfl, if_neg i10, if_pos rfl, m_figs n _ tp.length q n 0 (si (si N 0 29 2) 0 30 0) (Nat.le_refl q) q2 (by omega) (by omega) (hTN.fr (P := mt) ((Fr.si ⟨rfl, by decide⟩).trans (Fr.si ⟨rfl, by decide⟩)) (fun c k q => by unfold mt at q; omega)) n27 n28 rfl]
          generalize rn tp 48 57 tp.length q = a at hr
          generalize nm2 tp q tp.length q 0 = v
          generalize hA : si (si (si (si N 0 29 2) 0 30 0) 0 30 (nI v)) 0 27 (nI a) = A
          have a27 : A.1 0 27 = nI a := by rw [← hA]; exact si_at _ _ _ _
          have a28 : A.1 0 28 = nI q := by rw [← hA]; exact n28
          have a31 : A.1 0 31 = nI 0 := by rw [← hA]; exact n31
          have a32 : A.1 0 32 = nI s.2.1 := by rw [← hA]; exact n32
          have a29 : A.1 0 29 = nI 2 := by rw [← hA]; rfl
          have a30 : A.1 0 30 = nI v := by rw [← hA]; rfl
          have fA : Fr mt N A := by rw [← hA]; exact (((Fr.si ⟨rfl, by decide⟩).trans (Fr.si ⟨rfl, by decide⟩)).trans (Fr.si ⟨rfl, by decide⟩)).trans (Fr.si ⟨rfl, by decide⟩)
          rw [a27, a28, pk_sub hr.1, nm_eq]
          have hA6 : MT A (0, s.2.1, a, q, 2, v) := ⟨a31, a32, a27, a28, a29, a30⟩
          by_cases e3 : a - q ≤ 2
          · rw [if_neg (show ¬ (2 : Int32) < nI (a - q) from Int32.not_lt.mpr (nI_le (b := 2) e3 (by decide)))]
            obtain ⟨M', b1, b2, b3⟩ := m_needs n (p1 := 1) (ok := decide (a - q ≤ 2)) (by rw [decide_eq_true e3]; decide) 1 (show (0, s.2.1, a, q, 2, v).1 < 8 by show 0 < 8; decide) hA6
            dsimp only
            rw [show X_Model_needs n 1 1 A = _ from b1, bd_ret]
            exact ⟨M', rfl, b2, (fN.trans fA).trans b3⟩
          · rw [if_pos (show (2 : Int32) < nI (a - q) from nI_lt (a := 2) (by omega) (by omega))]
            obtain ⟨M', b1, b2, b3⟩ := m_needs n (p1 := 0) (ok := decide (a - q ≤ 2)) (by rw [decide_eq_false e3]; decide) 1 (show (0, s.2.1, a, q, 2, v).1 < 8 by show 0 < 8; decide) hA6
            dsimp only
            rw [show X_Model_needs n 0 1 A = _ from b1, bd_ret]
            exact ⟨M', rfl, b2, (fN.trans fA).trans b3⟩
        | false =>
          rw [if_neg Bool.false_ne_true, if_pos rfl, if_neg Bool.false_ne_true, nm_eq, nm_eq]
          have hB6 : MT (si N 0 29 3) (0, s.2.1, q, q, 3, s.2.2.2.2.2) := ⟨n31, n32, n27, n28, rfl, n30⟩
          have fB : Fr mt N (si N 0 29 3) := Fr.si ⟨rfl, by decide⟩
          have h59 := lk_eq hT.2.2.2 (b := 59) (k := q) (by decide)
          have fin : ∀ (p1 : Int32), (p1 = 0 ↔ inr tp 59 59 q = false) → ∃ M', (bd (X_Model_needs n p1 1 (si N 0 29 3)) fun _ M14 => some ((), si M14 0 27 ((M14.1 0 27) + 1))) = some ((), M') ∧ MT M' ((ned (inr tp 59 59 q) 1 (0, s.2.1, q, q, 3, s.2.2.2.2.2)).1, (ned (inr tp 59 59 q) 1 (0, s.2.1, q, q, 3, s.2.2.2.2.2)).2.1, q + 1, q, 3, s.2.2.2.2.2) ∧ Fr mt M M' := by
            intro p1 hp1
            obtain ⟨M', b1, b2, b3⟩ := m_needs n hp1 1 (show (0, s.2.1, q, q, 3, s.2.2.2.2.2).1 < 8 by show 0 < 8; decide) hB6
            obtain ⟨d1, d2, d3, d4, d5, d6⟩ := b2
            rw [ned_at] at d3 d4 d5 d6
            rw [show X_Model_needs n p1 1 (si N 0 29 3) = _ from b1, bd_ret, d3]
            refine ⟨_, rfl, ⟨d1, d2, by rw [si_at, nI_1], d4, d5, d6⟩, ((fN.trans fB).trans b3).trans (Fr.si ⟨rfl, by decide⟩)⟩
          by_cases e3 : inr tp 59 59 q = true
          · rw [if_pos (show lk tp q = 59 from h59.mpr e3)]
            exact fin 1 (by rw [e3]; decide)
          · rw [if_neg (show ¬ lk tp q = 59 from fun r => e3 (h59.mp r))]
            exact fin 0 (by rw [Bool.eq_false_iff.mpr e3]; decide)
    · rw [if_neg (fun r => eq (h0.mp r)), if_neg eq]
      exact ⟨_, rfl, ⟨n31, n32, n27, n28, rfl, n30⟩, fN.trans (Fr.si ⟨rfl, by decide⟩)⟩
  · rw [if_neg (show ¬ nI s.1 ≤ 0 from nI_ge (a := 0) (by omega) (by omega)), if_neg e]
    exact ⟨M, rfl, h, Fr.rf⟩
end
section
/-! THE TEXT: both sides' tokens alike -/
theorem nv_lt {tp : List Nat} : ∀ k p v, nv tp k p v + 1 ≤ (v + 1) * 10 ^ (rn tp 48 57 k p - p)
  | 0, p, v => by show v + 1 ≤ (v + 1) * 10 ^ (p - p); rw [Nat.sub_self]; omega
  | k + 1, p, v => by
    unfold nv rn
    by_cases e : inr tp 48 57 p = true
    · rw [if_pos e, if_pos e]
      obtain ⟨i1, i2⟩ := inr_p e
      have ih := nv_lt (tp := tp) k (p + 1) (10 * v + tp.getD p 0 - 48)
      have hr := rn_le (tp := tp) (lo := 48) (hi := 57) k (p + 1) (inr_lt e)
      generalize rn tp 48 57 k (p + 1) = a at ih hr
      rw [show a - p = (a - (p + 1)) + 1 by omega, Nat.pow_succ]
      refine Nat.le_trans ih ?_
      rw [show (v + 1) * (10 ^ (a - (p + 1)) * 10) = ((v + 1) * 10) * 10 ^ (a - (p + 1)) by rw [Nat.mul_assoc, Nat.mul_comm 10]]
      exact Nat.mul_le_mul_right _ (by omega)
    · rw [if_neg e, if_neg e, Nat.sub_self]; omega
theorem nm2_nv {tp : List Nat} {q : Nat} : ∀ k p v, rn tp 48 57 k p - q ≤ 2 → nm2 tp q k p v = nv tp k p v
  | 0, p, v, _ => rfl
  | k + 1, p, v, h => by
    unfold nm2 nv
    by_cases e : inr tp 48 57 p = true
    · unfold rn at h
      rw [if_pos e] at h
      have hr := rn_le (tp := tp) (lo := 48) (hi := 57) k (p + 1) (inr_lt e)
      rw [if_pos e, if_pos e, if_neg (by omega)]
      exact nm2_nv k (p + 1) _ h
    · rw [if_neg e, if_neg e]
theorem rn_two {tp : List Nat} {q k : Nat} (h : rn tp 48 57 k q - q ≤ 2) : nv tp k q 0 < 100 := by
  have := nv_lt (tp := tp) k q 0
  have h2 : 10 ^ (rn tp 48 57 k q - q) ≤ 10 ^ 2 := Nat.pow_le_pow_right (by decide) h
  omega
def OkT (tp : List Nat) (s : Tk) : Prop := s.1 < 8 ∧ s.2.1 ≤ tp.length ∧ (s.1 = 0 → s.2.2.1 = 2 → s.2.2.2.2 < 100) ∧ s.2.2.1 < 4
theorem rdX_ok {tp : List Nat} {s : Tk} (h : OkT tp s) : OkT tp (rdX tp s) := by
  unfold rdX
  by_cases e : s.1 = 0
  · rw [if_pos e]
    obtain ⟨q1, q2⟩ := rn_le (tp := tp) (lo := 32) (hi := 32) tp.length s.2.1 h.2.1
    generalize rn tp 32 32 tp.length s.2.1 = q at q1 q2
    dsimp only
    by_cases eq : q < tp.length
    · rw [if_pos eq]
      by_cases e1 : inr tp 97 122 q = true
      · rw [if_pos e1]
        exact ⟨by show 0 < 8; decide, (rn_le _ _ q2).2, fun _ (q : 1 = 2) => absurd q (by decide), by show 1 < 4; decide⟩
      · rw [if_neg e1]
        by_cases e2 : inr tp 48 57 q = true
        · rw [if_pos e2]
          refine ⟨?_, (rn_le _ _ q2).2, fun a _ => ?_, by show 2 < 4; decide⟩
          · show (if rn tp 48 57 tp.length q - q ≤ 2 then 0 else 1) < 8
            split <;> decide
          · have a : (if rn tp 48 57 tp.length q - q ≤ 2 then 0 else 1) = 0 := a
            split at a
            · rename_i c; exact rn_two c
            · exact absurd a (by decide)
        · rw [if_neg e2]
          by_cases e3 : inr tp 59 59 q = true
          · rw [if_pos e3]
            exact ⟨by show 0 < 8; decide, eq, fun _ (q : 3 = 2) => absurd q (by decide), by show 3 < 4; decide⟩
          · rw [if_neg e3]
            exact ⟨by show 1 < 8; decide, q2, fun (a : 1 = 0) => absurd a (by decide), h.2.2.2⟩
    · rw [if_neg eq]
      exact ⟨by show 0 < 8; decide, q2, fun _ (q : 0 = 2) => absurd q (by decide), by show 0 < 4; decide⟩
  · rw [if_neg e]; exact h
-- both have read the same token, or both met a fault at one place
def Qok (s : Tk) (t : Tm) : Prop := s.1 = 0 ∧ t.1 = 0 ∧ s.2.1 = t.2.2.1 ∧ s.2.2.1 = t.2.2.2.2.1 ∧ s.2.2.2.1 = t.2.2.2.1 ∧ (s.2.2.1 = 2 → s.2.2.2.2 = t.2.2.2.2.2)
def Qbad (s : Tk) (t : Tm) : Prop := s.1 ≠ 0 ∧ t.1 ≠ 0 ∧ s.1 < 8 ∧ t.1 < 8 ∧ s.2.2.2.1 = t.2.1
def QT (s : Tk) (t : Tm) : Prop := Qok s t ∨ Qbad s t
theorem tok_Q {tp : List Nat} {s : Tk} {t : Tm} (h1 : s.1 = 0) (h2 : t.1 = 0) (h3 : s.2.1 = t.2.2.1) : QT (rdX tp s) (rdM tp t) := by
  unfold rdX rdM
  rw [if_pos h1, if_pos h2, h3]
  generalize rn tp 32 32 tp.length t.2.2.1 = q
  dsimp only
  by_cases eq : q < tp.length
  · rw [if_pos eq, if_pos eq]
    by_cases e1 : inr tp 97 122 q = true
    · rw [if_pos e1, if_pos e1]
      exact Or.inl ⟨rfl, rfl, rfl, rfl, rfl, fun (q : 1 = 2) => absurd q (by decide)⟩
    · rw [if_neg e1, if_neg e1]
      by_cases e2 : inr tp 48 57 q = true
      · rw [if_pos e2, if_pos e2]
        by_cases e3 : rn tp 48 57 tp.length q - q ≤ 2
        · rw [if_pos e3, decide_eq_true e3]
          exact Or.inl ⟨rfl, rfl, rfl, rfl, rfl, fun _ => (nm2_nv _ _ _ e3).symm⟩
        · rw [if_neg e3, decide_eq_false e3]
          exact Or.inr ⟨by show 1 ≠ 0; decide, by show 1 ≠ 0; decide, by show 1 < 8; decide, by show 1 < 8; decide, rfl⟩
      · rw [if_neg e2, if_neg e2]
        by_cases e3 : inr tp 59 59 q = true
        · rw [if_pos e3, e3]
          exact Or.inl ⟨rfl, rfl, rfl, rfl, rfl, fun (q : 3 = 2) => absurd q (by decide)⟩
        · rw [if_neg e3, Bool.eq_false_iff.mpr e3]
          exact Or.inr ⟨by show 1 ≠ 0; decide, by show 1 ≠ 0; decide, by show 1 < 8; decide, by show 1 < 8; decide, rfl⟩
  · rw [if_neg eq, if_neg eq]
    exact Or.inl ⟨rfl, rfl, rfl, rfl, rfl, fun (q : 0 = 2) => absurd q (by decide)⟩
def rfs (c : Bool) (f : Nat) (s : Tk) : Tk := if c then (if s.1 = 0 then (f, s.2) else s) else s
theorem next_Q {tp : List Nat} {s : Tk} {t : Tm} (h : QT s t) : QT (rdX tp s) (rdM tp t) := by
  rcases h with h | h
  · exact tok_Q h.1 h.2.1 h.2.2.1
  · unfold rdX rdM
    rw [if_neg h.1, if_neg h.2.1]
    exact Or.inr h
theorem ref_Q {s : Tk} {t : Tm} (h : QT s t) {f f' : Nat} (hf : 0 < f ∧ f < 8) (hf' : 0 < f' ∧ f' < 8) {c ok : Bool} (hc : c = !ok) : QT (rfs c f s) (ned ok f' t) := by
  unfold rfs ned
  cases ok with
  | true =>
    rw [hc]
    exact h
  | false =>
    rw [hc]
    rcases h with h | h
    · rw [if_pos (show (!false) = true from rfl), if_pos h.1, if_neg Bool.false_ne_true, if_pos h.2.1]
      exact Or.inr ⟨by show f ≠ 0; omega, by show f' ≠ 0; omega, hf.2, hf'.2, h.2.2.2.2.1⟩
    · rw [if_pos (show (!false) = true from rfl), if_neg h.1, if_neg Bool.false_ne_true, if_neg h.2.1]
      exact Or.inr h
def oob (lo hi v : Nat) : Bool := decide (v < lo ∨ hi < v)
def tkN (tp : List Nat) (lo hi : Nat) (s : Tk) : Tk := let s2 := rfs (decide ((rdX tp s).2.2.1 ≠ 2)) 2 (rdX tp s); rfs (oob lo hi s2.2.2.2.2) 3 s2
def vaN (lo : Nat) (s : Tk) : Nat := if s.1 = 0 then s.2.2.2.2 else lo
def tkS (tp : List Nat) (s : Tk) : Tk := rfs (decide ((rdX tp s).2.2.1 ≠ 3)) 2 (rdX tp s)
def lkN (lo hi : Nat) (t : Tm) : Tm := let t2 := ned (decide (t.2.2.2.2.1 = 2)) 2 t; ned (!oob lo hi t2.2.2.2.2.2) 3 t2
def vaM (t : Tm) : Nat := if t.1 = 0 then t.2.2.2.2.2 else 0
theorem rfs_ok {tp : List Nat} {s : Tk} {c : Bool} {f : Nat} (hf : 0 < f ∧ f < 8) (h : OkT tp s) : OkT tp (rfs c f s) := by
  unfold rfs
  split
  · split
    · exact ⟨hf.2, h.2.1, fun (a : f = 0) => by omega, h.2.2.2⟩
    · exact h
  · exact h
theorem tkN_ok {tp : List Nat} {lo hi : Nat} {s : Tk} (h : OkT tp s) : OkT tp (tkN tp lo hi s) := rfs_ok (by decide) (rfs_ok (by decide) (rdX_ok h))
theorem tkS_ok {tp : List Nat} {s : Tk} (h : OkT tp s) : OkT tp (tkS tp s) := rfs_ok (by decide) (rdX_ok h)
theorem rfs_0 {c : Bool} {f : Nat} {s : Tk} (hf : 0 < f) (h : (rfs c f s).1 = 0) : s.1 = 0 ∧ c = false ∧ rfs c f s = s := by
  unfold rfs at h ⊢
  cases c with
  | false => exact ⟨h, rfl, rfl⟩
  | true =>
    rw [if_pos rfl] at h
    split at h
    · have h : f = 0 := h
      omega
    · exact absurd h ‹_›
theorem ned_0 {ok : Bool} {f : Nat} {t : Tm} (hf : 0 < f) (h : (ned ok f t).1 = 0) : t.1 = 0 ∧ ok = true ∧ ned ok f t = t := by
  unfold ned at h ⊢
  cases ok with
  | true => exact ⟨h, rfl, rfl⟩
  | false =>
    rw [if_neg Bool.false_ne_true] at h
    split at h
    · have h : f = 0 := h
      omega
    · exact absurd h ‹_›
theorem tkN_0 {tp : List Nat} {lo hi : Nat} {s : Tk} (h : (tkN tp lo hi s).1 = 0) : (rdX tp s).1 = 0 ∧ (rdX tp s).2.2.1 = 2 ∧ tkN tp lo hi s = rdX tp s ∧ lo ≤ (rdX tp s).2.2.2.2 ∧ (rdX tp s).2.2.2.2 ≤ hi := by
  unfold tkN at h
  obtain ⟨a1, a2, a3⟩ := rfs_0 (by decide) h
  obtain ⟨b1, b2, b3⟩ := rfs_0 (by decide) a1
  have b2 := of_decide_eq_false b2
  have a2 := of_decide_eq_false a2
  rw [b3] at a2
  refine ⟨b1, by omega, ?_, by omega, by omega⟩
  unfold tkN
  dsimp only at a3 ⊢
  rw [a3, b3]
theorem vaN_le {tp : List Nat} {lo hi : Nat} {s : Tk} (hl : lo ≤ hi) : lo ≤ vaN lo (tkN tp lo hi s) ∧ vaN lo (tkN tp lo hi s) ≤ hi := by
  unfold vaN
  by_cases e : (tkN tp lo hi s).1 = 0
  · obtain ⟨a1, a2, a3, a4, a5⟩ := tkN_0 e
    rw [if_pos e, a3]
    exact ⟨a4, a5⟩
  · rw [if_neg e]; exact ⟨Nat.le_refl _, hl⟩
theorem num_Q {tp : List Nat} {s : Tk} {t : Tm} (lo hi : Nat) (h : QT (rdX tp s) t) : QT (tkN tp lo hi s) (lkN lo hi t) ∧ ((tkN tp lo hi s).1 = 0 → vaN lo (tkN tp lo hi s) = vaM (lkN lo hi t)) := by
  generalize ha : rdX tp s = a at h
  have h1 : QT (rfs (decide (a.2.2.1 ≠ 2)) 2 a) (ned (decide (t.2.2.2.2.1 = 2)) 2 t) := by
    rcases h with h | h
    · exact ref_Q (Or.inl h) (by decide) (by decide) (by rw [h.2.2.2.1]; by_cases q : t.2.2.2.2.1 = 2 <;> simp [q])
    · have e1 : rfs (decide (a.2.2.1 ≠ 2)) 2 a = a := by unfold rfs; rw [if_neg h.1]; split <;> rfl
      have e2 : ned (decide (t.2.2.2.2.1 = 2)) 2 t = t := by unfold ned; rw [if_neg h.2.1]; split <;> rfl
      rw [e1, e2]
      exact Or.inr h
  have hk : (rfs (decide (a.2.2.1 ≠ 2)) 2 a).1 = 0 → a.2.2.1 = 2 := fun q => by
    have := of_decide_eq_false (rfs_0 (by decide) q).2.1
    omega
  have ek : rfs (decide (a.2.2.1 ≠ 2)) 2 a = rfs (decide ((rdX tp s).2.2.1 ≠ 2)) 2 (rdX tp s) := by rw [ha]
  have et : tkN tp lo hi s = rfs (oob lo hi (rfs (decide (a.2.2.1 ≠ 2)) 2 a).2.2.2.2) 3 (rfs (decide (a.2.2.1 ≠ 2)) 2 a) := by rw [ek]; rfl
  have em : lkN lo hi t = ned (!oob lo hi (ned (decide (t.2.2.2.2.1 = 2)) 2 t).2.2.2.2.2) 3 (ned (decide (t.2.2.2.2.1 = 2)) 2 t) := rfl
  have ea : rfs (decide (a.2.2.1 ≠ 2)) 2 a |>.2.2.1 = a.2.2.1 := by
    unfold rfs
    split
    · split <;> rfl
    · rfl
  rw [et, em]
  generalize rfs (decide (a.2.2.1 ≠ 2)) 2 a = b at h1 hk ea
  generalize ned (decide (t.2.2.2.2.1 = 2)) 2 t = c at h1
  rcases h1 with h1 | h1
  · have hv := h1.2.2.2.2.2 (by rw [ea]; exact hk h1.1)
    have hq := ref_Q (Or.inl h1) (f := 3) (f' := 3) (by decide) (by decide) (c := oob lo hi b.2.2.2.2) (ok := !oob lo hi c.2.2.2.2.2) (by rw [hv, Bool.not_not])
    refine ⟨hq, fun q => ?_⟩
    obtain ⟨r1, r2, r3⟩ := rfs_0 (by decide) q
    rw [r3]
    unfold vaN vaM
    rw [hv] at r2
    rw [r2, if_pos h1.1]
    show _ = if c.1 = 0 then c.2.2.2.2.2 else 0
    rw [if_pos h1.2.1, hv]
  · have e1 : rfs (oob lo hi b.2.2.2.2) 3 b = b := by unfold rfs; rw [if_neg h1.1]; split <;> rfl
    have e2 : ned (!oob lo hi c.2.2.2.2.2) 3 c = c := by unfold ned; rw [if_neg h1.2.1]; split <;> rfl
    rw [e1, e2]
    exact ⟨Or.inr h1, fun q => absurd q h1.1⟩
theorem sign_Q {tp : List Nat} {s : Tk} {t : Tm} (h : QT (rdX tp s) t) : QT (tkS tp s) (ned (decide (t.2.2.2.2.1 = 3)) 2 t) := by
  unfold tkS
  rcases h with h | h
  · exact ref_Q (Or.inl h) (by decide) (by decide) (by rw [h.2.2.2.1]; by_cases q : t.2.2.2.2.1 = 3 <;> simp [q])
  · have e1 : rfs (decide ((rdX tp s).2.2.1 ≠ 3)) 2 (rdX tp s) = rdX tp s := by unfold rfs; rw [if_neg h.1]; split <;> rfl
    have e2 : ned (decide (t.2.2.2.2.1 = 3)) 2 t = t := by unfold ned; rw [if_neg h.2.1]; split <;> rfl
    rw [e1, e2]
    exact Or.inr h
end
section
/-! THE TEXT: what both take of a line -/
theorem x_rfs (n f : Nat) (hf : f < 8) {M : Mem} {s : Tk} (hs : s.1 < 8) (h : XT M s) : ∃ M', X_Teller_refuse n (nI f) M = some ((), M') ∧ XT M' (rfs true f s) ∧ Fr xt M M' := x_refuse n f hf hs h
theorem rfs_f (f : Nat) (s : Tk) : rfs false f s = s := rfl
theorem oob_i {lo hi v : Nat} (hl : lo < 2 ^ 31) (hh : hi < 2 ^ 31) (hv : v < 2 ^ 31) : oob lo hi v = true ↔ (nI v < nI lo ∨ ¬ nI v ≤ nI hi) := by
  unfold oob
  rw [decide_eq_true_iff]
  constructor
  · intro h
    rcases h with h | h
    · exact Or.inl (nI_lt h hl)
    · exact Or.inr (nI_ge h hv)
  · intro h
    rcases h with h | h
    · by_cases q : v < lo
      · exact Or.inl q
      · exact absurd h (Int32.not_lt.mpr (nI_le (by omega) hv))
    · by_cases q : hi < v
      · exact Or.inr q
      · exact absurd (nI_le (by omega) hh) h
theorem x_bounded (n : Nat) {M : Mem} {s : Tk} {lo hi : Nat} (hl : lo < 2 ^ 31) (hh : hi < 2 ^ 31) (hs : s.1 < 8) (hv : s.1 = 0 → s.2.2.2.2 < 2 ^ 31) (h : XT M s) : ∃ M', X_Teller_boundedValue n (nI lo) (nI hi) M = some (nI (vaN lo (rfs (oob lo hi s.2.2.2.2) 3 s)), M') ∧ XT M' (rfs (oob lo hi s.2.2.2.2) 3 s) ∧ Fr xt M M' := by
  have un : X_Teller_boundedValue n (nI lo) (nI hi) M = (if (M.1 3 3) = 0 then (if (M.1 3 9) < nI lo then (bd (X_Teller_refuse n 3 M) fun _ M3 => (if (M3.1 3 3) = 0 then some ((M3.1 3 9), M3) else some (nI lo, M3))) else (if (M.1 3 9) ≤ nI hi then (if (M.1 3 3) = 0 then some ((M.1 3 9), M) else some (nI lo, M)) else (bd (X_Teller_refuse n 3 M) fun _ M3 => (if (M3.1 3 3) = 0 then some ((M3.1 3 9), M3) else some (nI lo, M3))))) else (if (M.1 3 3) = 0 then some ((M.1 3 9), M) else some (nI lo, M))) := rfl
  rw [un, h.1, h.2.2.2.2]
  by_cases e : s.1 = 0
  · have hv := hv e
    have ho := oob_i hl hh hv
    have e0 : nI s.1 = 0 := by rw [e]; rfl
    rw [if_pos e0, if_pos e0]
    have bad : oob lo hi s.2.2.2.2 = true → ∃ M', (bd (X_Teller_refuse n 3 M) fun _ M3 => (if (M3.1 3 3) = 0 then some ((M3.1 3 9), M3) else some (nI lo, M3))) = some (nI (vaN lo (rfs (oob lo hi s.2.2.2.2) 3 s)), M') ∧ XT M' (rfs (oob lo hi s.2.2.2.2) 3 s) ∧ Fr xt M M' := fun eo => by
      obtain ⟨M', b1, b2, b3⟩ := x_rfs n 3 (by decide) hs h
      rw [eo]
      have e3 : rfs true 3 s = (3, s.2) := by unfold rfs; rw [if_pos rfl, if_pos e]
      rw [e3] at b2 ⊢
      rw [show X_Teller_refuse n 3 M = _ from b1, bd_ret, b2.1]
      refine ⟨M', ?_, b2, b3⟩
      rw [if_neg (show ¬ nI (3, s.2).1 = 0 by show ¬ nI 3 = 0; decide)]
      rfl
    by_cases e1 : nI s.2.2.2.2 < nI lo
    · rw [if_pos e1]
      exact bad (ho.mpr (Or.inl e1))
    · rw [if_neg e1]
      by_cases e2 : nI s.2.2.2.2 ≤ nI hi
      · have eo : oob lo hi s.2.2.2.2 = false := Bool.eq_false_iff.mpr (fun q => (ho.mp q).elim e1 (fun r => r e2))
        rw [if_pos e2, eo, rfs_f]
        refine ⟨M, ?_, h, Fr.rf⟩
        unfold vaN
        rw [if_pos e]
      · rw [if_neg e2]
        exact bad (ho.mpr (Or.inr e2))
  · have e0 : ¬ nI s.1 = 0 := fun q => e ((i_z (by omega)).mp q)
    have er : rfs (oob lo hi s.2.2.2.2) 3 s = s := by unfold rfs; rw [if_neg e]; split <;> rfl
    rw [if_neg e0, if_neg e0, er]
    refine ⟨M, ?_, h, Fr.rf⟩
    unfold vaN
    rw [if_neg e]
theorem x_takeNumber (n : Nat) (hn : 400 ≤ n) {M : Mem} {tp : List Nat} {s : Tk} {lo hi : Nat} (hl : lo < 2 ^ 31) (hh : hi < 2 ^ 31) (hT : XTp M tp) (hs : OkT tp s) (h : XT M s) : ∃ M', X_Teller_takeNumber n (nI lo) (nI hi) M = some (nI (vaN lo (tkN tp lo hi s)), M') ∧ XT M' (tkN tp lo hi s) ∧ Fr xt M M' := by
  obtain ⟨M1, a1, a2, a3⟩ := x_readToken n hn hT hs.1 hs.2.1 h
  have ho := rdX_ok hs
  generalize ha : rdX tp s = a at a2 ho
  have et : tkN tp lo hi s = rfs (oob lo hi (rfs (decide (a.2.2.1 ≠ 2)) 2 a).2.2.2.2) 3 (rfs (decide (a.2.2.1 ≠ 2)) 2 a) := by rw [← ha]; rfl
  have un : X_Teller_takeNumber n (nI lo) (nI hi) M = (if (M1.1 3 3) = 0 then (if (M1.1 3 7) = 2 then (bd (X_Teller_boundedValue n (nI lo) (nI hi) M1) fun r4 M5 => some (r4, M5)) else bd (X_Teller_refuse n 2 M1) fun _ M7 => (bd (X_Teller_boundedValue n (nI lo) (nI hi) M7) fun r4 M5 => some (r4, M5))) else (bd (X_Teller_boundedValue n (nI lo) (nI hi) M1) fun r4 M5 => some (r4, M5))) := by
    unfold X_Teller_takeNumber
    rw [a1, bd_ret]
    rfl
  have go : ∀ (N : Mem) (b : Tk), XT N b → b.1 < 8 → (b.1 = 0 → b.2.2.2.2 < 2 ^ 31) → Fr xt M N → b = rfs (decide (a.2.2.1 ≠ 2)) 2 a → ∃ M', (bd (X_Teller_boundedValue n (nI lo) (nI hi) N) fun r4 M5 => some (r4, M5)) = some (nI (vaN lo (tkN tp lo hi s)), M') ∧ XT M' (tkN tp lo hi s) ∧ Fr xt M M' := by
    intro N b g1 g2 g3 g4 g5
    obtain ⟨M', b1, b2, b3⟩ := x_bounded n hl hh g2 g3 g1
    rw [et, ← g5]
    exact ⟨M', by rw [b1, bd_ret], b2, g4.trans b3⟩
  rw [un, a2.1, a2.2.2.1]
  by_cases e : a.1 = 0
  · rw [if_pos (show nI a.1 = 0 by rw [e]; rfl)]
    by_cases e2 : a.2.2.1 = 2
    · rw [if_pos (show nI a.2.2.1 = 2 by rw [e2]; rfl)]
      exact go M1 a a2 ho.1 (fun q => by have := ho.2.2.1 q e2; omega) a3 (by rw [decide_eq_false (fun q => q e2)]; rfl)
    · obtain ⟨M2, b1, b2, b3⟩ := x_rfs n 2 (by decide) ho.1 a2
      have hk : ¬ nI a.2.2.1 = 2 := fun q => e2 ((nI_eq (b := 2) (by have := ho.2.2.2; omega) (by decide)).mp q)
      rw [if_neg hk, show X_Teller_refuse n 2 M1 = _ from b1, bd_ret]
      have er : rfs true 2 a = (2, a.2) := by unfold rfs; rw [if_pos rfl, if_pos e]
      exact go M2 (rfs true 2 a) b2 (by rw [er]; show 2 < 8; decide) (fun q => by rw [er] at q; exact absurd (show 2 = 0 from q) (by decide)) (a3.trans b3) (by rw [decide_eq_true e2])
  · rw [if_neg (fun q => e ((i_z (show a.1 < 2 ^ 31 by have := ho.1; omega)).mp q))]
    exact go M1 a a2 ho.1 (fun q => absurd q e) a3 (by unfold rfs; rw [if_neg e]; split <;> rfl)
theorem x_takeSign (n : Nat) (hn : 400 ≤ n) {M : Mem} {tp : List Nat} {s : Tk} (hT : XTp M tp) (hs : OkT tp s) (h : XT M s) : ∃ M', X_Teller_takeSign n M = some ((), M') ∧ XT M' (tkS tp s) ∧ Fr xt M M' := by
  obtain ⟨M1, a1, a2, a3⟩ := x_readToken n hn hT hs.1 hs.2.1 h
  have ho := rdX_ok hs
  unfold X_Teller_takeSign tkS
  generalize rdX tp s = a at a2 ho
  rw [a1, bd_ret, a2.2.2.1]
  by_cases e : a.2.2.1 = 3
  · rw [if_pos (show nI a.2.2.1 = 3 by rw [e]; rfl), decide_eq_false (fun q => q e), rfs_f]
    exact ⟨M1, rfl, a2, a3⟩
  · rw [if_neg (show ¬ nI a.2.2.1 = 3 from fun q => e ((nI_eq (b := 3) (by have := ho.2.2.2; omega) (by decide)).mp q)), decide_eq_true e]
    obtain ⟨M2, b1, b2, b3⟩ := x_rfs n 2 (by decide) ho.1 a2
    rw [show X_Teller_refuse n 2 M1 = _ from b1, bd_ret]
    exact ⟨M2, rfl, b2, a3.trans b3⟩
def OkM (tp : List Nat) (t : Tm) : Prop := t.1 < 8 ∧ t.2.2.1 ≤ tp.length ∧ (t.1 = 0 → t.2.2.2.2.1 = 2 → t.2.2.2.2.2 < 100) ∧ t.2.2.2.2.1 < 4
theorem ned_okM {tp : List Nat} {t : Tm} {ok : Bool} {f : Nat} (hf : 0 < f ∧ f < 8) (h : OkM tp t) : OkM tp (ned ok f t) := by
  unfold ned
  split
  · exact h
  · split
    · exact ⟨hf.2, h.2.1, fun (a : f = 0) => by omega, h.2.2.2⟩
    · exact h
theorem rdM_ok {tp : List Nat} {t : Tm} (h : OkM tp t) : OkM tp (rdM tp t) := by
  unfold rdM
  by_cases e : t.1 = 0
  · rw [if_pos e]
    obtain ⟨q1, q2⟩ := rn_le (tp := tp) (lo := 32) (hi := 32) tp.length t.2.2.1 h.2.1
    generalize rn tp 32 32 tp.length t.2.2.1 = q at q1 q2
    dsimp only
    by_cases eq : q < tp.length
    · rw [if_pos eq]
      by_cases e1 : inr tp 97 122 q = true
      · rw [if_pos e1]
        exact ⟨by show 0 < 8; decide, (rn_le _ _ q2).2, fun _ (q : 1 = 2) => absurd q (by decide), by show 1 < 4; decide⟩
      · rw [if_neg e1]
        by_cases e2 : inr tp 48 57 q = true
        · rw [if_pos e2]
          by_cases e3 : rn tp 48 57 tp.length q - q ≤ 2
          · rw [decide_eq_true e3]
            exact ⟨by show 0 < 8; decide, (rn_le _ _ q2).2, fun _ _ => by show nm2 tp q tp.length q 0 < 100; rw [nm2_nv _ _ _ e3]; exact rn_two e3, by show 2 < 4; decide⟩
          · rw [decide_eq_false e3]
            exact ⟨by show 1 < 8; decide, (rn_le _ _ q2).2, fun (a : 1 = 0) => absurd a (by decide), by show 2 < 4; decide⟩
        · rw [if_neg e2]
          refine ⟨?_, eq, fun _ (q : 3 = 2) => absurd q (by decide), by show 3 < 4; decide⟩
          show (ned (inr tp 59 59 q) 1 (0, t.2.1, q, q, 3, t.2.2.2.2.2)).1 < 8
          unfold ned
          split
          · show 0 < 8; decide
          · show 1 < 8; decide
    · rw [if_neg eq]
      exact ⟨by show 0 < 8; decide, q2, fun _ (q : 0 = 2) => absurd q (by decide), by show 0 < 4; decide⟩
  · rw [if_neg e]; exact h
theorem oob_d (lo hi v : Nat) : (!oob lo hi v) = decide (lo ≤ v ∧ v ≤ hi) := by
  unfold oob
  by_cases q : lo ≤ v ∧ v ≤ hi
  · rw [decide_eq_true q, decide_eq_false (by omega)]; rfl
  · rw [decide_eq_false q, decide_eq_true (by omega)]; rfl
theorem m_looked (n : Nat) {M : Mem} {tp : List Nat} {t : Tm} {lo hi : Nat} (hl : lo < 2 ^ 31) (hh : hi < 2 ^ 31) (hs : OkM tp t) (h : MT M t) : ∃ M', X_Model_looked n (nI lo) (nI hi) M = some (nI (vaM (lkN lo hi t)), M') ∧ MT M' (lkN lo hi t) ∧ Fr mt M M' := by
  have fin : ∀ (N : Mem) (b : Tm), MT N b → b.1 < 8 → (if (N.1 0 31) = 0 then some ((N.1 0 30), N) else some (0, N)) = some (nI (vaM b), N) := by
    intro N b g1 g2
    rw [g1.1]
    unfold vaM
    by_cases e : b.1 = 0
    · rw [if_pos (show nI b.1 = 0 by rw [e]; rfl), if_pos e, g1.2.2.2.2.2]
    · rw [if_neg (fun q => e ((i_z (by omega)).mp q)), if_neg e]
      rfl
  have un : X_Model_looked n (nI lo) (nI hi) M = (if (M.1 0 31) = 0 then (bd (X_Model_needs n (if (M.1 0 29) = 2 then 1 else 0) 2 M) fun _ M1 => (if (M1.1 0 31) = 0 then bd (X_Model_in n (((M1.1 0 30) : Int32).toInt64) ((nI lo).toInt64) ((nI hi).toInt64) M1) fun r3 M4 => bd (X_Model_needs n r3 3 M4) fun _ M6 => (if (M6.1 0 31) = 0 then some ((M6.1 0 30), M6) else some (0, M6)) else (if (M1.1 0 31) = 0 then some ((M1.1 0 30), M1) else some (0, M1)))) else (if (M.1 0 31) = 0 then bd (X_Model_in n (((M.1 0 30) : Int32).toInt64) ((nI lo).toInt64) ((nI hi).toInt64) M) fun r3 M4 => bd (X_Model_needs n r3 3 M4) fun _ M6 => (if (M6.1 0 31) = 0 then some ((M6.1 0 30), M6) else some (0, M6)) else (if (M.1 0 31) = 0 then some ((M.1 0 30), M) else some (0, M)))) := by
    unfold X_Model_looked
    simp only [nm]
    by_cases e : M.1 0 29 = 2
    · rw [if_pos e, if_pos e]
    · rw [if_neg e, if_neg e]
  rw [un, h.1]
  by_cases e : t.1 = 0
  · rw [if_pos (show nI t.1 = 0 by rw [e]; rfl)]
    have hk : (M.1 0 29 = 2) ↔ t.2.2.2.2.1 = 2 := by
      rw [h.2.2.2.2.1]
      exact nI_eq (b := 2) (by have := hs.2.2.2; omega) (by decide)
    obtain ⟨M1, b1, b2, b3⟩ := m_needs n (p1 := if (M.1 0 29) = 2 then 1 else 0) (ok := decide (t.2.2.2.2.1 = 2)) (by
      by_cases q : t.2.2.2.2.1 = 2
      · rw [if_pos (hk.mpr q), decide_eq_true q]; decide
      · rw [if_neg (fun r => q (hk.mp r)), decide_eq_false q]; decide) 2 hs.1 h
    rw [show X_Model_needs n (if (M.1 0 29) = 2 then 1 else 0) 2 M = _ from b1, bd_ret, b2.1]
    have hb8 := (ned_okM (ok := decide (t.2.2.2.2.1 = 2)) (f := 2) (by decide) hs)
    by_cases e2 : t.2.2.2.2.1 = 2
    · have en : ned (decide (t.2.2.2.2.1 = 2)) 2 t = t := by rw [decide_eq_true e2]; rfl
      have el : lkN lo hi t = ned (!oob lo hi t.2.2.2.2.2) 3 t := by unfold lkN; dsimp only; rw [en]
      rw [en] at b2 ⊢
      have hv := hs.2.2.1 e e2
      rw [if_pos (show nI t.1 = 0 by rw [e]; rfl), b2.2.2.2.2.2, m_in, bd_ret]
      have hx : (nI lo ≤ nI t.2.2.2.2.2 ∧ nI t.2.2.2.2.2 ≤ nI hi) ↔ (lo ≤ t.2.2.2.2.2 ∧ t.2.2.2.2.2 ≤ hi) := ⟨fun q => ⟨Nat.not_lt.mp (fun r => absurd q.1 (nI_ge r (by omega))), Nat.not_lt.mp (fun r => absurd q.2 (nI_ge r (by omega)))⟩, fun q => ⟨nI_le q.1 (by omega), nI_le q.2 hh⟩⟩
      obtain ⟨M2, c1, c2, c3⟩ := m_needs n (p1 := if nI lo ≤ nI t.2.2.2.2.2 ∧ nI t.2.2.2.2.2 ≤ nI hi then 1 else 0) (ok := !oob lo hi t.2.2.2.2.2) (by
        rw [oob_d]
        by_cases q : lo ≤ t.2.2.2.2.2 ∧ t.2.2.2.2.2 ≤ hi
        · rw [if_pos (hx.mpr q), decide_eq_true q]; decide
        · rw [if_neg (fun r => q (hx.mp r)), decide_eq_false q]; decide) 3 hs.1 b2
      rw [show X_Model_needs n (if nI lo ≤ nI t.2.2.2.2.2 ∧ nI t.2.2.2.2.2 ≤ nI hi then 1 else 0) 3 M1 = _ from c1, bd_ret, el, fin M2 _ c2 (ned_okM (by decide) hs).1]
      exact ⟨M2, rfl, c2, b3.trans c3⟩
    · have en : ned (decide (t.2.2.2.2.1 = 2)) 2 t = (2, t.2.2.2.1, t.2.2) := by unfold ned; rw [decide_eq_false e2, if_neg Bool.false_ne_true, if_pos e]
      have el : lkN lo hi t = (2, t.2.2.2.1, t.2.2) := by
        unfold lkN
        dsimp only
        rw [en]
        unfold ned
        rw [if_neg (show ¬ (2, t.2.2.2.1, t.2.2).1 = 0 by show ¬ 2 = 0; decide)]
        split <;> rfl
      rw [en] at b2 ⊢
      have n2 : ¬ nI ((2, t.2.2.2.1, t.2.2) : Tm).1 = 0 := by show ¬ nI 2 = 0; decide
      rw [if_neg n2, el, ← b2.1, fin M1 _ b2 (by show 2 < 8; decide)]
      exact ⟨M1, rfl, b2, b3⟩
  · have n1 : ¬ nI t.1 = 0 := fun q => e ((i_z (by have := hs.1; omega)).mp q)
    have el : lkN lo hi t = t := by
      unfold lkN ned
      dsimp only
      rw [if_neg e]
      have : (if decide (t.2.2.2.2.1 = 2) = true then t else t) = t := by split <;> rfl
      rw [this, if_neg e]
      split <;> rfl
    rw [if_neg n1, if_neg n1, el, ← h.1, fin M t h hs.1]
    exact ⟨M, rfl, h, Fr.rf⟩
end
section
/-! THE TEXT: the class's lines -/
abbrev Dr : Type := Rl × WW × Nat × Nat × Nat × Nat × Nat × Nat
abbrev Dr.R (D : Dr) : Rl := Prod.fst D
abbrev Dr.W (D : Dr) : WW := (Prod.snd D).1
abbrev Dr.gl (D : Dr) : Nat := (Prod.snd D).2.1
abbrev Dr.pT (D : Dr) : Nat := (Prod.snd D).2.2.1
abbrev Dr.hT (D : Dr) : Nat := (Prod.snd D).2.2.2.1
abbrev Dr.kn (D : Dr) : Nat := (Prod.snd D).2.2.2.2.1
abbrev Dr.hi (D : Dr) : Nat := (Prod.snd D).2.2.2.2.2.1
abbrev Dr.lg (D : Dr) : Nat := (Prod.snd D).2.2.2.2.2.2
def XD4 (M : Mem) (R : Rl) : Prop := M.1 4 0 = nI R.1 ∧ M.1 4 1 = nI R.2.1 ∧ M.1 4 3 = nI R.2.2.1.length ∧ M.1 4 5 = nI R.2.2.2.1.length ∧ M.1 4 7 = nI R.2.2.2.2.length ∧
  (∀ j q, R.2.2.1[j]? = some q → M.1 5 (3 * j) = nI q.1 ∧ M.1 5 (3 * j + 1) = nI q.2.1 ∧ M.1 5 (3 * j + 2) = nI q.2.2) ∧ (∀ i h, R.2.2.2.1[i]? = some h → M.1 6 i = nI h) ∧ (∀ i h, R.2.2.2.2[i]? = some h → M.1 7 i = nI h)
def XD3 (M : Mem) (gl pT hT kn hi lg : Nat) : Prop := M.1 3 2 = nI gl ∧ M.1 3 10 = nI pT ∧ M.1 3 11 = nI hT ∧ M.1 3 12 = nI kn ∧ M.1 3 13 = nI hi ∧ M.1 3 14 = nI lg
def XD (M : Mem) (D : Dr) : Prop := XD4 M D.R ∧ rowsAt M 9 D.W ∧ XD3 M D.gl D.pT D.hT D.kn D.hi D.lg
theorem XD4.fr {P : Nat → Nat → Prop} {M M' : Mem} {R : Rl} (h : XD4 M R) (ho : Fr P M M') (hp : ∀ c k, P c k → ¬ (4 ≤ c ∧ c ≤ 7)) : XD4 M' R := by
  have e : ∀ c k, 4 ≤ c → c ≤ 7 → M'.1 c k = M.1 c k := fun c k h1 h2 => (ho c k (fun q => hp c k q ⟨h1, h2⟩)).1
  obtain ⟨a1, a2, a3, a4, a5, a6, a7, a8⟩ := h
  exact ⟨by rw [e _ _ (by decide) (by decide)]; exact a1, by rw [e _ _ (by decide) (by decide)]; exact a2, by rw [e _ _ (by decide) (by decide)]; exact a3, by rw [e _ _ (by decide) (by decide)]; exact a4, by rw [e _ _ (by decide) (by decide)]; exact a5, fun j q hq => by rw [e 5 _ (by decide) (by decide), e 5 _ (by decide) (by decide), e 5 _ (by decide) (by decide)]; exact a6 j q hq, fun i h hi => by rw [e 6 _ (by decide) (by decide)]; exact a7 i h hi, fun i h hi => by rw [e 7 _ (by decide) (by decide)]; exact a8 i h hi⟩
theorem XD3.fr {P : Nat → Nat → Prop} {M M' : Mem} {a b c d e f : Nat} (h : XD3 M a b c d e f) (ho : Fr P M M') (hp : ∀ k, P 3 k → ¬ (k = 2 ∨ 10 ≤ k)) : XD3 M' a b c d e f := by
  have g : ∀ k, (k = 2 ∨ 10 ≤ k) → M'.1 3 k = M.1 3 k := fun k h1 => (ho 3 k (fun q => hp k q h1)).1
  obtain ⟨a1, a2, a3, a4, a5, a6⟩ := h
  exact ⟨by rw [g _ (by decide)]; exact a1, by rw [g _ (by decide)]; exact a2, by rw [g _ (by decide)]; exact a3, by rw [g _ (by decide)]; exact a4, by rw [g _ (by decide)]; exact a5, by rw [g _ (by decide)]; exact a6⟩
theorem rowsAt.fr {P : Nat → Nat → Prop} {M M' : Mem} {o : Nat} {W : WW} (h : rowsAt M o W) (ho : Fr P M M') (hp : ∀ k, ¬ P o k) : rowsAt M' o W := fun p hp6 => by rw [(ho o p (hp p)).2]; exact h p hp6
theorem XD.tk {M M' : Mem} {D : Dr} (h : XD M D) (ho : Fr xt M M') : XD M' D := ⟨h.1.fr ho (fun c k q => by unfold xt at q; omega), h.2.1.fr ho (fun k q => by unfold xt at q; omega), h.2.2.fr ho (fun k q => by unfold xt at q; omega)⟩
def xd (c k : Nat) : Prop := (c = 3 ∧ k ≤ 14 ∧ 2 ≤ k) ∨ (4 ≤ c ∧ c ≤ 10)
theorem xt_xd {M M' : Mem} (h : Fr xt M M') : Fr xd M M' := h.mono (fun c k q => by unfold xt at q; unfold xd; omega)
theorem XTp.dr {M M' : Mem} {tp : List Nat} (h : XTp M tp) (ho : Fr xd M M') : XTp M' tp := h.fr ho (fun c k q => by unfold xd at q; omega)
def XS (M : Mem) (tp : List Nat) (s : Tk) (D : Dr) : Prop := XTp M tp ∧ OkT tp s ∧ XT M s ∧ XD M D
theorem XS.num (n : Nat) (hn : 400 ≤ n) {M : Mem} {tp : List Nat} {s : Tk} {D : Dr} (h : XS M tp s D) (lo hi : Nat) (hl : lo < 2 ^ 31) (hh : hi < 2 ^ 31) : ∃ M', X_Teller_takeNumber n (nI lo) (nI hi) M = some (nI (vaN lo (tkN tp lo hi s)), M') ∧ XS M' tp (tkN tp lo hi s) D ∧ Fr xt M M' := by
  obtain ⟨M', a1, a2, a3⟩ := x_takeNumber n hn hl hh h.1 h.2.1 h.2.2.1
  exact ⟨M', a1, ⟨h.1.dr (xt_xd a3), tkN_ok h.2.1, a2, h.2.2.2.tk a3⟩, a3⟩
theorem XS.sign (n : Nat) (hn : 400 ≤ n) {M : Mem} {tp : List Nat} {s : Tk} {D : Dr} (h : XS M tp s D) : ∃ M', X_Teller_takeSign n M = some ((), M') ∧ XS M' tp (tkS tp s) D ∧ Fr xt M M' := by
  obtain ⟨M', a1, a2, a3⟩ := x_takeSign n hn h.1 h.2.1 h.2.2.1
  exact ⟨M', a1, ⟨h.1.dr (xt_xd a3), tkS_ok h.2.1, a2, h.2.2.2.tk a3⟩, a3⟩
theorem XS.rf (n : Nat) {M : Mem} {tp : List Nat} {s : Tk} {D : Dr} (h : XS M tp s D) (f : Nat) (hf : 0 < f ∧ f < 8) : ∃ M', X_Teller_refuse n (nI f) M = some ((), M') ∧ XS M' tp (rfs true f s) D ∧ Fr xt M M' := by
  obtain ⟨M', a1, a2, a3⟩ := x_rfs n f hf.2 h.2.1.1 h.2.2.1
  exact ⟨M', a1, ⟨h.1.dr (xt_xd a3), rfs_ok hf h.2.1, a2, h.2.2.2.tk a3⟩, a3⟩
theorem XS.rd (n : Nat) (hn : 400 ≤ n) {M : Mem} {tp : List Nat} {s : Tk} {D : Dr} (h : XS M tp s D) : ∃ M', X_Teller_readToken n M = some ((), M') ∧ XS M' tp (rdX tp s) D ∧ Fr xt M M' := by
  obtain ⟨M', a1, a2, a3⟩ := x_readToken n hn h.1 h.2.1.1 h.2.1.2.1 h.2.2.1
  exact ⟨M', a1, ⟨h.1.dr (xt_xd a3), rdX_ok h.2.1, a2, h.2.2.2.tk a3⟩, a3⟩
-- a cell that is neither tape nor token nor one of the draft's others
theorem XT.nt {P : Nat → Nat → Prop} {M M' : Mem} {s : Tk} (h : XT M s) (ho : Fr P M M') (hp : ∀ k, P 3 k → ¬ (k = 3 ∨ k = 6 ∨ k = 7 ∨ k = 8 ∨ k = 9)) : XT M' s := by
  have g : ∀ k, (k = 3 ∨ k = 6 ∨ k = 7 ∨ k = 8 ∨ k = 9) → M'.1 3 k = M.1 3 k := fun k h1 => (ho 3 k (fun q => hp k q h1)).1
  obtain ⟨a1, a2, a3, a4, a5⟩ := h
  exact ⟨by rw [g _ (by decide)]; exact a1, by rw [g _ (by decide)]; exact a2, by rw [g _ (by decide)]; exact a3, by rw [g _ (by decide)]; exact a4, by rw [g _ (by decide)]; exact a5⟩
theorem imax (a b : Nat) (ha : a < 2 ^ 31) (hb : b < 2 ^ 31) : (if nI a < nI b then nI b else nI a) = nI (max a b) := by
  by_cases e : a < b
  · rw [if_pos (nI_lt e hb), Nat.max_eq_right (by omega)]
  · rw [if_neg (Int32.not_lt.mpr (nI_le (by omega) ha)), Nat.max_eq_left (by omega)]
def VD (D : Dr) : Prop := D.R.2.2.1.length ≤ 4 ∧ D.R.2.2.2.1.length ≤ 16 ∧ D.R.2.2.2.2.length ≤ 8 ∧ D.gl < 64 ∧ D.pT < 2 ∧ D.hT < 2 ∧ D.kn < 64 ∧ D.hi < 6 ∧ D.lg ≤ 9
-- glove
def gloS (tp : List Nat) (s : Tk) (D : Dr) : Tk := tkS tp (rfs (D.gl.testBit (vaN 0 (tkN tp 0 5 s))) 4 (tkN tp 0 5 s))
def gloD (tp : List Nat) (s : Tk) (D : Dr) : Dr := (D.R, D.W, D.gl ||| 2 ^ vaN 0 (tkN tp 0 5 s), D.pT, D.hT, D.kn, max D.hi (vaN 0 (tkN tp 0 5 s)), D.lg)
theorem x_glove (n : Nat) (hn : 400 ≤ n) {M : Mem} {tp : List Nat} {s : Tk} {D : Dr} (hV : VD D) (h : XS M tp s D) : ∃ M', X_Teller_tellGlove n M = some ((), M') ∧ XS M' tp (gloS tp s D) (gloD tp s D) ∧ Fr xd M M' := by
  obtain ⟨M2, a1, a2, a3⟩ := h.num n hn 0 5 (by decide) (by decide)
  have hv := vaN_le (tp := tp) (s := s) (show 0 ≤ 5 by decide)
  unfold gloS gloD
  generalize vaN 0 (tkN tp 0 5 s) = r at a1 hv
  generalize tkN tp 0 5 s = s1 at a2
  have hg := hV.2.2.2.1
  have hh := hV.2.2.2.2.2.2.2.1
  have k23 : ∀ (N : Mem) (s2 : Tk), XS N tp s2 D → Fr xd M N → ∃ M', (bd (X_Teller_takeSign n (si (si N 3 2 ((N.1 3 2) ||| ((1 : Int32) <<< (nI r &&& 31)))) 3 13 (if ((si N 3 2 ((N.1 3 2) ||| ((1 : Int32) <<< (nI r &&& 31)))).1 3 13) < nI r then nI r else ((si N 3 2 ((N.1 3 2) ||| ((1 : Int32) <<< (nI r &&& 31)))).1 3 13)))) fun _ M7 => some ((), M7)) = some ((), M') ∧ XS M' tp (tkS tp s2) (D.R, D.W, D.gl ||| 2 ^ r, D.pT, D.hT, D.kn, max D.hi r, D.lg) ∧ Fr xd M M' := by
    intro N s2 g1 g2
    have g3 := g1.2.2.2.2.2
    rw [g3.1, i_shl1 (by omega), i_or, si_ne (Or.inr (by decide)), g3.2.2.2.2.1, imax _ _ (by omega) (by omega)]
    have f1 : Fr (fun c k => c = 3 ∧ (k = 2 ∨ k = 13)) N (si (si N 3 2 (nI (D.gl ||| 2 ^ r))) 3 13 (nI (max D.hi r))) := (Fr.si ⟨rfl, Or.inl rfl⟩).trans (Fr.si ⟨rfl, Or.inr rfl⟩)
    have hS : XS (si (si N 3 2 (nI (D.gl ||| 2 ^ r))) 3 13 (nI (max D.hi r))) tp s2 (D.R, D.W, D.gl ||| 2 ^ r, D.pT, D.hT, D.kn, max D.hi r, D.lg) := ⟨g1.1.fr f1 (fun c k q => by omega), g1.2.1, g1.2.2.1.nt f1 (fun k q => by omega), g1.2.2.2.1.fr f1 (fun c k q => by omega), g1.2.2.2.2.1.fr f1 (fun k q => by omega), ⟨rfl, g3.2.1, g3.2.2.1, g3.2.2.2.1, rfl, g3.2.2.2.2.2⟩⟩
    obtain ⟨M', b1, b2, b3⟩ := hS.sign n hn
    exact ⟨M', by rw [b1, bd_ret], b2, (g2.trans (f1.mono (fun c k q => by unfold xd; omega))).trans (xt_xd b3)⟩
  unfold X_Teller_tellGlove
  rw [show X_Teller_takeNumber n 0 5 M = _ from a1, bd_ret, nm_eq, a2.2.2.2.2.2.1, b_iu (by omega) (by omega)]
  cases e : D.gl.testBit r with
  | false =>
    rw [if_pos (show nI (if false = true then 1 else 0) = 0 from rfl)]
    exact k23 M2 s1 a2 (xt_xd a3)
  | true =>
    rw [if_neg (show ¬ nI (if true = true then 1 else 0) = 0 by decide)]
    obtain ⟨M3, b1, b2, b3⟩ := a2.rf n 4 (by decide)
    rw [show X_Teller_refuse n 4 M2 = _ from b1, bd_ret]
    exact k23 M3 _ b2 ((xt_xd a3).trans (xt_xd b3))
end
section
/-! THE TEXT: the class's other lines -/
def Dr.setR (D : Dr) (R : Rl) : Dr := (R, D.2)
theorem XS.wr {P : Nat → Nat → Prop} {M M' : Mem} {tp : List Nat} {s : Tk} {D D' : Dr} (h : XS M tp s D) (ho : Fr P M M') (hp : ∀ c k, P c k → c ≠ 1 ∧ c ≠ 2 ∧ ¬ (c = 3 ∧ (k = 3 ∨ k = 6 ∨ k = 7 ∨ k = 8 ∨ k = 9))) (hD : XD M' D') : XS M' tp s D' := ⟨h.1.fr ho (fun c k q => ⟨(hp c k q).1, (hp c k q).2.1⟩), h.2.1, h.2.2.1.nt ho (fun k q r => (hp 3 k q).2.2 ⟨rfl, r⟩), hD⟩
-- hold, people
def holS (tp : List Nat) (s : Tk) (D : Dr) : Tk := tkN tp 1 9 (rfs (decide (D.hT ≠ 0)) 4 s)
def holD (tp : List Nat) (s : Tk) (D : Dr) : Dr := ((D.R.1, vaN 1 (holS tp s D), D.R.2.2), D.W, D.gl, D.pT, 1, D.kn, D.hi, D.lg)
theorem x_hold (n : Nat) (hn : 400 ≤ n) {M : Mem} {tp : List Nat} {s : Tk} {D : Dr} (hV : VD D) (h : XS M tp s D) : ∃ M', X_Teller_tellHold n M = some ((), M') ∧ XS M' tp (tkS tp (holS tp s D)) (holD tp s D) ∧ Fr xd M M' := by
  have k12 : ∀ (N : Mem) (s2 : Tk), XS N tp s2 D → Fr xd M N → s2 = rfs (decide (D.hT ≠ 0)) 4 s → ∃ M', (bd (X_Teller_takeNumber n 1 9 (si N 3 11 1)) fun r3 M4 => nm (si M4 4 1 r3) fun N5 => bd (X_Teller_takeSign n N5) fun _ M7 => some ((), M7)) = some ((), M') ∧ XS M' tp (tkS tp (holS tp s D)) (holD tp s D) ∧ Fr xd M M' := by
    intro N s2 g1 g2 g3
    have f1 : Fr (fun c k => c = 3 ∧ k = 11) N (si N 3 11 1) := Fr.si ⟨rfl, rfl⟩
    have d3 := g1.2.2.2.2.2
    have hS : XS (si N 3 11 1) tp s2 (D.R, D.W, D.gl, D.pT, 1, D.kn, D.hi, D.lg) := g1.wr f1 (fun c k q => by omega) ⟨g1.2.2.2.1.fr f1 (fun c k q => by omega), g1.2.2.2.2.1.fr f1 (fun k q => by omega), ⟨d3.1, d3.2.1, rfl, d3.2.2.2.1, d3.2.2.2.2.1, d3.2.2.2.2.2⟩⟩
    obtain ⟨M4, b1, b2, b3⟩ := hS.num n hn 1 9 (by decide) (by decide)
    rw [show X_Teller_takeNumber n 1 9 (si N 3 11 1) = _ from b1, bd_ret, nm_eq]
    have es : tkN tp 1 9 s2 = holS tp s D := by rw [g3]; rfl
    rw [es] at b2 ⊢
    have f2 : Fr (fun c k => c = 4 ∧ k = 1) M4 (si M4 4 1 (nI (vaN 1 (holS tp s D)))) := Fr.si ⟨rfl, rfl⟩
    have e4 := b2.2.2.2.1
    have hS2 : XS (si M4 4 1 (nI (vaN 1 (holS tp s D)))) tp (holS tp s D) (holD tp s D) := b2.wr f2 (fun c k q => by omega) ⟨⟨e4.1, rfl, e4.2.2⟩, b2.2.2.2.2.1.fr f2 (fun k q => by omega), b2.2.2.2.2.2.fr f2 (fun k q => by omega)⟩
    obtain ⟨M', c1, c2, c3⟩ := hS2.sign n hn
    exact ⟨M', by rw [c1, bd_ret], c2, (((g2.trans (f1.mono (fun c k q => by unfold xd; omega))).trans (xt_xd b3)).trans (f2.mono (fun c k q => by unfold xd; omega))).trans (xt_xd c3)⟩
  unfold X_Teller_tellHold
  rw [nm_eq, h.2.2.2.2.2.2.2.1]
  have hh := hV.2.2.2.2.2.1
  by_cases e : D.hT = 0
  · rw [if_pos (show nI D.hT = 0 by rw [e]; rfl)]
    exact k12 M s h Fr.rf (by rw [decide_eq_false (fun q => q e), rfs_f])
  · rw [if_neg (fun q => e ((i_z (show D.hT < 2 ^ 31 by omega)).mp q))]
    obtain ⟨M3, b1, b2, b3⟩ := h.rf n 4 (by decide)
    rw [show X_Teller_refuse n 4 M = _ from b1, bd_ret]
    exact k12 M3 _ b2 (xt_xd b3) (by rw [decide_eq_true e])
def peoS (tp : List Nat) (s : Tk) (D : Dr) : Tk := tkN tp 2 6 (rfs (decide (D.pT ≠ 0)) 4 s)
def peoD (tp : List Nat) (s : Tk) (D : Dr) : Dr := ((vaN 2 (peoS tp s D), D.R.2), D.W, D.gl, 1, D.hT, D.kn, D.hi, D.lg)
theorem x_people (n : Nat) (hn : 400 ≤ n) {M : Mem} {tp : List Nat} {s : Tk} {D : Dr} (hV : VD D) (h : XS M tp s D) : ∃ M', X_Teller_tellPeople n M = some ((), M') ∧ XS M' tp (tkS tp (peoS tp s D)) (peoD tp s D) ∧ Fr xd M M' := by
  have k12 : ∀ (N : Mem) (s2 : Tk), XS N tp s2 D → Fr xd M N → s2 = rfs (decide (D.pT ≠ 0)) 4 s → ∃ M', (bd (X_Teller_takeNumber n 2 6 (si N 3 10 1)) fun r3 M4 => nm (si M4 4 0 r3) fun N5 => bd (X_Teller_takeSign n N5) fun _ M7 => some ((), M7)) = some ((), M') ∧ XS M' tp (tkS tp (peoS tp s D)) (peoD tp s D) ∧ Fr xd M M' := by
    intro N s2 g1 g2 g3
    have f1 : Fr (fun c k => c = 3 ∧ k = 10) N (si N 3 10 1) := Fr.si ⟨rfl, rfl⟩
    have d3 := g1.2.2.2.2.2
    have hS : XS (si N 3 10 1) tp s2 (D.R, D.W, D.gl, 1, D.hT, D.kn, D.hi, D.lg) := g1.wr f1 (fun c k q => by omega) ⟨g1.2.2.2.1.fr f1 (fun c k q => by omega), g1.2.2.2.2.1.fr f1 (fun k q => by omega), ⟨d3.1, rfl, d3.2.2.1, d3.2.2.2.1, d3.2.2.2.2.1, d3.2.2.2.2.2⟩⟩
    obtain ⟨M4, b1, b2, b3⟩ := hS.num n hn 2 6 (by decide) (by decide)
    rw [show X_Teller_takeNumber n 2 6 (si N 3 10 1) = _ from b1, bd_ret, nm_eq]
    have es : tkN tp 2 6 s2 = peoS tp s D := by rw [g3]; rfl
    rw [es] at b2 ⊢
    have f2 : Fr (fun c k => c = 4 ∧ k = 0) M4 (si M4 4 0 (nI (vaN 2 (peoS tp s D)))) := Fr.si ⟨rfl, rfl⟩
    have e4 := b2.2.2.2.1
    have hS2 : XS (si M4 4 0 (nI (vaN 2 (peoS tp s D)))) tp (peoS tp s D) (peoD tp s D) := b2.wr f2 (fun c k q => by omega) ⟨⟨rfl, e4.2.1, e4.2.2⟩, b2.2.2.2.2.1.fr f2 (fun k q => by omega), b2.2.2.2.2.2.fr f2 (fun k q => by omega)⟩
    obtain ⟨M', c1, c2, c3⟩ := hS2.sign n hn
    exact ⟨M', by rw [c1, bd_ret], c2, (((g2.trans (f1.mono (fun c k q => by unfold xd; omega))).trans (xt_xd b3)).trans (f2.mono (fun c k q => by unfold xd; omega))).trans (xt_xd c3)⟩
  unfold X_Teller_tellPeople
  rw [nm_eq, h.2.2.2.2.2.2.1]
  have hh := hV.2.2.2.2.1
  by_cases e : D.pT = 0
  · rw [if_pos (show nI D.pT = 0 by rw [e]; rfl)]
    exact k12 M s h Fr.rf (by rw [decide_eq_false (fun q => q e), rfs_f])
  · rw [if_neg (fun q => e ((i_z (show D.pT < 2 ^ 31 by omega)).mp q))]
    obtain ⟨M3, b1, b2, b3⟩ := h.rf n 4 (by decide)
    rw [show X_Teller_refuse n 4 M = _ from b1, bd_ret]
    exact k12 M3 _ b2 (xt_xd b3) (by rw [decide_eq_true e])
-- hand, daily
def paA (tp : List Nat) (s : Tk) : Tk := tkN tp 0 5 s
def paB (tp : List Nat) (s : Tk) : Tk := tkN tp 0 5 (paA tp s)
def paS (tp : List Nat) (s : Tk) : Tk := tkS tp (rfs (decide (vaN 0 (paB tp s) = vaN 0 (paA tp s))) 4 (paB tp s))
def paH (tp : List Nat) (s : Tk) (D : Dr) : Dr := (D.R, D.W, D.gl, D.pT, D.hT, D.kn, max D.hi (max (vaN 0 (paA tp s)) (vaN 0 (paB tp s))), D.lg)
def paV (tp : List Nat) (s : Tk) : Nat := if (paS tp s).1 = 0 then prN (vaN 0 (paA tp s)) (vaN 0 (paB tp s)) else 0
theorem rd_0 {tp : List Nat} {s : Tk} (h : (rdX tp s).1 = 0) : s.1 = 0 := by
  by_cases q : s.1 = 0
  · exact q
  · unfold rdX at h
    rw [if_neg q] at h
    exact absurd h q
theorem tkS_0 {tp : List Nat} {s : Tk} (h : (tkS tp s).1 = 0) : s.1 = 0 ∧ (rdX tp s).2.2.1 = 3 ∧ tkS tp s = rdX tp s := by
  unfold tkS at h ⊢
  generalize ha : rdX tp s = a at h
  obtain ⟨e1, e2, e3⟩ := rfs_0 (by decide) h
  have e2 := of_decide_eq_false e2
  rw [← ha] at e1
  exact ⟨rd_0 e1, by omega, e3⟩
theorem paS_0 {tp : List Nat} {s : Tk} (h : (paS tp s).1 = 0) : vaN 0 (paB tp s) ≠ vaN 0 (paA tp s) := by
  unfold paS at h
  generalize paB tp s = b at h ⊢
  generalize paA tp s = a at h ⊢
  have e1 := (tkS_0 h).1
  exact of_decide_eq_false (rfs_0 (by decide) e1).2.1
theorem x_pair (n : Nat) (hn : 400 ≤ n) {M : Mem} {tp : List Nat} {s : Tk} {D : Dr} (hV : VD D) (h : XS M tp s D) {list ln c : Nat} (hl : list = 6 ∨ list = 7) (hc : c < ln) (hln : ln < 100) (hcl : (list = 6 → D.R.2.2.2.1.length ≤ c) ∧ (list = 7 → D.R.2.2.2.2.length ≤ c)) : ∃ M', X_Teller_tellPair n list ln (nI c) M = some (nI (c + 1), M') ∧ XS M' tp (paS tp s) (paH tp s D) ∧ Fr xd M M' ∧ M'.1 list c = nI (paV tp s) := by
  obtain ⟨M2, a1, a2, a3⟩ := h.num n hn 0 5 (by decide) (by decide)
  obtain ⟨M4, b1, b2, b3⟩ := a2.num n hn 0 5 (by decide) (by decide)
  have va := vaN_le (tp := tp) (s := s) (show 0 ≤ 5 by decide)
  have vb := vaN_le (tp := tp) (s := tkN tp 0 5 s) (show 0 ≤ 5 by decide)
  have hh := hV.2.2.2.2.2.2.2.1
  have hpV : paV tp s < 15 := by
    unfold paV
    split
    · rename_i e
      have e3 := paS_0 e
      have va : vaN 0 (paA tp s) ≤ 5 := va.2
      have vb : vaN 0 (paB tp s) ≤ 5 := vb.2
      exact (pr_ok (vaN 0 (paA tp s)) (by omega) (vaN 0 (paB tp s)) (by omega) (fun q => e3 q.symm)).1
    · decide
  have k39 : ∀ (N : Mem) (s2 : Tk), XS N tp s2 D → Fr xd M N → s2 = rfs (decide (vaN 0 (paB tp s) = vaN 0 (paA tp s))) 4 (paB tp s) → ∃ M', (nm (si N 3 13 (if (N.1 3 13) < (if nI (vaN 0 (paA tp s)) < nI (vaN 0 (paB tp s)) then nI (vaN 0 (paB tp s)) else nI (vaN 0 (paA tp s))) then (if nI (vaN 0 (paA tp s)) < nI (vaN 0 (paB tp s)) then nI (vaN 0 (paB tp s)) else nI (vaN 0 (paA tp s))) else (N.1 3 13))) fun N6 => bd (X_Teller_takeSign n N6) fun _ M8 => nm (fun (u9 : Int32) (M10 : Mem) => (gd (nI c) ln (some ((nI c + 1), si M10 list ((nI c).toNatClampNeg) u9)) : Option (Int32 × Mem))) fun k79 => (if (M8.1 3 3) = 0 then bd (X_ShakeHands_pairOf n (nI (vaN 0 (paA tp s))) (nI (vaN 0 (paB tp s))) M8) fun r11 M12 => k79 r11 M12 else k79 0 M8)) = some (nI (c + 1), M') ∧ XS M' tp (paS tp s) (paH tp s D) ∧ Fr xd M M' ∧ M'.1 list c = nI (paV tp s) := by
    intro N s2 g1 g2 g3
    have va5 : vaN 0 (paA tp s) ≤ 5 := va.2
    have vb5 : vaN 0 (paB tp s) ≤ 5 := vb.2
    have d3 := g1.2.2.2.2.2
    rw [imax _ _ (by omega) (by omega), d3.2.2.2.2.1, imax _ _ (by omega) (by omega), nm_eq]
    have f1 : Fr (fun c k => c = 3 ∧ k = 13) N (si N 3 13 (nI (max D.hi (max (vaN 0 (paA tp s)) (vaN 0 (paB tp s)))))) := Fr.si ⟨rfl, rfl⟩
    have hS : XS (si N 3 13 (nI (max D.hi (max (vaN 0 (paA tp s)) (vaN 0 (paB tp s)))))) tp s2 (paH tp s D) := g1.wr f1 (fun c k q => by omega) ⟨g1.2.2.2.1.fr f1 (fun c k q => by omega), g1.2.2.2.2.1.fr f1 (fun k q => by omega), ⟨d3.1, d3.2.1, d3.2.2.1, d3.2.2.2.1, rfl, d3.2.2.2.2.2⟩⟩
    obtain ⟨M8, c1, c2, c3⟩ := hS.sign n hn
    have es : tkS tp s2 = paS tp s := by rw [g3]; rfl
    rw [es] at c2
    rw [c1, bd_ret, nm_eq, c2.2.2.1.1, nI_1]
    have f8 := (g2.trans (f1.mono (fun c k q => by unfold xd; omega))).trans (xt_xd c3)
    have fin : ∃ M', gd (nI c) ln (some (nI (c + 1), si M8 list ((nI c).toNatClampNeg) (nI (paV tp s)))) = some (nI (c + 1), M') ∧ XS M' tp (paS tp s) (paH tp s D) ∧ Fr xd M M' ∧ M'.1 list c = nI (paV tp s) := by
      rw [gd_in (vp_in_nI (n := c) hc (by omega)), nI_clamp (by omega)]
      have f9 : Fr (fun a k => a = list ∧ k = c) M8 (si M8 list c (nI (paV tp s))) := Fr.si ⟨rfl, rfl⟩
      have x4 := c2.2.2.2.1
      have e9 : ∀ a k, ¬ (a = list ∧ k = c) → (si M8 list c (nI (paV tp s))).1 a k = M8.1 a k := fun a k q => (f9 a k q).1
      refine ⟨_, rfl, c2.wr f9 (fun a k q => by omega) ⟨⟨by rw [e9 _ _ (by omega)]; exact x4.1, by rw [e9 _ _ (by omega)]; exact x4.2.1, by rw [e9 _ _ (by omega)]; exact x4.2.2.1, by rw [e9 _ _ (by omega)]; exact x4.2.2.2.1, by rw [e9 _ _ (by omega)]; exact x4.2.2.2.2.1, fun j q hq => by rw [e9 _ _ (by omega), e9 _ _ (by omega), e9 _ _ (by omega)]; exact x4.2.2.2.2.2.1 j q hq, fun i h hi => by
          have := (List.getElem?_eq_some_iff.mp hi).1
          rw [e9 _ _ (fun q => by have := hcl.1 q.1.symm; have h5 : (paH tp s D).R.2.2.2.1.length = D.R.2.2.2.1.length := rfl; omega)]
          exact x4.2.2.2.2.2.2.1 i h hi, fun i h hi => by
          have := (List.getElem?_eq_some_iff.mp hi).1
          rw [e9 _ _ (fun q => by have := hcl.2 q.1.symm; have h5 : (paH tp s D).R.2.2.2.2.length = D.R.2.2.2.2.length := rfl; omega)]
          exact x4.2.2.2.2.2.2.2 i h hi⟩, c2.2.2.2.2.1.fr f9 (fun k q => by omega), c2.2.2.2.2.2.fr f9 (fun k q => by omega)⟩, f8.trans (f9.mono (fun a k q => by unfold xd; omega)), si_at _ _ _ _⟩
    by_cases e0 : (paS tp s).1 = 0
    · have e3 := paS_0 e0
      have ev : paV tp s = prN (vaN 0 (paA tp s)) (vaN 0 (paB tp s)) := if_pos e0
      rw [if_pos (show nI (paS tp s).1 = 0 by rw [e0]; rfl), x_pairOf n (by omega) (by omega) (fun q => e3 q.symm), bd_ret, ← ev]
      exact fin
    · have ev : paV tp s = 0 := if_neg e0
      rw [if_neg (fun q => e0 ((i_z (by have := c2.2.1.1; omega)).mp q))]
      rw [ev] at fin ⊢
      exact fin
  have f4 := (xt_xd a3).trans (xt_xd b3)
  have un : X_Teller_tellPair n list ln (nI c) M = (if nI c < nI ln then (if nI (vaN 0 (paB tp s)) = nI (vaN 0 (paA tp s)) then (bd (X_Teller_refuse n 4 M4) fun _ M14 => (nm (si M14 3 13 (if (M14.1 3 13) < (if nI (vaN 0 (paA tp s)) < nI (vaN 0 (paB tp s)) then nI (vaN 0 (paB tp s)) else nI (vaN 0 (paA tp s))) then (if nI (vaN 0 (paA tp s)) < nI (vaN 0 (paB tp s)) then nI (vaN 0 (paB tp s)) else nI (vaN 0 (paA tp s))) else (M14.1 3 13))) fun N6 => bd (X_Teller_takeSign n N6) fun _ M8 => nm (fun (u9 : Int32) (M10 : Mem) => (gd (nI c) ln (some ((nI c + 1), si M10 list ((nI c).toNatClampNeg) u9)) : Option (Int32 × Mem))) fun k79 => (if (M8.1 3 3) = 0 then bd (X_ShakeHands_pairOf n (nI (vaN 0 (paA tp s))) (nI (vaN 0 (paB tp s))) M8) fun r11 M12 => k79 r11 M12 else k79 0 M8))) else (nm (si M4 3 13 (if (M4.1 3 13) < (if nI (vaN 0 (paA tp s)) < nI (vaN 0 (paB tp s)) then nI (vaN 0 (paB tp s)) else nI (vaN 0 (paA tp s))) then (if nI (vaN 0 (paA tp s)) < nI (vaN 0 (paB tp s)) then nI (vaN 0 (paB tp s)) else nI (vaN 0 (paA tp s))) else (M4.1 3 13))) fun N6 => bd (X_Teller_takeSign n N6) fun _ M8 => nm (fun (u9 : Int32) (M10 : Mem) => (gd (nI c) ln (some ((nI c + 1), si M10 list ((nI c).toNatClampNeg) u9)) : Option (Int32 × Mem))) fun k79 => (if (M8.1 3 3) = 0 then bd (X_ShakeHands_pairOf n (nI (vaN 0 (paA tp s))) (nI (vaN 0 (paB tp s))) M8) fun r11 M12 => k79 r11 M12 else k79 0 M8))) else bd (X_Teller_refuse n 5 M) fun _ M16 => some (nI c, M16)) := by
    unfold X_Teller_tellPair
    rw [show X_Teller_takeNumber n 0 5 M = _ from a1, bd_ret, show X_Teller_takeNumber n 0 5 M2 = _ from b1, bd_ret]
    rfl
  have va5 : vaN 0 (paA tp s) ≤ 5 := va.2
  have vb5 : vaN 0 (paB tp s) ≤ 5 := vb.2
  rw [un, if_pos (nI_lt hc (by omega))]
  by_cases e : vaN 0 (paB tp s) = vaN 0 (paA tp s)
  · obtain ⟨M14, c1, c2, c3⟩ := b2.rf n 4 (by decide)
    rw [if_pos (by rw [e]), show X_Teller_refuse n 4 M4 = _ from c1, bd_ret]
    exact k39 M14 _ c2 (f4.trans (xt_xd c3)) (by rw [decide_eq_true e]; rfl)
  · rw [if_neg (fun q => e ((nI_eq (by omega) (by omega)).mp q))]
    exact k39 M4 _ b2 f4 (by rw [decide_eq_false e, rfs_f]; rfl)
end
section
/-! THE TEXT: join, knows, in the class -/
def joA (tp : List Nat) (s : Tk) : Tk := tkN tp 0 15 s
def joB (tp : List Nat) (s : Tk) : Tk := tkN tp 0 15 (joA tp s)
def joC (tp : List Nat) (s : Tk) : Tk := tkN tp 0 15 (rfs (decide (vaN 0 (joB tp s) = vaN 0 (joA tp s))) 4 (joB tp s))
def joS (tp : List Nat) (s : Tk) : Tk := tkS tp (rfs (decide (vaN 0 (joC tp s) = vaN 0 (joA tp s) ∨ vaN 0 (joC tp s) = vaN 0 (joB tp s))) 4 (joC tp s))
def joD (tp : List Nat) (s : Tk) (D : Dr) : Dr := ((D.R.1, D.R.2.1, D.R.2.2.1 ++ [(vaN 0 (joA tp s), vaN 0 (joB tp s), vaN 0 (joC tp s))], D.R.2.2.2), D.2)
theorem joins_snoc {c : Nat} {M M' : Mem} {js : List Jn} {x y z : Nat} (h : ∀ j q, js[j]? = some q → M.1 c (3 * j) = nI q.1 ∧ M.1 c (3 * j + 1) = nI q.2.1 ∧ M.1 c (3 * j + 2) = nI q.2.2) (he : ∀ k, k < 3 * js.length → M'.1 c k = M.1 c k) (v0 : M'.1 c (3 * js.length) = nI x) (v1 : M'.1 c (3 * js.length + 1) = nI y) (v2 : M'.1 c (3 * js.length + 2) = nI z) : ∀ j q, (js ++ [(x, y, z)])[j]? = some q → M'.1 c (3 * j) = nI q.1 ∧ M'.1 c (3 * j + 1) = nI q.2.1 ∧ M'.1 c (3 * j + 2) = nI q.2.2 := fun j q hq => by
  have hl := (List.getElem?_eq_some_iff.mp hq).1
  rw [List.length_append, List.length_singleton] at hl
  by_cases e : j < js.length
  · rw [List.getElem?_append_left (by omega)] at hq
    rw [he _ (by omega), he _ (by omega), he _ (by omega)]
    exact h j q hq
  · have ej : j = js.length := by omega
    subst ej
    rw [List.getElem?_append_right (by omega), Nat.sub_self] at hq
    have hq : q = (x, y, z) := (Option.some.inj hq).symm
    rw [hq]
    exact ⟨v0, v1, v2⟩
theorem x_join (n : Nat) (hn : 400 ≤ n) {M : Mem} {tp : List Nat} {s : Tk} {D : Dr} (h : XS M tp s D) (hj : D.R.2.2.1.length < 4) : ∃ M', X_Teller_tellJoin n M = some ((), M') ∧ XS M' tp (joS tp s) (joD tp s D) ∧ Fr xd M M' := by
  obtain ⟨M2, a1, a2, a3⟩ := h.num n hn 0 15 (by decide) (by decide)
  obtain ⟨M4, b1, b2, b3⟩ := a2.num n hn 0 15 (by decide) (by decide)
  have va : vaN 0 (joA tp s) ≤ 15 := (vaN_le (tp := tp) (s := s) (show 0 ≤ 15 by decide)).2
  have vb : vaN 0 (joB tp s) ≤ 15 := (vaN_le (tp := tp) (s := joA tp s) (show 0 ≤ 15 by decide)).2
  have vc : vaN 0 (joC tp s) ≤ 15 := (vaN_le (tp := tp) (s := rfs (decide (vaN 0 (joB tp s) = vaN 0 (joA tp s))) 4 (joB tp s)) (show 0 ≤ 15 by decide)).2
  have a1 : X_Teller_takeNumber n 0 15 M = some (nI (vaN 0 (joA tp s)), M2) := a1
  have b1 : X_Teller_takeNumber n 0 15 M2 = some (nI (vaN 0 (joB tp s)), M4) := b1
  have b2 : XS M4 tp (joB tp s) D := b2
  have f4 := (xt_xd a3).trans (xt_xd b3)
  have h43 := h.2.2.2.1.2.2.1
  have k66 : ∀ (N : Mem) (s2 : Tk), XS N tp s2 D → Fr xd M N → tkS tp s2 = joS tp s → ∃ M', (bd (X_Teller_takeSign n N) fun _ M10 => nm ((3 : Int32) * (M10.1 4 3)) fun x11 => gd x11 12 (gd (x11 + 1) 12 (gd (x11 + 2) 12 (nm (si (si (si M10 5 (x11.toNatClampNeg) (nI (vaN 0 (joA tp s)))) 5 ((x11 + 1).toNatClampNeg) (nI (vaN 0 (joB tp s)))) 5 ((x11 + 2).toNatClampNeg) (nI (vaN 0 (joC tp s)))) fun N12 => some ((), si N12 4 3 ((N12.1 4 3) + 1)))))) = some ((), M') ∧ XS M' tp (joS tp s) (joD tp s D) ∧ Fr xd M M' := by
    intro N s2 g1 g2 g3
    obtain ⟨M10, c1, c2, c3⟩ := g1.sign n hn
    rw [g3] at c2
    have e43 := c2.2.2.2.1.2.2.1
    rw [c1, bd_ret, nm_eq, e43, show (3 : Int32) = nI 3 from rfl, pk_mul, nI_1, show (2 : Int32) = nI 2 from rfl, nI_add]
    generalize hL : D.R.2.2.1.length = L at hj e43
    rw [gd_in (vp_in_nI (n := 3 * L) (by omega) (by decide)), gd_in (vp_in_nI (n := 3 * L + 1) (by omega) (by decide)), gd_in (vp_in_nI (n := 3 * L + 2) (by omega) (by decide)), nI_clamp (show 3 * L < 2 ^ 31 by omega), nI_clamp (show 3 * L + 1 < 2 ^ 31 by omega), nI_clamp (show 3 * L + 2 < 2 ^ 31 by omega), nm_eq, si_ne (Or.inl (by decide)), si_ne (Or.inl (by decide)), si_ne (Or.inl (by decide)), e43, nI_1]
    generalize hN : si (si (si M10 5 (3 * L) (nI (vaN 0 (joA tp s)))) 5 (3 * L + 1) (nI (vaN 0 (joB tp s)))) 5 (3 * L + 2) (nI (vaN 0 (joC tp s))) = N12
    have f12 : Fr (fun c k => c = 5 ∧ 3 * L ≤ k) M10 N12 := by rw [← hN]; exact ((Fr.si ⟨rfl, by omega⟩).trans (Fr.si ⟨rfl, by omega⟩)).trans (Fr.si ⟨rfl, by omega⟩)
    have f13 : Fr (fun c k => (c = 5 ∧ 3 * L ≤ k) ∨ (c = 4 ∧ k = 3)) M10 (si N12 4 3 (nI (L + 1))) := (f12.mono (fun c k q => Or.inl q)).trans (Fr.si (Or.inr ⟨rfl, rfl⟩))
    have x4 := c2.2.2.2.1
    have e9 : ∀ a k, ¬ ((a = 5 ∧ 3 * L ≤ k) ∨ (a = 4 ∧ k = 3)) → (si N12 4 3 (nI (L + 1))).1 a k = M10.1 a k := fun a k q => (f13 a k q).1
    have v0 : (si N12 4 3 (nI (L + 1))).1 5 (3 * L) = nI (vaN 0 (joA tp s)) := by rw [si_ne (Or.inl (by decide)), ← hN, si_ne (Or.inr (by omega)), si_ne (Or.inr (by omega)), si_at]
    have v1 : (si N12 4 3 (nI (L + 1))).1 5 (3 * L + 1) = nI (vaN 0 (joB tp s)) := by rw [si_ne (Or.inl (by decide)), ← hN, si_ne (Or.inr (by omega)), si_at]
    have v2 : (si N12 4 3 (nI (L + 1))).1 5 (3 * L + 2) = nI (vaN 0 (joC tp s)) := by rw [si_ne (Or.inl (by decide)), ← hN, si_at]
    refine ⟨_, rfl, c2.wr f13 (fun a k q => by omega) ⟨⟨by rw [e9 _ _ (by omega)]; exact x4.1, by rw [e9 _ _ (by omega)]; exact x4.2.1, ?_, by rw [e9 _ _ (by omega)]; exact x4.2.2.2.1, by rw [e9 _ _ (by omega)]; exact x4.2.2.2.2.1, joins_snoc x4.2.2.2.2.2.1 (fun k hk => e9 5 k (by omega)) (by rw [hL]; exact v0) (by rw [hL]; exact v1) (by rw [hL]; exact v2), fun i h hi => by rw [e9 _ _ (by omega)]; exact x4.2.2.2.2.2.2.1 i h hi, fun i h hi => by rw [e9 _ _ (by omega)]; exact x4.2.2.2.2.2.2.2 i h hi⟩, c2.2.2.2.2.1.fr f13 (fun k q => by omega), c2.2.2.2.2.2.fr f13 (fun k q => by omega)⟩, (g2.trans (xt_xd c3)).trans (f13.mono (fun a k q => by unfold xd; omega))⟩
    · rw [si_at]
      show nI (L + 1) = nI (D.R.2.2.1 ++ [(vaN 0 (joA tp s), vaN 0 (joB tp s), vaN 0 (joC tp s))]).length
      rw [List.length_append, hL]; rfl
  have k43 : ∀ (N : Mem) (s2 : Tk), XS N tp s2 D → Fr xd M N → s2 = rfs (decide (vaN 0 (joB tp s) = vaN 0 (joA tp s))) 4 (joB tp s) → ∃ M', (bd (X_Teller_takeNumber n 0 15 N) fun r6 M7 => nm (fun (M8 : Mem) => (bd (X_Teller_takeSign n M8) fun _ M10 => nm ((3 : Int32) * (M10.1 4 3)) fun x11 => gd x11 12 (gd (x11 + 1) 12 (gd (x11 + 2) 12 (nm (si (si (si M10 5 (x11.toNatClampNeg) (nI (vaN 0 (joA tp s)))) 5 ((x11 + 1).toNatClampNeg) (nI (vaN 0 (joB tp s)))) 5 ((x11 + 2).toNatClampNeg) r6) fun N12 => some ((), si N12 4 3 ((N12.1 4 3) + 1))))) : Option (Unit × Mem))) fun k66 => nm (bd (X_Teller_refuse n 4 M7) fun _ M14 => k66 M14 : Option (Unit × Mem)) fun k61 => (if r6 = nI (vaN 0 (joA tp s)) then k61 else (if r6 = nI (vaN 0 (joB tp s)) then k61 else k66 M7))) = some ((), M') ∧ XS M' tp (joS tp s) (joD tp s D) ∧ Fr xd M M' := by
    intro N s2 g1 g2 g3
    obtain ⟨M7, c1, c2, c3⟩ := g1.num n hn 0 15 (by decide) (by decide)
    have es : tkN tp 0 15 s2 = joC tp s := by rw [g3]; rfl
    rw [es] at c1 c2
    rw [show X_Teller_takeNumber n 0 15 N = _ from c1, bd_ret, nm_eq, nm_eq]
    have f7 := g2.trans (xt_xd c3)
    have bad : vaN 0 (joC tp s) = vaN 0 (joA tp s) ∨ vaN 0 (joC tp s) = vaN 0 (joB tp s) → ∃ M', (bd (X_Teller_refuse n 4 M7) fun _ M14 => (bd (X_Teller_takeSign n M14) fun _ M10 => nm ((3 : Int32) * (M10.1 4 3)) fun x11 => gd x11 12 (gd (x11 + 1) 12 (gd (x11 + 2) 12 (nm (si (si (si M10 5 (x11.toNatClampNeg) (nI (vaN 0 (joA tp s)))) 5 ((x11 + 1).toNatClampNeg) (nI (vaN 0 (joB tp s)))) 5 ((x11 + 2).toNatClampNeg) (nI (vaN 0 (joC tp s)))) fun N12 => some ((), si N12 4 3 ((N12.1 4 3) + 1))))))) = some ((), M') ∧ XS M' tp (joS tp s) (joD tp s D) ∧ Fr xd M M' := fun q => by
      obtain ⟨M14, d1, d2, d3⟩ := c2.rf n 4 (by decide)
      rw [show X_Teller_refuse n 4 M7 = _ from d1, bd_ret]
      exact k66 M14 _ d2 (f7.trans (xt_xd d3)) (by unfold joS; rw [decide_eq_true q])
    by_cases e1 : vaN 0 (joC tp s) = vaN 0 (joA tp s)
    · rw [if_pos (by rw [e1])]
      exact bad (Or.inl e1)
    · rw [if_neg (fun q => e1 ((nI_eq (by omega) (by omega)).mp q))]
      by_cases e2 : vaN 0 (joC tp s) = vaN 0 (joB tp s)
      · rw [if_pos (by rw [e2])]
        exact bad (Or.inr e2)
      · rw [if_neg (fun q => e2 ((nI_eq (by omega) (by omega)).mp q))]
        exact k66 M7 _ c2 f7 (by unfold joS; rw [decide_eq_false (fun q => q.elim e1 e2), rfs_f])
  unfold X_Teller_tellJoin
  rw [h43, if_pos (show nI D.R.2.2.1.length < 4 from nI_lt (b := 4) hj (by decide)), a1, bd_ret, b1, bd_ret, nm_eq]
  by_cases e : vaN 0 (joB tp s) = vaN 0 (joA tp s)
  · obtain ⟨M14, c1, c2, c3⟩ := b2.rf n 4 (by decide)
    rw [if_pos (by rw [e]), show X_Teller_refuse n 4 M4 = _ from c1, bd_ret]
    exact k43 M14 _ c2 (f4.trans (xt_xd c3)) (by rw [decide_eq_true e])
  · rw [if_neg (fun q => e ((nI_eq (by omega) (by omega)).mp q))]
    exact k43 M4 _ b2 f4 (by rw [decide_eq_false e, rfs_f])
-- knows
def thL (l : List Nat) (t : Nat) : List Nat := if t ∈ l then l else if l.length < 9 then l ++ [t] else l
def thS (l : List Nat) (t : Nat) (s : Tk) : Tk := rfs (decide (t ∈ l)) 4 (rfs (decide (t ∉ l ∧ 9 ≤ l.length)) 5 s)
theorem thL_ok {l : List Nat} {t : Nat} (h : Ro l) (h9 : l.length ≤ 9) (ht : t < 16) : Ro (thL l t) ∧ (thL l t).length ≤ 9 := by
  unfold thL
  split
  · exact ⟨h, h9⟩
  · rename_i e
    split
    · have := h.addT ht
      unfold addT at this
      rw [if_neg e] at this
      refine ⟨this, ?_⟩
      rw [List.length_append, List.length_singleton]
      omega
    · exact ⟨h, h9⟩
theorem XS.st (M : Mem) {tp : List Nat} {s : Tk} {D : Dr} (h : XS M tp s D) (l : List Nat) : XS (stR M 10 l) tp s D ∧ Fr xd M (stR M 10 l) := by
  have f : Fr (fun c _ => c = 10) M (stR M 10 l) := fun a k ha => by
    have := stR_off (M := M) (l := l) (show a ≠ 10 from ha)
    rw [this.1, this.2]
    exact ⟨rfl, rfl⟩
  exact ⟨h.wr f (fun c k q => by omega) ⟨h.2.2.2.1.fr f (fun c k q => by omega), h.2.2.2.2.1.fr f (fun k q => by omega), h.2.2.2.2.2.fr f (fun k q => by omega)⟩, f.mono (fun c k q => by unfold xd; omega)⟩
theorem x_thing (n : Nat) {M : Mem} {tp : List Nat} {s : Tk} {D : Dr} (h : XS M tp s D) {l : List Nat} {t : Nat} (hM : RowAt M 10 l) (hr : Ro l) (h9 : l.length ≤ 9) (ht : t < 16) : ∃ M', X_Teller_tellThing n (nI t) M = some ((), M') ∧ XS M' tp (thS l t s) D ∧ RowAt M' 10 (thL l t) ∧ Fr xd M M' := by
  have hk := knN_lt hr.2
  have rowx : ∀ M', Fr xt M M' → RowAt M' 10 l := fun M' f => ⟨by rw [(f 10 0 (fun q => by unfold xt at q; omega)).2]; exact hM.1, by rw [(f 10 1 (fun q => by unfold xt at q; omega)).1]; exact hM.2⟩
  unfold X_Teller_tellThing thS thL
  rw [hM.2, b_iu (by omega) (by omega), knN_bit]
  by_cases e : t ∈ l
  · rw [decide_eq_true e, if_neg (show ¬ nI (if true = true then 1 else 0) = 0 by decide), if_pos e, decide_eq_false (fun q => q.1 e)]
    obtain ⟨M', b1, b2, b3⟩ := h.rf n 4 (by decide)
    rw [show X_Teller_refuse n 4 M = _ from b1, bd_ret]
    exact ⟨M', rfl, b2, rowx M' b3, xt_xd b3⟩
  · rw [decide_eq_false e, if_pos (show nI (if false = true then 1 else 0) = 0 from rfl), bitCount_eq n hk, pop_knN hr, bd_ret, if_neg e]
    by_cases e9 : l.length < 9
    · rw [if_pos (show nI l.length < 9 from nI_lt (b := 9) e9 (by decide)), row_add n hM hr ht, bd_ret, if_pos e9, decide_eq_false (fun q => by omega)]
      have ea : addT l t = l ++ [t] := if_neg e
      rw [ea]
      obtain ⟨g1, g2⟩ := h.st M (l ++ [t])
      exact ⟨_, rfl, g1, stR_at _ _ _, g2⟩
    · rw [if_neg (show ¬ nI l.length < 9 from Int32.not_lt.mpr (nI_le (a := 9) (by omega) (by omega))), if_neg e9, decide_eq_true ⟨e, by omega⟩]
      obtain ⟨M', b1, b2, b3⟩ := h.rf n 5 (by decide)
      rw [show X_Teller_refuse n 5 M = _ from b1, bd_ret]
      exact ⟨M', rfl, b2, rowx M' b3, xt_xd b3⟩
end
section
/-! THE TEXT: knows, in the class -/
theorem RowAt.tk {M M' : Mem} {l : List Nat} (h : RowAt M 10 l) (f : Fr xt M M') : RowAt M' 10 l := ⟨by rw [(f 10 0 (fun q => by unfold xt at q; omega)).2]; exact h.1, by rw [(f 10 1 (fun q => by unfold xt at q; omega)).1]; exact h.2⟩
theorem XS.bd (n : Nat) {M : Mem} {tp : List Nat} {s : Tk} {D : Dr} (h : XS M tp s D) (hk : s.2.2.1 = 2) (lo hi : Nat) (hl : lo < 2 ^ 31) (hh : hi < 2 ^ 31) : ∃ M', X_Teller_boundedValue n (nI lo) (nI hi) M = some (nI (vaN lo (rfs (oob lo hi s.2.2.2.2) 3 s)), M') ∧ XS M' tp (rfs (oob lo hi s.2.2.2.2) 3 s) D ∧ Fr xt M M' := by
  obtain ⟨M', a1, a2, a3⟩ := x_bounded n hl hh h.2.1.1 (fun e => by have := h.2.1.2.2.1 e hk; omega) h.2.2.1
  exact ⟨M', a1, ⟨h.1.dr (xt_xd a3), rfs_ok (by decide) h.2.1, a2, h.2.2.2.tk a3⟩, a3⟩
def bd15 (s : Tk) : Tk := rfs (oob 0 15 s.2.2.2.2) 3 s
theorem bd15_le (s : Tk) : vaN 0 (bd15 s) ≤ 15 := by
  unfold vaN bd15
  by_cases e : (rfs (oob 0 15 s.2.2.2.2) 3 s).1 = 0
  · rw [if_pos e]
    obtain ⟨e1, e2, e3⟩ := rfs_0 (by decide) e
    rw [e3]
    have := of_decide_eq_false e2
    omega
  · rw [if_neg e]; decide
def rwL (tp : List Nat) : Nat → List Nat → Tk → List Nat × Tk
  | 0, l, s => (l, s)
  | k + 1, l, s => if s.1 = 0 ∧ s.2.2.1 = 2 then rwL tp k (thL l (vaN 0 (bd15 s))) (rdX tp (thS l (vaN 0 (bd15 s)) (bd15 s))) else (l, s)
theorem x_rowL (n : Nat) (hn : 400 ≤ n) {a1 : Int32} (kx : Mem → Option (Unit × Mem)) {tp : List Nat} {D : Dr} : ∀ k v f M l s, v + k = 10 → k < f → XS M tp s D → RowAt M 10 l → Ro l → l.length ≤ 9 → ∃ M', X_Teller_tellRow_L72 n a1 kx f (nI v) M = kx M' ∧ XS M' tp (rwL tp k l s).2 D ∧ RowAt M' 10 (rwL tp k l s).1 ∧ Ro (rwL tp k l s).1 ∧ (rwL tp k l s).1.length ≤ 9 ∧ Fr xd M M'
  | 0, v, f, M, l, s, h1, h2, hS, hM, hr, h9 => by
    obtain ⟨f, rfl⟩ : ∃ q, f = q + 1 := ⟨f - 1, by omega⟩
    refine ⟨M, ?_, hS, hM, hr, h9, Fr.rf⟩
    show (if (9 : Int32) < nI v then kx M else _) = _
    rw [if_pos (show (9 : Int32) < nI v from nI_lt (a := 9) (by omega) (by omega))]
  | k + 1, v, f, M, l, s, h1, h2, hS, hM, hr, h9 => by
    obtain ⟨f, rfl⟩ : ∃ q, f = q + 1 := ⟨f - 1, by omega⟩
    have un : X_Teller_tellRow_L72 n a1 kx (f + 1) (nI v) M = (if nI s.1 = 0 then (if nI s.2.2.1 = 2 then (bd (X_Teller_boundedValue n 0 15 M) fun r14 M15 => bd (X_Teller_tellThing n r14 M15) fun _ M17 => bd (X_Teller_readToken n M17) fun _ M19 => X_Teller_tellRow_L72 n a1 kx f (nI (v + 1)) M19) else kx M) else kx M) := by
      show (if (9 : Int32) < nI v then kx M else (if (M.1 3 3) = 0 then (if (M.1 3 7) = 2 then (bd (X_Teller_boundedValue n 0 15 M) fun r14 M15 => bd (X_Teller_tellThing n r14 M15) fun _ M17 => bd (X_Teller_readToken n M17) fun _ M19 => X_Teller_tellRow_L72 n a1 kx f (nI v + 1) M19) else kx M) else kx M)) = _
      rw [if_neg (show ¬ (9 : Int32) < nI v from Int32.not_lt.mpr (nI_le (b := 9) (by omega) (by decide))), hS.2.2.1.1, hS.2.2.1.2.2.1, nI_1]
    rw [un]
    unfold rwL
    by_cases e1 : s.1 = 0
    · rw [if_pos (show nI s.1 = 0 by rw [e1]; rfl)]
      by_cases e2 : s.2.2.1 = 2
      · rw [if_pos (show nI s.2.2.1 = 2 by rw [e2]; rfl), if_pos ⟨e1, e2⟩]
        obtain ⟨M15, b1, b2, b3⟩ := hS.bd n e2 0 15 (by decide) (by decide)
        have b1 : X_Teller_boundedValue n 0 15 M = some (nI (vaN 0 (bd15 s)), M15) := b1
        have b2 : XS M15 tp (bd15 s) D := b2
        have hb := bd15_le s
        obtain ⟨M17, c1, c2, c3, c4⟩ := x_thing n b2 (hM.tk b3) hr h9 (show vaN 0 (bd15 s) < 16 by omega)
        obtain ⟨r1, r2⟩ := thL_ok (t := vaN 0 (bd15 s)) hr h9 (by omega)
        obtain ⟨M19, d1, d2, d3⟩ := c2.rd n hn
        obtain ⟨M', g1, g2, g3, g4, g5, g6⟩ := x_rowL n hn kx k (v + 1) f M19 _ _ (by omega) (by omega) d2 (c3.tk d3) r1 r2
        refine ⟨M', ?_, g2, g3, g4, g5, (((xt_xd b3).trans c4).trans (xt_xd d3)).trans g6⟩
        rw [b1, bd_ret, c1, bd_ret, d1, bd_ret]
        exact g1
      · rw [if_neg (show ¬ nI s.2.2.1 = 2 from fun q => e2 ((nI_eq (b := 2) (by have := hS.2.1.2.2.2; omega) (by decide)).mp q)), if_neg (fun q => e2 q.2)]
        exact ⟨M, rfl, hS, hM, hr, h9, Fr.rf⟩
    · rw [if_neg (fun q => e1 ((i_z (by have := hS.2.1.1; omega)).mp q)), if_neg (fun q => e1 q.1)]
      exact ⟨M, rfl, hS, hM, hr, h9, Fr.rf⟩
def knA (tp : List Nat) (s : Tk) : Tk := tkN tp 0 5 s
def knB (tp : List Nat) (s : Tk) (D : Dr) : Tk := rfs (D.kn.testBit (vaN 0 (knA tp s))) 4 (knA tp s)
def knC (tp : List Nat) (s : Tk) (D : Dr) : Tk := tkN tp 0 15 (knB tp s D)
def knE (tp : List Nat) (s : Tk) (D : Dr) : List Nat × Tk := rwL tp 9 (thL [] (vaN 0 (knC tp s D))) (rdX tp (thS [] (vaN 0 (knC tp s D)) (knC tp s D)))
def knS (tp : List Nat) (s : Tk) (D : Dr) : Tk := rfs (decide ((knE tp s D).2.2.2.1 ≠ 3)) 2 (knE tp s D).2
def knD (tp : List Nat) (s : Tk) (D : Dr) : Dr := (D.R, updW D.W (vaN 0 (knA tp s)) (knE tp s D).1, D.gl, D.pT, D.hT, D.kn ||| 2 ^ vaN 0 (knA tp s), max D.hi (vaN 0 (knA tp s)), max D.lg (knE tp s D).1.length)
theorem enc_nil : enc [] = 0 := by decide +kernel
theorem take_nil (n : Nat) (M : Mem) : X_Row_take n 10 0 M = some ((), stR M 10 []) := by
  have h := row_take n (o := 10) (M := M) (l := []) ⟨List.nodup_nil, fun t q => absurd q List.not_mem_nil⟩ (by decide)
  rw [enc_nil] at h
  exact h
theorem x_row (n : Nat) (hn : 400 ≤ n) {M : Mem} {tp : List Nat} {s : Tk} {D : Dr} (hV : VD D) (h : XS M tp s D) : ∃ M', X_Teller_tellRow n M = some ((), M') ∧ XS M' tp (knS tp s D) (knD tp s D) ∧ Fr xd M M' ∧ Ro (knE tp s D).1 ∧ (knE tp s D).1.length ≤ 9 := by
  obtain ⟨M2, a1, a2, a3⟩ := h.num n hn 0 5 (by decide) (by decide)
  have a1 : X_Teller_takeNumber n 0 5 M = some (nI (vaN 0 (knA tp s)), M2) := a1
  have a2 : XS M2 tp (knA tp s) D := a2
  have hp : vaN 0 (knA tp s) ≤ 5 := (vaN_le (tp := tp) (s := s) (show 0 ≤ 5 by decide)).2
  have hkn := hV.2.2.2.2.2.2.1
  have hhi := hV.2.2.2.2.2.2.2.1
  have hlg := hV.2.2.2.2.2.2.2.2
  have k23 : ∀ (N : Mem), XS N tp (knB tp s D) D → Fr xd M N → ∃ M', (nm (si N 3 12 ((N.1 3 12) ||| ((1 : Int32) <<< (nI (vaN 0 (knA tp s)) &&& 31)))) fun N4 => nm (si N4 3 13 (if (N4.1 3 13) < nI (vaN 0 (knA tp s)) then nI (vaN 0 (knA tp s)) else (N4.1 3 13))) fun N5 => bd (X_Row_take n 10 0 N5) fun _ M7 => bd (X_Teller_takeNumber n 0 15 M7) fun r8 M9 => bd (X_Teller_tellThing n r8 M9) fun _ M11 => bd (X_Teller_readToken n M11) fun _ M13 => X_Teller_tellRow_L72 n (nI (vaN 0 (knA tp s))) (fun M20 => nm (fun (M21 : Mem) => (bd (X_Integer_bitCount n (M21.1 10 1) M21) fun r22 M23 => nm (si M23 3 14 (if (M21.1 3 14) < r22 then r22 else (M21.1 3 14))) fun N24 => bd (X_Row_atRest n 10 N24) fun r25 M26 => gd (nI (vaN 0 (knA tp s))) 6 (some ((), sl M26 9 ((nI (vaN 0 (knA tp s))).toNatClampNeg) r25)) : Option (Unit × Mem))) fun k127 => (if (M20.1 3 7) = 3 then k127 M20 else bd (X_Teller_refuse n 2 M20) fun _ M28 => k127 M28)) n 1 M13) = some ((), M') ∧ XS M' tp (knS tp s D) (knD tp s D) ∧ Fr xd M M' ∧ Ro (knE tp s D).1 ∧ (knE tp s D).1.length ≤ 9 := by
    intro N g1 g2
    have d3 := g1.2.2.2.2.2
    rw [nm_eq, nm_eq, d3.2.2.2.1, i_shl1 (by omega), i_or, si_ne (Or.inr (by decide)), d3.2.2.2.2.1, imax _ _ (by omega) (by omega)]
    generalize hN5 : si (si N 3 12 (nI (D.kn ||| 2 ^ vaN 0 (knA tp s)))) 3 13 (nI (max D.hi (vaN 0 (knA tp s)))) = N5
    have f5 : Fr (fun c k => c = 3 ∧ (k = 12 ∨ k = 13)) N N5 := by rw [← hN5]; exact (Fr.si ⟨rfl, Or.inl rfl⟩).trans (Fr.si ⟨rfl, Or.inr rfl⟩)
    have hS5 : XS N5 tp (knB tp s D) (D.R, D.W, D.gl, D.pT, D.hT, D.kn ||| 2 ^ vaN 0 (knA tp s), max D.hi (vaN 0 (knA tp s)), D.lg) := g1.wr f5 (fun c k q => by omega) ⟨g1.2.2.2.1.fr f5 (fun c k q => by omega), g1.2.2.2.2.1.fr f5 (fun k q => by omega), ⟨by rw [(f5 3 2 (by omega)).1]; exact d3.1, by rw [(f5 3 10 (by omega)).1]; exact d3.2.1, by rw [(f5 3 11 (by omega)).1]; exact d3.2.2.1, by rw [← hN5]; rfl, by rw [← hN5]; rfl, by rw [(f5 3 14 (by omega)).1]; exact d3.2.2.2.2.2⟩⟩
    obtain ⟨hS7, f7⟩ := hS5.st N5 []
    obtain ⟨M9, c1, c2, c3⟩ := hS7.num n hn 0 15 (by decide) (by decide)
    have c1 : X_Teller_takeNumber n 0 15 (stR N5 10 []) = some (nI (vaN 0 (knC tp s D)), M9) := c1
    have c2 : XS M9 tp (knC tp s D) _ := c2
    have ht : vaN 0 (knC tp s D) ≤ 15 := (vaN_le (tp := tp) (s := knB tp s D) (show 0 ≤ 15 by decide)).2
    have r0 : Ro ([] : List Nat) := ⟨List.nodup_nil, fun t q => absurd q List.not_mem_nil⟩
    obtain ⟨M11, e1, e2, e3, e4⟩ := x_thing n c2 ((stR_at N5 10 []).tk c3) r0 (by decide) (show vaN 0 (knC tp s D) < 16 by omega)
    obtain ⟨r1, r2⟩ := thL_ok (t := vaN 0 (knC tp s D)) r0 (by decide) (by omega)
    obtain ⟨M13, i1, i2, i3⟩ := e2.rd n hn
    generalize hkx : (fun M20 : Mem => nm (fun (M21 : Mem) => (bd (X_Integer_bitCount n (M21.1 10 1) M21) fun r22 M23 => nm (si M23 3 14 (if (M21.1 3 14) < r22 then r22 else (M21.1 3 14))) fun N24 => bd (X_Row_atRest n 10 N24) fun r25 M26 => gd (nI (vaN 0 (knA tp s))) 6 (some ((), sl M26 9 ((nI (vaN 0 (knA tp s))).toNatClampNeg) r25)) : Option (Unit × Mem))) fun k127 => (if (M20.1 3 7) = 3 then k127 M20 else bd (X_Teller_refuse n 2 M20) fun _ M28 => k127 M28)) = kx
    obtain ⟨M20, j1, j2, j3, j4, j5, j6⟩ := x_rowL n hn (a1 := nI (vaN 0 (knA tp s))) kx 9 1 n M13 _ _ rfl (by omega) i2 (e3.tk i3) r1 r2
    have j2 : XS M20 tp (knE tp s D).2 _ := j2
    have j3 : RowAt M20 10 (knE tp s D).1 := j3
    have j4 : Ro (knE tp s D).1 := j4
    have j5 : (knE tp s D).1.length ≤ 9 := j5
    have f20 := (((((g2.trans (f5.mono (fun c k q => by unfold xd; omega))).trans f7).trans (xt_xd c3)).trans e4).trans (xt_xd i3)).trans j6
    rw [take_nil n N5, bd_ret, c1, bd_ret, e1, bd_ret, i1, bd_ret, show X_Teller_tellRow_L72 n (nI (vaN 0 (knA tp s))) kx n 1 M13 = _ from j1, ← hkx]
    dsimp only
    rw [nm_eq]
    have k127 : ∀ (K : Mem), XS K tp (knS tp s D) (D.R, D.W, D.gl, D.pT, D.hT, D.kn ||| 2 ^ vaN 0 (knA tp s), max D.hi (vaN 0 (knA tp s)), D.lg) → RowAt K 10 (knE tp s D).1 → Fr xd M K → ∃ M', (bd (X_Integer_bitCount n (K.1 10 1) K) fun r22 M23 => nm (si M23 3 14 (if (K.1 3 14) < r22 then r22 else (K.1 3 14))) fun N24 => bd (X_Row_atRest n 10 N24) fun r25 M26 => gd (nI (vaN 0 (knA tp s))) 6 (some ((), sl M26 9 ((nI (vaN 0 (knA tp s))).toNatClampNeg) r25))) = some ((), M') ∧ XS M' tp (knS tp s D) (knD tp s D) ∧ Fr xd M M' ∧ Ro (knE tp s D).1 ∧ (knE tp s D).1.length ≤ 9 := by
      intro K m1 m2 m3
      have x3 := m1.2.2.2.2.2
      rw [m2.2, bitCount_eq n (knN_lt j4.2), pop_knN j4, bd_ret, nm_eq, show K.1 3 14 = nI D.lg from x3.2.2.2.2.2, imax _ _ (by omega) (by omega)]
      have fa : Fr (fun c k => c = 3 ∧ k = 14) K (si K 3 14 (nI (max D.lg (knE tp s D).1.length))) := Fr.si ⟨rfl, rfl⟩
      rw [row_atRest n (M := si K 3 14 (nI (max D.lg (knE tp s D).1.length))) (show RowAt _ 10 (knE tp s D).1 from ⟨m2.1, m2.2⟩) j4 j5, bd_ret, gd_in (vp_in_nI (n := vaN 0 (knA tp s)) (by omega) (by decide)), nI_clamp (by omega)]
      have fb : Fr (fun c k => (c = 3 ∧ k = 14) ∨ c = 9) K (sl (si K 3 14 (nI (max D.lg (knE tp s D).1.length))) 9 (vaN 0 (knA tp s)) (enc (knE tp s D).1)) := (fa.mono (fun c k q => Or.inl q)).trans (Fr.sl (Or.inr rfl))
      refine ⟨_, rfl, m1.wr fb (fun c k q => by omega) ⟨m1.2.2.2.1.fr fb (fun c k q => by omega), ?_, ⟨x3.1, x3.2.1, x3.2.2.1, x3.2.2.2.1, x3.2.2.2.2.1, rfl⟩⟩, m3.trans (fb.mono (fun c k q => by unfold xd; omega)), j4, j5⟩
      exact (m1.2.2.2.2.1.fr fa (fun k q => by omega)).upd _ _
    by_cases q3 : (knE tp s D).2.2.2.1 = 3
    · rw [if_pos (show M20.1 3 7 = 3 by rw [j2.2.2.1.2.2.1, q3]; rfl)]
      have es : knS tp s D = (knE tp s D).2 := by unfold knS; rw [decide_eq_false (fun q => q q3), rfs_f]
      exact k127 M20 (by rw [es]; exact j2) j3 f20
    · rw [if_neg (show ¬ M20.1 3 7 = 3 from fun q => q3 ((nI_eq (b := 3) (by have := j2.2.1.2.2.2; omega) (by decide)).mp (j2.2.2.1.2.2.1.symm.trans q)))]
      obtain ⟨M28, m1, m2, m3⟩ := j2.rf n 2 (by decide)
      rw [show X_Teller_refuse n 2 M20 = _ from m1, bd_ret]
      have es : knS tp s D = rfs true 2 (knE tp s D).2 := by unfold knS; rw [decide_eq_true q3]
      exact k127 M28 (by rw [es]; exact m2) (j3.tk m3) (f20.trans (xt_xd m3))
  unfold X_Teller_tellRow
  rw [a1, bd_ret, nm_eq, a2.2.2.2.2.2.2.2.2.1, b_iu (by omega) (by omega)]
  cases e : D.kn.testBit (vaN 0 (knA tp s)) with
  | false =>
    rw [if_pos (show nI (if false = true then 1 else 0) = 0 from rfl)]
    exact k23 M2 (by unfold knB; rw [e, rfs_f]; exact a2) (xt_xd a3)
  | true =>
    rw [if_neg (show ¬ nI (if true = true then 1 else 0) = 0 by decide)]
    obtain ⟨M3, b1, b2, b3⟩ := a2.rf n 4 (by decide)
    rw [show X_Teller_refuse n 4 M2 = _ from b1, bd_ret]
    exact k23 M3 (by unfold knB; rw [e]; exact b2) ((xt_xd a3).trans (xt_xd b3))
end
section
/-! THE TEXT: the class's names and lines -/
def stN : List (List Nat) := [[112, 101, 111, 112, 108, 101], [104, 111, 108, 100], [107, 110, 111, 119, 115], [106, 111, 105, 110], [104, 97, 110, 100], [100, 97, 105, 108, 121], [103, 108, 111, 118, 101]]
def mtc (tp : List Nat) : List Nat → Nat → Bool
  | [], _ => true
  | c :: cs, q => inr tp c c q && mtc tp cs (q + 1)
def isN (tp : List Nat) (k q a : Nat) : Bool := decide (a - q = (stN.getD k []).length) && mtc tp (stN.getD k []) q
theorem st_len : ∀ k, k < 7 → stLen.getD k 0 = (stN.getD k []).length ∧ (nI (stLen.getD k 0) >>> ((0 : Int32) &&& 31)) = nI (stN.getD k []).length ∧ (stN.getD k []).length ≤ 6 := by decide +kernel
theorem st_chr : ∀ k, k < 7 → ∀ i, i < (stN.getD k []).length → ((((stByt.getD k []).getD (nI i).toNatClampNeg 0 &&& 255).toUInt32 % 65536).toInt32) = nI ((stN.getD k []).getD i 0) := by decide +kernel
theorem st_az : ∀ k, k < 7 → ∀ i, i < (stN.getD k []).length → 97 ≤ (stN.getD k []).getD i 0 ∧ (stN.getD k []).getD i 0 ≤ 122 := by decide +kernel
theorem st_zc : ∀ c, c < 128 → nI c = ((nI c).toUInt32 % 65536).toInt32 := by decide +kernel
theorem sb_az : ∀ b, b < 256 → ∀ c, c < 26 → ((sB b = nI (97 + c)) ↔ b = 97 + c) := by decide +kernel
theorem x_chr {k i : Nat} (hk : k < 7) (hi : i < (stN.getD k []).length) (M : Mem) : X_charAt k (nI i) M = some (nI ((stN.getD k []).getD i 0), M) := by
  obtain ⟨l1, l2, l3⟩ := st_len k hk
  unfold X_charAt
  rw [l1, gd_in (vp_in_nI (n := i) hi (by omega)), st_chr k hk i hi]
  unfold zc
  rw [if_pos (st_zc _ (by have := st_az k hk i hi; omega))]
theorem inr_c {tp : List Nat} {c p : Nat} (hp : p < tp.length) : inr tp c c p = decide (tp.getD p 0 = c) := by
  unfold inr
  rw [getD_some hp]
  dsimp only
  by_cases e : tp.getD p 0 = c
  · rw [decide_eq_true e, decide_eq_true (by omega), decide_eq_true (by omega)]; rfl
  · rw [decide_eq_false e]
    by_cases f : c ≤ tp.getD p 0
    · rw [decide_eq_false (show ¬ tp.getD p 0 ≤ c by omega), Bool.and_false]
    · rw [decide_eq_false f, Bool.false_and]
theorem mtc_c (tp : List Nat) (c : Nat) (cs : List Nat) (q : Nat) : mtc tp (c :: cs) q = (inr tp c c q && mtc tp cs (q + 1)) := rfl
theorem x_called_L (n : Nat) {M : Mem} {tp : List Nat} (hT : XTp M tp) {k q : Nat} (hk : k < 7) (h8 : M.1 3 8 = nI q) (hq : q + (stN.getD k []).length ≤ tp.length) : ∀ d i f, i + d = (stN.getD k []).length → d < f → X_Teller_isCalled_L20 n k f (nI i) M = some (if mtc tp ((stN.getD k []).drop i) (q + i) then 1 else 0, M) := by
  obtain ⟨l1, l2, l3⟩ := st_len k hk
  have hL := hT.2.2.1
  intro d
  induction d with
  | zero =>
    intro i f h1 h2
    obtain ⟨f, rfl⟩ : ∃ g, f = g + 1 := ⟨f - 1, by omega⟩
    show (if (nI (stLen.getD k 0) >>> ((0 : Int32) &&& 31)) ≤ nI i then some ((1 : Int32), M) else _) = _
    rw [l2, if_pos (nI_le (by omega) (by omega)), List.drop_of_length_le (by omega)]
    rfl
  | succ d ih =>
    intro i f h1 h2
    obtain ⟨f, rfl⟩ : ∃ g, f = g + 1 := ⟨f - 1, by omega⟩
    have hi : i < (stN.getD k []).length := by omega
    show (if (nI (stLen.getD k 0) >>> ((0 : Int32) &&& 31)) ≤ nI i then some ((1 : Int32), M) else gd ((M.1 3 8) + nI i) 320 (bd (X_charAt k (nI i) M) fun r5 M6 => (if (M.1 2 ((M.1 3 8) + nI i).toNatClampNeg) = r5 then X_Teller_isCalled_L20 n k f (nI i + 1) M6 else some (0, M6)))) = _
    have hx := getD_some (w := tp) (i := q + i) (by omega)
    have hb := hT.2.2.2 _ (getD_mem (w := tp) (i := q + i) (by omega))
    obtain ⟨z1, z2⟩ := st_az k hk i hi
    have ez := sb_az _ hb ((stN.getD k []).getD i 0 - 97) (by omega)
    rw [show 97 + ((stN.getD k []).getD i 0 - 97) = (stN.getD k []).getD i 0 by omega] at ez
    rw [l2, if_neg (nI_ge (by omega) (by omega)), h8, nI_add, gd_in (v320 (by omega)), x_chr hk hi, bd_ret, nI_clamp (by omega), hT.2.1 _ _ hx, nI_1, ih (i + 1) f (by omega) (by omega), List.drop_eq_getElem_cons hi, mtc_c]
    have eg : (stN.getD k [])[i] = (stN.getD k []).getD i 0 := by
      have := getD_some hi
      rw [List.getElem?_eq_getElem hi] at this
      exact Option.some.inj this
    rw [eg, inr_c (show q + i < tp.length by omega), show q + (i + 1) = q + i + 1 by omega]
    by_cases e : tp.getD (q + i) 0 = (stN.getD k []).getD i 0
    · rw [if_pos (ez.mpr e), decide_eq_true e, Bool.true_and]
    · rw [if_neg (fun r => e (ez.mp r)), decide_eq_false e, Bool.false_and]
      rfl
theorem x_called (n : Nat) (hn : 20 ≤ n) {M : Mem} {tp : List Nat} {s : Tk} (hT : XTp M tp) (hS : XT M s) (hs : OkT tp s) (hq : s.2.2.2.1 ≤ s.2.1) {k : Nat} (hk : k < 7) : X_Teller_isCalled n k M = some (if isN tp k s.2.2.2.1 s.2.1 then 1 else 0, M) := by
  obtain ⟨l1, l2, l3⟩ := st_len k hk
  have hL := hT.2.2.1
  have ha := hs.2.1
  have un : X_Teller_isCalled n k M = if ((M.1 3 6) - (M.1 3 8)) = (nI (stLen.getD k 0) >>> ((0 : Int32) &&& 31)) then X_Teller_isCalled_L20 n k n 0 M else some (0, M) := rfl
  rw [un, hS.2.1, hS.2.2.2.1, pk_sub hq, l2]
  unfold isN
  by_cases e : s.2.1 - s.2.2.2.1 = (stN.getD k []).length
  · rw [if_pos (by rw [e]), decide_eq_true e, Bool.true_and]
    exact x_called_L n hT hk hS.2.2.2.1 (by omega) (stN.getD k []).length 0 n (Nat.zero_add _) (by omega)
  · rw [if_neg (fun r => e ((nI_eq (by omega) (by omega)).mp r)), decide_eq_false e, Bool.false_and]
    rfl
def nmI (tp : List Nat) (q a : Nat) : Nat := if isN tp 0 q a then 0 else if isN tp 1 q a then 1 else if isN tp 2 q a then 2 else if isN tp 3 q a then 3 else if isN tp 4 q a then 4 else if isN tp 5 q a then 5 else if isN tp 6 q a then 6 else 7
def lnS (tp : List Nat) (s : Tk) (D : Dr) : Tk := if s.2.2.1 = 1 then (match nmI tp s.2.2.2.1 s.2.1 with
  | 0 => tkS tp (peoS tp s D)
  | 1 => tkS tp (holS tp s D)
  | 2 => knS tp s D
  | 3 => if D.R.2.2.1.length < 4 then joS tp s else rfs true 5 s
  | 4 => if D.R.2.2.2.1.length < 16 then paS tp s else rfs true 5 s
  | 5 => if D.R.2.2.2.2.length < 8 then paS tp s else rfs true 5 s
  | 6 => gloS tp s D
  | _ => rfs true 2 s) else rfs true 2 s
def haD (tp : List Nat) (s : Tk) (D : Dr) : Dr := ((D.R.1, D.R.2.1, D.R.2.2.1, D.R.2.2.2.1 ++ [paV tp s], D.R.2.2.2.2), (paH tp s D).2)
def daD (tp : List Nat) (s : Tk) (D : Dr) : Dr := ((D.R.1, D.R.2.1, D.R.2.2.1, D.R.2.2.2.1, D.R.2.2.2.2 ++ [paV tp s]), (paH tp s D).2)
def lnD (tp : List Nat) (s : Tk) (D : Dr) : Dr := if s.2.2.1 = 1 then (match nmI tp s.2.2.2.1 s.2.1 with
  | 0 => peoD tp s D
  | 1 => holD tp s D
  | 2 => knD tp s D
  | 3 => if D.R.2.2.1.length < 4 then joD tp s D else D
  | 4 => if D.R.2.2.2.1.length < 16 then haD tp s D else D
  | 5 => if D.R.2.2.2.2.length < 8 then daD tp s D else D
  | 6 => gloD tp s D
  | _ => D) else D
theorem list_snoc {c : Nat} {M M' : Mem} {l : List Nat} {v : Nat} (h : ∀ i x, l[i]? = some x → M.1 c i = nI x) (he : ∀ k, k < l.length → M'.1 c k = M.1 c k) (hv : M'.1 c l.length = nI v) : ∀ i x, (l ++ [v])[i]? = some x → M'.1 c i = nI x := fun i x hi => by
  have hl := (List.getElem?_eq_some_iff.mp hi).1
  rw [List.length_append, List.length_singleton] at hl
  by_cases e : i < l.length
  · rw [List.getElem?_append_left e] at hi
    rw [he i e]
    exact h i x hi
  · have ei : i = l.length := by omega
    subst ei
    rw [List.getElem?_append_right (by omega), Nat.sub_self] at hi
    rw [hv, Option.some.inj hi]
theorem x_line (n : Nat) (hn : 400 ≤ n) {M : Mem} {tp : List Nat} {s : Tk} {D : Dr} (hV : VD D) (h : XS M tp s D) (hq : s.2.2.2.1 ≤ s.2.1) : ∃ M', X_Teller_tellLine n M = some ((), M') ∧ XS M' tp (lnS tp s D) (lnD tp s D) ∧ Fr xd M M' := by
  have hk4 := h.2.1.2.2.2
  have kx : ∀ k, k < 7 → X_Teller_isCalled n k M = some (if isN tp k s.2.2.2.1 s.2.1 then 1 else 0, M) := fun k hk => x_called n (by omega) h.1 h.2.2.1 h.2.1 hq hk
  have two : ∃ M', (bd (X_Teller_refuse n 2 M) fun _ M16 => some ((), M16)) = some ((), M') ∧ XS M' tp (rfs true 2 s) D ∧ Fr xd M M' := by
    obtain ⟨M', b1, b2, b3⟩ := h.rf n 2 (by decide)
    rw [show X_Teller_refuse n 2 M = _ from b1, bd_ret]
    exact ⟨M', rfl, b2, xt_xd b3⟩
  unfold X_Teller_tellLine lnS lnD
  rw [h.2.2.1.2.2.1]
  by_cases e1 : s.2.2.1 = 1
  · rw [if_pos (show nI s.2.2.1 = 1 by rw [e1]; rfl), if_pos e1, if_pos e1]
    generalize hq1 : s.2.2.2.1 = q at kx
    generalize ha1 : s.2.1 = a at kx
    unfold nmI
    rw [kx 0 (by decide), bd_ret]
    cases c0 : isN tp 0 q a with
    | true =>
      rw [if_neg (show ¬ (if true = true then (1 : Int32) else 0) = 0 by decide), if_pos rfl]
      obtain ⟨M', b1, b2, b3⟩ := x_people n hn hV h
      rw [b1, bd_ret]
      exact ⟨M', rfl, b2, b3⟩
    | false =>
      rw [if_pos (show (if false = true then (1 : Int32) else 0) = 0 from rfl), if_neg Bool.false_ne_true, kx 1 (by decide), bd_ret]
      cases c1 : isN tp 1 q a with
      | true =>
        rw [if_neg (show ¬ (if true = true then (1 : Int32) else 0) = 0 by decide), if_pos rfl]
        obtain ⟨M', b1, b2, b3⟩ := x_hold n hn hV h
        rw [b1, bd_ret]
        exact ⟨M', rfl, b2, b3⟩
      | false =>
        rw [if_pos (show (if false = true then (1 : Int32) else 0) = 0 from rfl), if_neg Bool.false_ne_true, kx 2 (by decide), bd_ret]
        cases c2 : isN tp 2 q a with
        | true =>
          rw [if_neg (show ¬ (if true = true then (1 : Int32) else 0) = 0 by decide), if_pos rfl]
          obtain ⟨M', b1, b2, b3, -, -⟩ := x_row n hn hV h
          rw [b1, bd_ret]
          exact ⟨M', rfl, b2, b3⟩
        | false =>
          rw [if_pos (show (if false = true then (1 : Int32) else 0) = 0 from rfl), if_neg Bool.false_ne_true, kx 3 (by decide), bd_ret]
          cases c3 : isN tp 3 q a with
          | true =>
            rw [if_neg (show ¬ (if true = true then (1 : Int32) else 0) = 0 by decide), if_pos rfl]
            by_cases hj : D.R.2.2.1.length < 4
            · rw [if_pos hj, if_pos hj]
              obtain ⟨M', b1, b2, b3⟩ := x_join n hn h hj
              rw [b1, bd_ret]
              exact ⟨M', rfl, b2, b3⟩
            · rw [if_neg hj, if_neg hj]
              obtain ⟨M', b1, b2, b3⟩ := h.rf n 5 (by decide)
              have hv := hV.1
              have un : X_Teller_tellJoin n M = some ((), M') := by
                unfold X_Teller_tellJoin
                rw [h.2.2.2.1.2.2.1, if_neg (show ¬ nI D.R.2.2.1.length < 4 from Int32.not_lt.mpr (nI_le (a := 4) (by omega) (by omega))), show X_Teller_refuse n 5 M = _ from b1, bd_ret]
              rw [un, bd_ret]
              exact ⟨M', rfl, b2, xt_xd b3⟩
          | false =>
            rw [if_pos (show (if false = true then (1 : Int32) else 0) = 0 from rfl), if_neg Bool.false_ne_true, kx 4 (by decide), bd_ret]
            cases c4 : isN tp 4 q a with
            | true =>
              rw [if_neg (show ¬ (if true = true then (1 : Int32) else 0) = 0 by decide), if_pos rfl]
              have hv := hV.2.1
              rw [h.2.2.2.1.2.2.2.1]
              by_cases hj : D.R.2.2.2.1.length < 16
              · rw [if_pos hj, if_pos hj]
                obtain ⟨M', b1, b2, b3, b4⟩ := x_pair n hn hV h (list := 6) (ln := 16) (c := D.R.2.2.2.1.length) (Or.inl rfl) hj (by decide) ⟨fun _ => Nat.le_refl _, fun q => absurd q (by decide)⟩
                have f1 : Fr (fun c k => c = 4 ∧ k = 5) M' (si M' 4 5 (nI (D.R.2.2.2.1.length + 1))) := Fr.si ⟨rfl, rfl⟩
                have x4 := b2.2.2.2.1
                rw [b1, bd_ret]
                refine ⟨_, rfl, b2.wr f1 (fun c k q => by omega) ⟨⟨x4.1, x4.2.1, x4.2.2.1, ?_, x4.2.2.2.2.1, x4.2.2.2.2.2.1, list_snoc (M := M') x4.2.2.2.2.2.2.1 (fun k hk => rfl) b4, x4.2.2.2.2.2.2.2⟩, b2.2.2.2.2.1.fr f1 (fun k q => by omega), b2.2.2.2.2.2.fr f1 (fun k q => by omega)⟩, b3.trans (f1.mono (fun c k q => by unfold xd; omega))⟩
                rw [si_at]
                show _ = nI (D.R.2.2.2.1 ++ [paV tp s]).length
                rw [List.length_append]; rfl
              · rw [if_neg hj, if_neg hj]
                obtain ⟨M', b1, b2, b3⟩ := h.rf n 5 (by decide)
                have un : X_Teller_tellPair n 6 16 (nI D.R.2.2.2.1.length) M = some (nI D.R.2.2.2.1.length, M') := by
                  unfold X_Teller_tellPair
                  rw [if_neg (Int32.not_lt.mpr (nI_le (by omega) (by omega))), show X_Teller_refuse n 5 M = _ from b1, bd_ret]
                rw [un, bd_ret, si_self b2.2.2.2.1.2.2.2.1]
                exact ⟨M', rfl, b2, xt_xd b3⟩
            | false =>
              rw [if_pos (show (if false = true then (1 : Int32) else 0) = 0 from rfl), if_neg Bool.false_ne_true, kx 5 (by decide), bd_ret]
              cases c5 : isN tp 5 q a with
              | true =>
                rw [if_neg (show ¬ (if true = true then (1 : Int32) else 0) = 0 by decide), if_pos rfl]
                have hv := hV.2.2.1
                rw [h.2.2.2.1.2.2.2.2.1]
                by_cases hj : D.R.2.2.2.2.length < 8
                · rw [if_pos hj, if_pos hj]
                  obtain ⟨M', b1, b2, b3, b4⟩ := x_pair n hn hV h (list := 7) (ln := 8) (c := D.R.2.2.2.2.length) (Or.inr rfl) hj (by decide) ⟨fun q => absurd q (by decide), fun _ => Nat.le_refl _⟩
                  have f1 : Fr (fun c k => c = 4 ∧ k = 7) M' (si M' 4 7 (nI (D.R.2.2.2.2.length + 1))) := Fr.si ⟨rfl, rfl⟩
                  have x4 := b2.2.2.2.1
                  rw [b1, bd_ret]
                  refine ⟨_, rfl, b2.wr f1 (fun c k q => by omega) ⟨⟨x4.1, x4.2.1, x4.2.2.1, x4.2.2.2.1, ?_, x4.2.2.2.2.2.1, x4.2.2.2.2.2.2.1, list_snoc (M := M') x4.2.2.2.2.2.2.2 (fun k hk => rfl) b4⟩, b2.2.2.2.2.1.fr f1 (fun k q => by omega), b2.2.2.2.2.2.fr f1 (fun k q => by omega)⟩, b3.trans (f1.mono (fun c k q => by unfold xd; omega))⟩
                  rw [si_at]
                  show _ = nI (D.R.2.2.2.2 ++ [paV tp s]).length
                  rw [List.length_append]; rfl
                · rw [if_neg hj, if_neg hj]
                  obtain ⟨M', b1, b2, b3⟩ := h.rf n 5 (by decide)
                  have un : X_Teller_tellPair n 7 8 (nI D.R.2.2.2.2.length) M = some (nI D.R.2.2.2.2.length, M') := by
                    unfold X_Teller_tellPair
                    rw [if_neg (Int32.not_lt.mpr (nI_le (by omega) (by omega))), show X_Teller_refuse n 5 M = _ from b1, bd_ret]
                  rw [un, bd_ret, si_self b2.2.2.2.1.2.2.2.2.1]
                  exact ⟨M', rfl, b2, xt_xd b3⟩
              | false =>
                rw [if_pos (show (if false = true then (1 : Int32) else 0) = 0 from rfl), if_neg Bool.false_ne_true, kx 6 (by decide), bd_ret]
                cases c6 : isN tp 6 q a with
                | true =>
                  rw [if_neg (show ¬ (if true = true then (1 : Int32) else 0) = 0 by decide), if_pos rfl]
                  obtain ⟨M', b1, b2, b3⟩ := x_glove n hn hV h
                  rw [b1, bd_ret]
                  exact ⟨M', rfl, b2, b3⟩
                | false =>
                  rw [if_pos (show (if false = true then (1 : Int32) else 0) = 0 from rfl), if_neg Bool.false_ne_true]
                  exact two
  · rw [if_neg (show ¬ nI s.2.2.1 = 1 from fun q => e1 ((nI_eq (b := 1) (by omega) (by decide)).mp q)), if_neg e1, if_neg e1]
    exact two
end
section
/-! THE TEXT: the reference's lines -/
def YD (M : Mem) (E : Dr) : Prop := DM M E.R E.W E.gl ∧ (∀ p, p < 6 → M.1 13 p = nI (if E.kn.testBit p then 1 else 0)) ∧ M.1 0 24 = nI (E.pT + 2 * E.hT) ∧ M.1 0 17 = nI E.hi
def yd (c k : Nat) : Prop := (8 ≤ c ∧ c ≤ 13) ∨ (c = 0 ∧ ((12 ≤ k ∧ k ≤ 17) ∨ k = 24 ∨ (27 ≤ k ∧ k ≤ 32)))
theorem DM.fr {P : Nat → Nat → Prop} {M M' : Mem} {R : Rl} {W : WW} {g : Nat} (h : DM M R W g) (hW : OkW W) (ho : Fr P M M') (hp : ∀ c k, P c k → ¬ (8 ≤ c ∧ c ≤ 12) ∧ ¬ (c = 0 ∧ 12 ≤ k ∧ k ≤ 16)) : DM M' R W g := by
  have e0 : ∀ k, 12 ≤ k → k ≤ 16 → M'.1 0 k = M.1 0 k := fun k h1 h2 => (ho 0 k (fun q => (hp _ _ q).2 ⟨rfl, h1, h2⟩)).1
  have e1 : ∀ c k, 8 ≤ c → c ≤ 12 → M'.1 c k = M.1 c k := fun c k h1 h2 => (ho c k (fun q => (hp _ _ q).1 ⟨h1, h2⟩)).1
  obtain ⟨a1, a2, a3, a4, a5, a6, a7, a8, a9, a10⟩ := h
  exact ⟨by rw [e0 _ (by decide) (by decide)]; exact a1, by rw [e0 _ (by decide) (by decide)]; exact a2, by rw [e0 _ (by decide) (by decide)]; exact a3, by rw [e0 _ (by decide) (by decide)]; exact a4, by rw [e0 _ (by decide) (by decide)]; exact a5, fun j q hq => by rw [e1 8 _ (by decide) (by decide), e1 8 _ (by decide) (by decide), e1 8 _ (by decide) (by decide)]; exact a6 j q hq, fun i h hi => by rw [e1 9 _ (by decide) (by decide)]; exact a7 i h hi, fun i h hi => by rw [e1 10 _ (by decide) (by decide)]; exact a8 i h hi, a9.fr hW ho (fun k h1 h2 q => (hp _ _ q).1 ⟨by decide, by decide⟩), fun p hp6 => by rw [e1 12 _ (by decide) (by decide)]; exact a10 p hp6⟩
theorem YD.mt {M M' : Mem} {E : Dr} (h : YD M E) (hW : OkW E.W) (ho : Fr mt M M') : YD M' E := ⟨h.1.fr hW ho (fun c k q => by have q := mt_at q; omega), fun p hp => by rw [(ho 13 p (fun q => by have q := mt_at q; omega)).1]; exact h.2.1 p hp, by rw [(ho 0 24 (fun q => by have q := mt_at q; omega)).1]; exact h.2.2.1, by rw [(ho 0 17 (fun q => by have q := mt_at q; omega)).1]; exact h.2.2.2⟩
theorem mt_yd {M M' : Mem} (h : Fr mt M M') : Fr yd M M' := h.mono (fun c k q => by unfold mt at q; unfold yd; omega)
def YS (M : Mem) (tp : List Nat) (t : Tm) (E : Dr) : Prop := MTp M tp ∧ OkM tp t ∧ MT M t ∧ YD M E ∧ OkW E.W
theorem YS.look (n : Nat) {M : Mem} {tp : List Nat} {t : Tm} {E : Dr} (h : YS M tp t E) (lo hi : Nat) (hl : lo < 2 ^ 31) (hh : hi < 2 ^ 31) : ∃ M', X_Model_looked n (nI lo) (nI hi) M = some (nI (vaM (lkN lo hi t)), M') ∧ YS M' tp (lkN lo hi t) E ∧ Fr mt M M' := by
  obtain ⟨M', a1, a2, a3⟩ := m_looked n hl hh h.2.1 h.2.2.1
  exact ⟨M', a1, ⟨h.1.fr a3 (fun c k q => by unfold mt at q; omega), ned_okM (by decide) (ned_okM (by decide) h.2.1), a2, h.2.2.2.1.mt h.2.2.2.2 a3, h.2.2.2.2⟩, a3⟩
theorem YS.nxt (n : Nat) (hn : 400 ≤ n) {M : Mem} {tp : List Nat} {t : Tm} {E : Dr} (h : YS M tp t E) : ∃ M', X_Model_next n M = some ((), M') ∧ YS M' tp (rdM tp t) E ∧ Fr mt M M' := by
  obtain ⟨M', a1, a2, a3⟩ := m_next n hn h.1 h.2.1.1 h.2.1.2.1 h.2.2.1
  exact ⟨M', a1, ⟨h.1.fr a3 (fun c k q => by unfold mt at q; omega), rdM_ok h.2.1, a2, h.2.2.2.1.mt h.2.2.2.2 a3, h.2.2.2.2⟩, a3⟩
theorem YS.need (n : Nat) {M : Mem} {tp : List Nat} {t : Tm} {E : Dr} (h : YS M tp t E) {p1 : Int32} {ok : Bool} (hok : p1 = 0 ↔ ok = false) (f : Nat) (hf : 0 < f ∧ f < 8) : ∃ M', X_Model_needs n p1 (nI f) M = some ((), M') ∧ YS M' tp (ned ok f t) E ∧ Fr mt M M' := by
  obtain ⟨M', a1, a2, a3⟩ := m_needs n hok f h.2.1.1 h.2.2.1
  exact ⟨M', a1, ⟨h.1.fr a3 (fun c k q => by unfold mt at q; omega), ned_okM hf h.2.1, a2, h.2.2.2.1.mt h.2.2.2.2 a3, h.2.2.2.2⟩, a3⟩
theorem MT.nt {P : Nat → Nat → Prop} {M M' : Mem} {t : Tm} (h : MT M t) (ho : Fr P M M') (hp : ∀ k, P 0 k → ¬ (27 ≤ k ∧ k ≤ 32)) : MT M' t := by
  have g : ∀ k, 27 ≤ k → k ≤ 32 → M'.1 0 k = M.1 0 k := fun k h1 h2 => (ho 0 k (fun q => hp k q ⟨h1, h2⟩)).1
  obtain ⟨a1, a2, a3, a4, a5, a6⟩ := h
  exact ⟨by rw [g _ (by decide) (by decide)]; exact a1, by rw [g _ (by decide) (by decide)]; exact a2, by rw [g _ (by decide) (by decide)]; exact a3, by rw [g _ (by decide) (by decide)]; exact a4, by rw [g _ (by decide) (by decide)]; exact a5, by rw [g _ (by decide) (by decide)]; exact a6⟩
theorem YS.wr {P : Nat → Nat → Prop} {M M' : Mem} {tp : List Nat} {t : Tm} {E E' : Dr} (h : YS M tp t E) (ho : Fr P M M') (hp : ∀ c k, P c k → c ≠ 14 ∧ ¬ (c = 0 ∧ 26 ≤ k)) (hE : YD M' E') (hW : OkW E'.W) : YS M' tp t E' := ⟨h.1.fr ho (fun c k q => ⟨(hp c k q).1, fun r => (hp c k q).2 ⟨r.1, by omega⟩⟩), h.2.1, h.2.2.1.nt ho (fun k q r => (hp 0 k q).2 ⟨rfl, by omega⟩), hE, hW⟩
-- a fault stays
theorem ned_bad {ok : Bool} {f : Nat} {t : Tm} (h : t.1 ≠ 0) : ned ok f t = t := by
  unfold ned
  rw [if_neg h]
  split <;> rfl
theorem lkN_bad {lo hi : Nat} {t : Tm} (h : t.1 ≠ 0) : lkN lo hi t = t := by
  unfold lkN
  dsimp only
  rw [ned_bad h, ned_bad h]
theorem rdM_bad {tp : List Nat} {t : Tm} (h : t.1 ≠ 0) : rdM tp t = t := by
  unfold rdM
  rw [if_neg h]
theorem vaM_bad {t : Tm} (h : t.1 ≠ 0) : vaM t = 0 := if_neg h
theorem lkN_0 {lo hi : Nat} {t : Tm} (h : (lkN lo hi t).1 = 0) : t.1 = 0 ∧ t.2.2.2.2.1 = 2 ∧ lkN lo hi t = t ∧ lo ≤ t.2.2.2.2.2 ∧ t.2.2.2.2.2 ≤ hi := by
  unfold lkN at h ⊢
  dsimp only at h ⊢
  obtain ⟨a1, a2, a3⟩ := ned_0 (by decide) h
  obtain ⟨b1, b2, b3⟩ := ned_0 (by decide) a1
  have b2 := of_decide_eq_true b2
  rw [b3, oob_d] at a2
  have a2 := of_decide_eq_true a2
  exact ⟨b1, b2, by rw [a3, b3], a2.1, a2.2⟩
theorem vaM_le {lo hi : Nat} {t : Tm} : vaM (lkN lo hi t) ≤ hi := by
  unfold vaM
  by_cases e : (lkN lo hi t).1 = 0
  · obtain ⟨a1, a2, a3, a4, a5⟩ := lkN_0 e
    rw [if_pos e, a3]; exact a5
  · rw [if_neg e]; exact Nat.zero_le _
theorem m_tells (n : Nat) {M : Mem} {tp : List Nat} {t : Tm} {E : Dr} (h : YS M tp t E) {p : Nat} (hp : p < 6) (hh : E.hi < 6) : ∃ M', X_Model_tells n (nI p) M = some ((), M') ∧ YS M' tp t (E.R, E.W, E.gl, E.pT, E.hT, E.kn, max E.hi p, E.lg) ∧ Fr yd M M' := by
  have hy := h.2.2.2.1
  have un : X_Model_tells n (nI p) M = some ((), si M 0 17 (nI (max E.hi p))) := by
    unfold X_Model_tells
    rw [nm_eq, hy.2.2.2]
    by_cases e : p ≤ E.hi
    · rw [if_pos (nI_le e (by omega)), Nat.max_eq_left e]
    · rw [if_neg (nI_ge (by omega) (by omega)), Nat.max_eq_right (by omega)]
  have f1 : Fr (fun c k => c = 0 ∧ k = 17) M (si M 0 17 (nI (max E.hi p))) := Fr.si ⟨rfl, rfl⟩
  refine ⟨_, un, h.wr f1 (fun c k q => by omega) ⟨hy.1.fr h.2.2.2.2 f1 (fun c k q => by omega), fun q hq => by rw [(f1 13 q (by omega)).1]; exact hy.2.1 q hq, by rw [(f1 0 24 (by omega)).1]; exact hy.2.2.1, rfl⟩ h.2.2.2.2, f1.mono (fun c k q => by unfold yd; omega)⟩
-- glove
def mgT (tp : List Nat) (t : Tm) (E : Dr) : Tm := rdM tp (ned (!E.gl.testBit (vaM (lkN 0 5 t))) 4 (lkN 0 5 t))
def mgD (t : Tm) (E : Dr) : Dr := (E.R, E.W, E.gl ||| 2 ^ vaM (lkN 0 5 t), E.pT, E.hT, E.kn, max E.hi (vaM (lkN 0 5 t)), E.lg)
theorem m_readGlove (n : Nat) (hn : 400 ≤ n) {M : Mem} {tp : List Nat} {t : Tm} {E : Dr} (h : YS M tp t E) (hh : E.hi < 6) : ∃ M', X_Model_readGlove n M = some ((), M') ∧ YS M' tp (mgT tp t E) (mgD t E) ∧ Fr yd M M' := by
  obtain ⟨M2, a1, a2, a3⟩ := h.look n 0 5 (by decide) (by decide)
  have hv : vaM (lkN 0 5 t) ≤ 5 := vaM_le
  unfold mgT mgD
  have hn8 := a2.2.1.1
  have a31 := a2.2.2.1.1
  have hvb : (lkN 0 5 t).1 ≠ 0 → vaM (lkN 0 5 t) = 0 := fun q => vaM_bad q
  generalize vaM (lkN 0 5 t) = r at a1 hv hvb
  generalize lkN 0 5 t = t1 at a2 hn8 a31 hvb
  have k33 : ∀ (N : Mem) (t2 : Tm), YS N tp t2 E → Fr yd M N → ∃ M', (bd (X_Model_next n N) fun _ M5 => gd (nI r) 6 (nm (si M5 12 ((nI r).toNatClampNeg) (vp_nar .boolean 1)) fun N6 => bd (X_Model_tells n (nI r) N6) fun _ M8 => some ((), M8))) = some ((), M') ∧ YS M' tp (rdM tp t2) (E.R, E.W, E.gl ||| 2 ^ r, E.pT, E.hT, E.kn, max E.hi r, E.lg) ∧ Fr yd M M' := by
    intro N t2 g1 g2
    obtain ⟨M5, b1, b2, b3⟩ := g1.nxt n hn
    rw [b1, bd_ret, gd_in (vp_in_nI (n := r) (by omega) (by decide)), nI_clamp (by omega), nm_eq]
    have f6 : Fr (fun c k => c = 12 ∧ k = r) M5 (si M5 12 r (vp_nar .boolean 1)) := Fr.si ⟨rfl, rfl⟩
    have hy := b2.2.2.2.1
    obtain ⟨d1, d2, d3, d4, d5, d6, d7, d8, d9, d10⟩ := hy.1
    have hS6 : YS (si M5 12 r (vp_nar .boolean 1)) tp (rdM tp t2) (E.R, E.W, E.gl ||| 2 ^ r, E.pT, E.hT, E.kn, E.hi, E.lg) := b2.wr f6 (fun c k q => by omega) ⟨⟨d1, d2, d3, d4, d5, d6, d7, d8, d9.fr b2.2.2.2.2 f6 (fun k _ _ q => by omega), fun p hp => by
      show _ = nI (if (E.gl ||| 2 ^ r).testBit p then 1 else 0)
      rw [or_bit]
      by_cases e : p = r
      · rw [e, si_at, decide_eq_true rfl, Bool.or_true]; rfl
      · rw [si_ne (Or.inr e), decide_eq_false (fun q => e q.symm), Bool.or_false]
        exact d10 p hp⟩, hy.2⟩ b2.2.2.2.2
    obtain ⟨M8, c1, c2, c3⟩ := m_tells n hS6 (p := r) (by omega) hh
    rw [c1, bd_ret]
    exact ⟨M8, rfl, c2, ((g2.trans (mt_yd b3)).trans (f6.mono (fun c k q => by unfold yd; omega))).trans c3⟩
  have un : X_Model_readGlove n M = (if (M2.1 0 31) = 0 then gd (nI r) 6 (bd (X_Model_needs n (if (M2.1 12 (nI r).toNatClampNeg) = 0 then 1 else 0) 4 M2) fun _ M11 => (bd (X_Model_next n M11) fun _ M5 => gd (nI r) 6 (nm (si M5 12 ((nI r).toNatClampNeg) (vp_nar .boolean 1)) fun N6 => bd (X_Model_tells n (nI r) N6) fun _ M8 => some ((), M8)))) else (bd (X_Model_next n M2) fun _ M5 => gd (nI r) 6 (nm (si M5 12 ((nI r).toNatClampNeg) (vp_nar .boolean 1)) fun N6 => bd (X_Model_tells n (nI r) N6) fun _ M8 => some ((), M8)))) := by
    unfold X_Model_readGlove
    rw [show X_Model_looked n 0 5 M = _ from a1, bd_ret, nm_eq, nm_eq]
    by_cases e : M2.1 12 (nI r).toNatClampNeg = 0
    · rw [if_pos e, if_pos e]
    · rw [if_neg e, if_neg e]
  rw [un, a31]
  by_cases e : t1.1 = 0
  · have h12 := a2.2.2.2.1.1.2.2.2.2.2.2.2.2.2 r (by omega)
    rw [if_pos (show nI t1.1 = 0 by rw [e]; rfl), gd_in (vp_in_nI (n := r) (by omega) (by decide)), nI_clamp (by omega), h12]
    obtain ⟨M11, b1, b2, b3⟩ := a2.need n (p1 := if nI (if E.gl.testBit r then 1 else 0) = 0 then 1 else 0) (ok := !E.gl.testBit r) (by cases E.gl.testBit r <;> decide) 4 (by decide)
    rw [show X_Model_needs n (if nI (if E.gl.testBit r then 1 else 0) = 0 then 1 else 0) 4 M2 = _ from b1, bd_ret]
    have k := k33 M11 _ b2 ((mt_yd a3).trans (mt_yd b3))
    rw [nI_clamp (by omega)] at k
    exact k
  · rw [if_neg (fun q => e ((i_z (by omega)).mp q)), ned_bad e]
    exact k33 M2 t1 a2 (mt_yd a3)
end
section
/-! THE TEXT: numbers, hands, joins in the reference -/
theorem YS.rnum (n : Nat) (hn : 400 ≤ n) {M : Mem} {tp : List Nat} {t : Tm} {E : Dr} (h : YS M tp t E) (lo hi : Nat) (hl : lo < 2 ^ 31) (hh : hi < 2 ^ 31) : ∃ M', X_Model_readNumber n (nI lo) (nI hi) M = some (nI (vaM (lkN lo hi t)), M') ∧ YS M' tp (rdM tp (lkN lo hi t)) E ∧ Fr mt M M' := by
  obtain ⟨M2, a1, a2, a3⟩ := h.look n lo hi hl hh
  obtain ⟨M4, b1, b2, b3⟩ := a2.nxt n hn
  refine ⟨M4, ?_, b2, a3.trans b3⟩
  unfold X_Model_readNumber
  rw [a1, bd_ret, b1, bd_ret]
def mhA (t : Tm) : Tm := lkN 0 5 t
def mhB (tp : List Nat) (t : Tm) : Tm := lkN 0 5 (rdM tp (mhA t))
def mhT (tp : List Nat) (t : Tm) : Tm := rdM tp (ned (decide (vaM (mhA t) ≠ vaM (mhB tp t))) 4 (mhB tp t))
def mhD (tp : List Nat) (t : Tm) (E : Dr) : Dr := (E.R, E.W, E.gl, E.pT, E.hT, E.kn, max (max E.hi (vaM (mhA t))) (vaM (mhB tp t)), E.lg)
theorem rdM_0 {tp : List Nat} {t : Tm} (h : (rdM tp t).1 = 0) : t.1 = 0 := by
  by_cases q : t.1 = 0
  · exact q
  · rw [rdM_bad q] at h; exact h
theorem m_readHand (n : Nat) (hn : 400 ≤ n) {M : Mem} {tp : List Nat} {t : Tm} {E : Dr} (h : YS M tp t E) (hh : E.hi < 6) : ∃ M', X_Model_readHand n M = some (nI (if (mhT tp t).1 = 0 then prN (vaM (mhA t)) (vaM (mhB tp t)) else 0), M') ∧ YS M' tp (mhT tp t) (mhD tp t E) ∧ Fr yd M M' := by
  obtain ⟨M2, a1, a2, a3⟩ := h.rnum n hn 0 5 (by decide) (by decide)
  obtain ⟨M4, b1, b2, b3⟩ := a2.look n 0 5 (by decide) (by decide)
  have a1 : X_Model_readNumber n 0 5 M = some (nI (vaM (mhA t)), M2) := a1
  have b1 : X_Model_looked n 0 5 M2 = some (nI (vaM (mhB tp t)), M4) := b1
  have b2 : YS M4 tp (mhB tp t) E := b2
  have va : vaM (mhA t) ≤ 5 := vaM_le
  have vb : vaM (mhB tp t) ≤ 5 := vaM_le
  have k36 : ∀ (N : Mem) (t2 : Tm), YS N tp t2 E → Fr yd M N → t2 = ned (decide (vaM (mhA t) ≠ vaM (mhB tp t))) 4 (mhB tp t) → ∃ M', (bd (X_Model_next n N) fun _ M7 => bd (X_Model_tells n (nI (vaM (mhA t))) M7) fun _ M9 => bd (X_Model_tells n (nI (vaM (mhB tp t))) M9) fun _ M11 => (if (M11.1 0 31) = 0 then bd (X_Model_pairOf n (nI (vaM (mhA t))) (nI (vaM (mhB tp t))) M11) fun r12 M13 => some (r12, M13) else some (0, M11))) = some (nI (if (mhT tp t).1 = 0 then prN (vaM (mhA t)) (vaM (mhB tp t)) else 0), M') ∧ YS M' tp (mhT tp t) (mhD tp t E) ∧ Fr yd M M' := by
    intro N t2 g1 g2 g3
    obtain ⟨M7, c1, c2, c3⟩ := g1.nxt n hn
    have et : rdM tp t2 = mhT tp t := by rw [g3]; rfl
    rw [et] at c2
    obtain ⟨M9, d1, d2, d3⟩ := m_tells n c2 (p := vaM (mhA t)) (by omega) hh
    obtain ⟨M11, e1, e2, e3⟩ := m_tells n d2 (p := vaM (mhB tp t)) (by omega) (by show max E.hi (vaM (mhA t)) < 6; omega)
    rw [c1, bd_ret, d1, bd_ret, e1, bd_ret, e2.2.2.1.1]
    have fa := ((g2.trans (mt_yd c3)).trans d3).trans e3
    by_cases e0 : (mhT tp t).1 = 0
    · have h1 := rdM_0 (show (rdM tp (ned (decide (vaM (mhA t) ≠ vaM (mhB tp t))) 4 (mhB tp t))).1 = 0 from e0)
      have h2 := of_decide_eq_true (ned_0 (by decide) h1).2.1
      rw [if_pos (show nI (mhT tp t).1 = 0 by rw [e0]; rfl), m_pairOf n (by omega) (by omega) h2, bd_ret, if_pos e0]
      exact ⟨M11, rfl, e2, fa⟩
    · rw [if_neg (fun q => e0 ((i_z (by have := e2.2.1.1; omega)).mp q)), if_neg e0]
      exact ⟨M11, rfl, e2, fa⟩
  have f4 := (mt_yd a3).trans (mt_yd b3)
  have un : X_Model_readHand n M = (if (M4.1 0 31) = 0 then (bd (X_Model_needs n (if nI (vaM (mhA t)) = nI (vaM (mhB tp t)) then 0 else 1) 4 M4) fun _ M16 => (bd (X_Model_next n M16) fun _ M7 => bd (X_Model_tells n (nI (vaM (mhA t))) M7) fun _ M9 => bd (X_Model_tells n (nI (vaM (mhB tp t))) M9) fun _ M11 => (if (M11.1 0 31) = 0 then bd (X_Model_pairOf n (nI (vaM (mhA t))) (nI (vaM (mhB tp t))) M11) fun r12 M13 => some (r12, M13) else some (0, M11)))) else (bd (X_Model_next n M4) fun _ M7 => bd (X_Model_tells n (nI (vaM (mhA t))) M7) fun _ M9 => bd (X_Model_tells n (nI (vaM (mhB tp t))) M9) fun _ M11 => (if (M11.1 0 31) = 0 then bd (X_Model_pairOf n (nI (vaM (mhA t))) (nI (vaM (mhB tp t))) M11) fun r12 M13 => some (r12, M13) else some (0, M11)))) := by
    unfold X_Model_readHand
    rw [a1, bd_ret, b1, bd_ret, nm_eq, nm_eq]
    by_cases e : nI (vaM (mhA t)) = nI (vaM (mhB tp t))
    · rw [if_pos e, if_pos e]
    · rw [if_neg e, if_neg e]
  rw [un, b2.2.2.1.1]
  by_cases e : (mhB tp t).1 = 0
  · rw [if_pos (show nI (mhB tp t).1 = 0 by rw [e]; rfl)]
    obtain ⟨M16, c1, c2, c3⟩ := b2.need n (p1 := if nI (vaM (mhA t)) = nI (vaM (mhB tp t)) then 0 else 1) (ok := decide (vaM (mhA t) ≠ vaM (mhB tp t))) (by
      by_cases q : vaM (mhA t) = vaM (mhB tp t)
      · rw [if_pos (by rw [q]), decide_eq_false (fun r => r q)]; decide
      · rw [if_neg (fun r => q ((nI_eq (by omega) (by omega)).mp r)), decide_eq_true q]; decide) 4 (by decide)
    rw [show X_Model_needs n (if nI (vaM (mhA t)) = nI (vaM (mhB tp t)) then 0 else 1) 4 M4 = _ from c1, bd_ret]
    exact k36 M16 _ c2 (f4.trans (mt_yd c3)) rfl
  · rw [if_neg (fun q => e ((i_z (by have := b2.2.1.1; omega)).mp q))]
    exact k36 M4 _ b2 f4 (ned_bad e).symm
-- a draft that counts as long as there is no fault
def YW (M : Mem) (tp : List Nat) (t : Tm) (E : Dr) : Prop := MTp M tp ∧ OkM tp t ∧ MT M t ∧ (t.1 = 0 → YD M E ∧ OkW E.W)
theorem YS.w {M : Mem} {tp : List Nat} {t : Tm} {E : Dr} (h : YS M tp t E) : YW M tp t E := ⟨h.1, h.2.1, h.2.2.1, fun _ => h.2.2.2⟩
theorem YW.nxt (n : Nat) (hn : 400 ≤ n) {M : Mem} {tp : List Nat} {t : Tm} {E : Dr} (h : YW M tp t E) : ∃ M', X_Model_next n M = some ((), M') ∧ YW M' tp (rdM tp t) E ∧ Fr mt M M' := by
  obtain ⟨M', a1, a2, a3⟩ := m_next n hn h.1 h.2.1.1 h.2.1.2.1 h.2.2.1
  exact ⟨M', a1, ⟨h.1.fr a3 (fun c k q => by unfold mt at q; omega), rdM_ok h.2.1, a2, fun q => ⟨(h.2.2.2 (rdM_0 q)).1.mt (h.2.2.2 (rdM_0 q)).2 a3, (h.2.2.2 (rdM_0 q)).2⟩⟩, a3⟩
theorem YW.need (n : Nat) {M : Mem} {tp : List Nat} {t : Tm} {E : Dr} (h : YW M tp t E) {p1 : Int32} {ok : Bool} (hok : p1 = 0 ↔ ok = false) (f : Nat) (hf : 0 < f ∧ f < 8) : ∃ M', X_Model_needs n p1 (nI f) M = some ((), M') ∧ YW M' tp (ned ok f t) E ∧ Fr mt M M' := by
  obtain ⟨M', a1, a2, a3⟩ := m_needs n hok f h.2.1.1 h.2.2.1
  exact ⟨M', a1, ⟨h.1.fr a3 (fun c k q => by unfold mt at q; omega), ned_okM hf h.2.1, a2, fun q => ⟨(h.2.2.2 (ned_0 hf.1 q).1).1.mt (h.2.2.2 (ned_0 hf.1 q).1).2 a3, (h.2.2.2 (ned_0 hf.1 q).1).2⟩⟩, a3⟩
def mjA (t : Tm) : Tm := lkN 0 15 t
def mjB (tp : List Nat) (t : Tm) : Tm := lkN 0 15 (rdM tp (mjA t))
def mjC (tp : List Nat) (t : Tm) : Tm := lkN 0 15 (rdM tp (ned (decide (vaM (mjB tp t) ≠ vaM (mjA t))) 4 (mjB tp t)))
def mjT (tp : List Nat) (t : Tm) : Tm := rdM tp (ned (decide (vaM (mjC tp t) ≠ vaM (mjA t) ∧ vaM (mjC tp t) ≠ vaM (mjB tp t))) 4 (mjC tp t))
def mjD (tp : List Nat) (t : Tm) (E : Dr) : Dr := ((E.R.1, E.R.2.1, E.R.2.2.1 ++ [(vaM (mjA t), vaM (mjB tp t), vaM (mjC tp t))], E.R.2.2.2), E.2)
theorem m_readJoin (n : Nat) (hn : 400 ≤ n) {M : Mem} {tp : List Nat} {t : Tm} {E : Dr} (h : YS M tp t E) (hj : E.R.2.2.1.length < 4) : ∃ M', X_Model_readJoin n M = some ((), M') ∧ YW M' tp (mjT tp t) (mjD tp t E) ∧ Fr yd M M' := by
  obtain ⟨M2, a1, a2, a3⟩ := h.rnum n hn 0 15 (by decide) (by decide)
  obtain ⟨M4, b1, b2, b3⟩ := a2.look n 0 15 (by decide) (by decide)
  have a1 : X_Model_readNumber n 0 15 M = some (nI (vaM (mjA t)), M2) := a1
  have b1 : X_Model_looked n 0 15 M2 = some (nI (vaM (mjB tp t)), M4) := b1
  have b2 : YS M4 tp (mjB tp t) E := b2
  have va : vaM (mjA t) ≤ 15 := vaM_le
  have vb : vaM (mjB tp t) ≤ 15 := vaM_le
  have vc : vaM (mjC tp t) ≤ 15 := vaM_le
  have f4 := (mt_yd a3).trans (mt_yd b3)
  have k77 : ∀ (N : Mem) (t2 : Tm), YS N tp t2 E → Fr yd M N → rdM tp t2 = mjT tp t → ∃ M', (bd (X_Model_next n N) fun _ M12 => nm (fun (M13 : Mem) => (some ((), si M13 0 14 ((M13.1 0 14) + 1)) : Option (Unit × Mem))) fun k128 => (if (M12.1 0 31) = 0 then gd ((3 : Int32) * (M12.1 0 14)) 12 (nm (si M12 8 (((3 : Int32) * (M12.1 0 14)).toNatClampNeg) (nI (vaM (mjA t)))) fun N14 => gd (((3 : Int32) * (N14.1 0 14)) + 1) 12 (nm (si N14 8 ((((3 : Int32) * (N14.1 0 14)) + 1).toNatClampNeg) (nI (vaM (mjB tp t)))) fun N15 => gd (((3 : Int32) * (N15.1 0 14)) + 2) 12 (k128 (si N15 8 ((((3 : Int32) * (N15.1 0 14)) + 2).toNatClampNeg) (nI (vaM (mjC tp t))))))) else k128 M12)) = some ((), M') ∧ YW M' tp (mjT tp t) (mjD tp t E) ∧ Fr yd M M' := by
    intro N t2 g1 g2 g3
    obtain ⟨M12, c1, c2, c3⟩ := g1.nxt n hn
    rw [g3] at c2
    have f12 := g2.trans (mt_yd c3)
    rw [c1, bd_ret, nm_eq, c2.2.2.1.1]
    obtain ⟨d1, d2, d3, d4, d5, d6, d7, d8, d9, d10⟩ := c2.2.2.2.1.1
    generalize hL : E.R.2.2.1.length = L at hj d3
    by_cases e0 : (mjT tp t).1 = 0
    · rw [if_pos (show nI (mjT tp t).1 = 0 by rw [e0]; rfl), nm_eq, d3, show (3 : Int32) = nI 3 from rfl, pk_mul, gd_in (vp_in_nI (n := 3 * L) (by omega) (by decide)), nI_clamp (show 3 * L < 2 ^ 31 by omega), si_ne (Or.inl (by decide)), d3, pk_mul, nI_1, gd_in (vp_in_nI (n := 3 * L + 1) (by omega) (by decide)), nI_clamp (show 3 * L + 1 < 2 ^ 31 by omega), nm_eq, si_ne (Or.inl (by decide)), si_ne (Or.inl (by decide)), d3, pk_mul, show (2 : Int32) = nI 2 from rfl, nI_add, gd_in (vp_in_nI (n := 3 * L + 2) (by omega) (by decide)), nI_clamp (show 3 * L + 2 < 2 ^ 31 by omega)]
      dsimp only
      rw [si_ne (Or.inl (by decide)), si_ne (Or.inl (by decide)), si_ne (Or.inl (by decide)), d3, nI_1]
      generalize hN : si (si (si M12 8 (3 * L) (nI (vaM (mjA t)))) 8 (3 * L + 1) (nI (vaM (mjB tp t)))) 8 (3 * L + 2) (nI (vaM (mjC tp t))) = N16
      have g12 : Fr (fun c k => c = 8 ∧ 3 * L ≤ k) M12 N16 := by rw [← hN]; exact ((Fr.si ⟨rfl, by omega⟩).trans (Fr.si ⟨rfl, by omega⟩)).trans (Fr.si ⟨rfl, by omega⟩)
      have g13 : Fr (fun c k => (c = 8 ∧ 3 * L ≤ k) ∨ (c = 0 ∧ k = 14)) M12 (si N16 0 14 (nI (L + 1))) := (g12.mono (fun c k q => Or.inl q)).trans (Fr.si (Or.inr ⟨rfl, rfl⟩))
      have e9 : ∀ a k, ¬ ((a = 8 ∧ 3 * L ≤ k) ∨ (a = 0 ∧ k = 14)) → (si N16 0 14 (nI (L + 1))).1 a k = M12.1 a k := fun a k q => (g13 a k q).1
      have v0 : (si N16 0 14 (nI (L + 1))).1 8 (3 * L) = nI (vaM (mjA t)) := by rw [si_ne (Or.inl (by decide)), ← hN, si_ne (Or.inr (by omega)), si_ne (Or.inr (by omega)), si_at]
      have v1 : (si N16 0 14 (nI (L + 1))).1 8 (3 * L + 1) = nI (vaM (mjB tp t)) := by rw [si_ne (Or.inl (by decide)), ← hN, si_ne (Or.inr (by omega)), si_at]
      have v2 : (si N16 0 14 (nI (L + 1))).1 8 (3 * L + 2) = nI (vaM (mjC tp t)) := by rw [si_ne (Or.inl (by decide)), ← hN, si_at]
      have hs : YS (si N16 0 14 (nI (L + 1))) tp (mjT tp t) (mjD tp t E) := c2.wr g13 (fun c k q => by omega) ⟨⟨by rw [e9 _ _ (by omega)]; exact d1, by rw [e9 _ _ (by omega)]; exact d2, by
        rw [si_at]
        show nI (L + 1) = nI (E.R.2.2.1 ++ [(vaM (mjA t), vaM (mjB tp t), vaM (mjC tp t))]).length
        rw [List.length_append, hL]; rfl, by rw [e9 _ _ (by omega)]; exact d4, by rw [e9 _ _ (by omega)]; exact d5, joins_snoc d6 (fun k hk => e9 8 k (by omega)) (by rw [hL]; exact v0) (by rw [hL]; exact v1) (by rw [hL]; exact v2), fun i h hi => by rw [e9 _ _ (by omega)]; exact d7 i h hi, fun i h hi => by rw [e9 _ _ (by omega)]; exact d8 i h hi, d9.fr c2.2.2.2.2 g13 (fun k _ _ q => by omega), fun p hp => by rw [e9 _ _ (by omega)]; exact d10 p hp⟩, fun p hp => by rw [e9 _ _ (by omega)]; exact c2.2.2.2.1.2.1 p hp, by rw [e9 _ _ (by omega)]; exact c2.2.2.2.1.2.2.1, by rw [e9 _ _ (by omega)]; exact c2.2.2.2.1.2.2.2⟩ c2.2.2.2.2
      exact ⟨_, rfl, hs.w, f12.trans (g13.mono (fun a k q => by unfold yd; omega))⟩
    · rw [if_neg (fun q => e0 ((i_z (by have := c2.2.1.1; omega)).mp q))]
      have g13 : Fr (fun c k => c = 0 ∧ k = 14) M12 (si M12 0 14 ((M12.1 0 14) + 1)) := Fr.si ⟨rfl, rfl⟩
      exact ⟨_, rfl, ⟨c2.1.fr g13 (fun c k q => by omega), c2.2.1, c2.2.2.1.nt g13 (fun k q => by omega), fun q => absurd q e0⟩, f12.trans (g13.mono (fun a k q => by unfold yd; omega))⟩
  have k38 : ∀ (N : Mem) (t2 : Tm), YS N tp t2 E → Fr yd M N → t2 = ned (decide (vaM (mjB tp t) ≠ vaM (mjA t))) 4 (mjB tp t) → ∃ M', (bd (X_Model_next n N) fun _ M7 => bd (X_Model_looked n 0 15 M7) fun r8 M9 => nm (fun (M10 : Mem) => (bd (X_Model_next n M10) fun _ M12 => nm (fun (M13 : Mem) => (some ((), si M13 0 14 ((M13.1 0 14) + 1)) : Option (Unit × Mem))) fun k128 => (if (M12.1 0 31) = 0 then gd ((3 : Int32) * (M12.1 0 14)) 12 (nm (si M12 8 (((3 : Int32) * (M12.1 0 14)).toNatClampNeg) (nI (vaM (mjA t)))) fun N14 => gd (((3 : Int32) * (N14.1 0 14)) + 1) 12 (nm (si N14 8 ((((3 : Int32) * (N14.1 0 14)) + 1).toNatClampNeg) (nI (vaM (mjB tp t)))) fun N15 => gd (((3 : Int32) * (N15.1 0 14)) + 2) 12 (k128 (si N15 8 ((((3 : Int32) * (N15.1 0 14)) + 2).toNatClampNeg) r8)))) else k128 M12) : Option (Unit × Mem))) fun k77 => (if (M9.1 0 31) = 0 then nm (fun (u16 : Int32) => (bd (X_Model_needs n u16 4 M9) fun _ M18 => k77 M18 : Option (Unit × Mem))) fun k73 => (if r8 = nI (vaM (mjA t)) then k73 0 else (if r8 = nI (vaM (mjB tp t)) then k73 0 else k73 1)) else k77 M9)) = some ((), M') ∧ YW M' tp (mjT tp t) (mjD tp t E) ∧ Fr yd M M' := by
    intro N t2 g1 g2 g3
    obtain ⟨M7, c1, c2, c3⟩ := g1.nxt n hn
    obtain ⟨M9, d1, d2, d3⟩ := c2.look n 0 15 (by decide) (by decide)
    have et : lkN 0 15 (rdM tp t2) = mjC tp t := by rw [g3]; rfl
    rw [et] at d1 d2
    have f9 := (g2.trans (mt_yd c3)).trans (mt_yd d3)
    rw [c1, bd_ret, show X_Model_looked n 0 15 M7 = _ from d1, bd_ret, nm_eq, nm_eq, d2.2.2.1.1]
    by_cases e : (mjC tp t).1 = 0
    · rw [if_pos (show nI (mjC tp t).1 = 0 by rw [e]; rfl)]
      have go : ∀ (p1 : Int32), (p1 = 0 ↔ decide (vaM (mjC tp t) ≠ vaM (mjA t) ∧ vaM (mjC tp t) ≠ vaM (mjB tp t)) = false) → ∃ M', (bd (X_Model_needs n p1 4 M9) fun _ M18 => (bd (X_Model_next n M18) fun _ M12 => nm (fun (M13 : Mem) => (some ((), si M13 0 14 ((M13.1 0 14) + 1)) : Option (Unit × Mem))) fun k128 => (if (M12.1 0 31) = 0 then gd ((3 : Int32) * (M12.1 0 14)) 12 (nm (si M12 8 (((3 : Int32) * (M12.1 0 14)).toNatClampNeg) (nI (vaM (mjA t)))) fun N14 => gd (((3 : Int32) * (N14.1 0 14)) + 1) 12 (nm (si N14 8 ((((3 : Int32) * (N14.1 0 14)) + 1).toNatClampNeg) (nI (vaM (mjB tp t)))) fun N15 => gd (((3 : Int32) * (N15.1 0 14)) + 2) 12 (k128 (si N15 8 ((((3 : Int32) * (N15.1 0 14)) + 2).toNatClampNeg) (nI (vaM (mjC tp t))))))) else k128 M12))) = some ((), M') ∧ YW M' tp (mjT tp t) (mjD tp t E) ∧ Fr yd M M' := fun p1 hp1 => by
        obtain ⟨M18, i1, i2, i3⟩ := d2.need n hp1 4 (by decide)
        rw [show X_Model_needs n p1 4 M9 = _ from i1, bd_ret]
        exact k77 M18 _ i2 (f9.trans (mt_yd i3)) rfl
      by_cases e1 : vaM (mjC tp t) = vaM (mjA t)
      · rw [if_pos (by rw [e1])]
        exact go 0 (by rw [decide_eq_false (fun q => q.1 e1)]; decide)
      · rw [if_neg (fun q => e1 ((nI_eq (by omega) (by omega)).mp q))]
        by_cases e2 : vaM (mjC tp t) = vaM (mjB tp t)
        · rw [if_pos (by rw [e2])]
          exact go 0 (by rw [decide_eq_false (fun q => q.2 e2)]; decide)
        · rw [if_neg (fun q => e2 ((nI_eq (by omega) (by omega)).mp q))]
          exact go 1 (by rw [decide_eq_true ⟨e1, e2⟩]; decide)
    · rw [if_neg (fun q => e ((i_z (by have := d2.2.1.1; omega)).mp q))]
      exact k77 M9 _ d2 f9 (by unfold mjT; rw [ned_bad e])
  unfold X_Model_readJoin
  rw [a1, bd_ret, b1, bd_ret, nm_eq, nm_eq, b2.2.2.1.1]
  by_cases e : (mjB tp t).1 = 0
  · rw [if_pos (show nI (mjB tp t).1 = 0 by rw [e]; rfl)]
    have go : ∀ (p1 : Int32), (p1 = 0 ↔ decide (vaM (mjB tp t) ≠ vaM (mjA t)) = false) → ∃ M16, X_Model_needs n p1 4 M4 = some ((), M16) ∧ YS M16 tp (ned (decide (vaM (mjB tp t) ≠ vaM (mjA t))) 4 (mjB tp t)) E ∧ Fr mt M4 M16 := fun p1 hp1 => b2.need n hp1 4 (by decide)
    by_cases e1 : vaM (mjB tp t) = vaM (mjA t)
    · obtain ⟨M16, i1, i2, i3⟩ := go 0 (by rw [decide_eq_false (fun q => q e1)]; decide)
      rw [if_pos (by rw [e1])]
      dsimp only
      rw [i1, bd_ret]
      exact k38 M16 _ i2 (f4.trans (mt_yd i3)) rfl
    · obtain ⟨M16, i1, i2, i3⟩ := go 1 (by rw [decide_eq_true e1]; decide)
      rw [if_neg (fun q => e1 ((nI_eq (by omega) (by omega)).mp q))]
      dsimp only
      rw [i1, bd_ret]
      exact k38 M16 _ i2 (f4.trans (mt_yd i3)) rfl
  · rw [if_neg (fun q => e ((i_z (by have := b2.2.1.1; omega)).mp q))]
    exact k38 M4 _ b2 f4 (ned_bad e).symm
end
section
/-! THE TEXT: knows in the reference -/
def btN (lo hi : Nat) (a : Tk) : Tk := rfs (oob lo hi (rfs (decide (a.2.2.1 ≠ 2)) 2 a).2.2.2.2) 3 (rfs (decide (a.2.2.1 ≠ 2)) 2 a)
theorem rfs_bad {c : Bool} {f : Nat} {s : Tk} (h : s.1 ≠ 0) : rfs c f s = s := by
  unfold rfs
  rw [if_neg h]
  split <;> rfl
theorem num_Qa {a : Tk} {t : Tm} (lo hi : Nat) (h : QT a t) : QT (btN lo hi a) (lkN lo hi t) ∧ ((btN lo hi a).1 = 0 → vaN lo (btN lo hi a) = vaM (lkN lo hi t)) := by
  have h1 : QT (rfs (decide (a.2.2.1 ≠ 2)) 2 a) (ned (decide (t.2.2.2.2.1 = 2)) 2 t) := by
    rcases h with h | h
    · exact ref_Q (Or.inl h) (by decide) (by decide) (by rw [h.2.2.2.1]; by_cases q : t.2.2.2.2.1 = 2 <;> simp [q])
    · rw [rfs_bad h.1, ned_bad h.2.1]
      exact Or.inr h
  have hk : (rfs (decide (a.2.2.1 ≠ 2)) 2 a).1 = 0 → a.2.2.1 = 2 := fun q => by
    have := of_decide_eq_false (rfs_0 (by decide) q).2.1
    omega
  have em : lkN lo hi t = ned (!oob lo hi (ned (decide (t.2.2.2.2.1 = 2)) 2 t).2.2.2.2.2) 3 (ned (decide (t.2.2.2.2.1 = 2)) 2 t) := rfl
  have ea : (rfs (decide (a.2.2.1 ≠ 2)) 2 a).2.2.1 = a.2.2.1 := by
    unfold rfs
    split
    · split <;> rfl
    · rfl
  unfold btN
  rw [em]
  generalize rfs (decide (a.2.2.1 ≠ 2)) 2 a = b at h1 hk ea
  generalize ned (decide (t.2.2.2.2.1 = 2)) 2 t = c at h1
  rcases h1 with h1 | h1
  · have hv := h1.2.2.2.2.2 (by rw [ea]; exact hk h1.1)
    have hq := ref_Q (Or.inl h1) (f := 3) (f' := 3) (by decide) (by decide) (c := oob lo hi b.2.2.2.2) (ok := !oob lo hi c.2.2.2.2.2) (by rw [hv, Bool.not_not])
    refine ⟨hq, fun q => ?_⟩
    obtain ⟨r1, r2, r3⟩ := rfs_0 (by decide) q
    rw [r3]
    unfold vaN vaM
    rw [hv] at r2
    rw [r2, if_pos h1.1]
    show _ = if c.1 = 0 then c.2.2.2.2.2 else 0
    rw [if_pos h1.2.1, hv]
  · rw [rfs_bad h1.1, ned_bad h1.2.1]
    exact ⟨Or.inr h1, fun q => absurd q h1.1⟩
theorem Q_0 {s : Tk} {t : Tm} (h : QT s t) : (s.1 = 0 ↔ t.1 = 0) := by
  rcases h with h | h
  · exact ⟨fun _ => h.2.1, fun _ => h.1⟩
  · exact ⟨fun q => absurd q h.1, fun q => absurd q h.2.1⟩
def knt (l : List Nat) (t : Tm) : Tm := lkN 0 15 (ned (decide (¬ (t.2.2.2.2.1 = 2 ∧ 9 ≤ l.length))) 5 t)
def kn4 (tp : List Nat) (l : List Nat) (t : Tm) : Tm := rdM tp (ned (decide (vaM (knt l t) ∉ l)) 4 (knt l t))
theorem kn_Q {tp l : List Nat} {s : Tk} {t : Tm} (h : Qok s t) (h8 : s.1 < 8 ∧ t.1 < 8) (h9 : l.length ≤ 9) : QT (rdX tp (thS l (vaN 0 (btN 0 15 s)) (btN 0 15 s))) (kn4 tp l t) ∧ ((kn4 tp l t).1 = 0 → thL l (vaN 0 (btN 0 15 s)) = l ++ [vaM (knt l t)] ∧ l.length < 9) := by
  by_cases hc : t.2.2.2.2.1 = 2 ∧ 9 ≤ l.length
  · -- the tenth thing: both meet a fault here
    have hk2 : s.2.2.1 = 2 := by rw [h.2.2.2.1]; exact hc.1
    have e1 : ned (decide (¬ (t.2.2.2.2.1 = 2 ∧ 9 ≤ l.length))) 5 t = (5, t.2.2.2.1, t.2.2) := by
      rw [decide_eq_false (fun q => q hc)]
      unfold ned
      rw [if_neg Bool.false_ne_true, if_pos h.2.1]
    have n5 : ((5, t.2.2.2.1, t.2.2) : Tm).1 ≠ 0 := by show 5 ≠ 0; decide
    have e2 : knt l t = (5, t.2.2.2.1, t.2.2) := by unfold knt; rw [e1, lkN_bad n5]
    have e4 : kn4 tp l t = (5, t.2.2.2.1, t.2.2) := by unfold kn4; rw [e2, ned_bad n5, rdM_bad n5]
    rw [e4]
    refine ⟨Or.inr ?_, fun q => absurd q n5⟩
    have e0 : rfs (decide (s.2.2.1 ≠ 2)) 2 s = s := by rw [decide_eq_false (fun q => q hk2)]; rfl
    have eb : btN 0 15 s = rfs (oob 0 15 s.2.2.2.2) 3 s := by unfold btN; rw [e0]
    have key : ∃ f, 0 < f ∧ f < 8 ∧ thS l (vaN 0 (btN 0 15 s)) (btN 0 15 s) = (f, s.2) := by
      rw [eb]
      cases eo : oob 0 15 s.2.2.2.2 with
      | true =>
        have e3 : rfs true 3 s = (3, s.2) := by unfold rfs; rw [if_pos rfl, if_pos h.1]
        have n3 : ((3, s.2) : Tk).1 ≠ 0 := by show 3 ≠ 0; decide
        exact ⟨3, by decide, by decide, by rw [e3]; unfold thS; rw [rfs_bad n3, rfs_bad n3]⟩
      | false =>
        rw [rfs_f]
        unfold thS
        by_cases em : vaN 0 s ∈ l
        · refine ⟨4, by decide, by decide, ?_⟩
          rw [decide_eq_true em, decide_eq_false (fun q => q.1 em), rfs_f]
          unfold rfs
          rw [if_pos rfl, if_pos h.1]
        · refine ⟨5, by decide, by decide, ?_⟩
          rw [decide_eq_false em, rfs_f, decide_eq_true ⟨em, hc.2⟩]
          unfold rfs
          rw [if_pos rfl, if_pos h.1]
    obtain ⟨f, f1, f2, f3⟩ := key
    have nf : ((f, s.2) : Tk).1 ≠ 0 := by show f ≠ 0; omega
    rw [f3]
    have er : rdX tp (f, s.2) = (f, s.2) := by unfold rdX; rw [if_neg nf]
    rw [er]
    exact ⟨nf, n5, f2, by show 5 < 8; decide, h.2.2.2.2.1⟩
  · have e1 : ned (decide (¬ (t.2.2.2.2.1 = 2 ∧ 9 ≤ l.length))) 5 t = t := by rw [decide_eq_true hc]; rfl
    have e2 : knt l t = lkN 0 15 t := by unfold knt; rw [e1]
    obtain ⟨q1, q2⟩ := num_Qa 0 15 (Or.inl h)
    unfold kn4
    rw [e2]
    have hb2 : (btN 0 15 s).1 = 0 → l.length < 9 := fun q => by
      have a1 := (rfs_0 (by decide) q).1
      have a2 := of_decide_eq_false (rfs_0 (by decide) a1).2.1
      have : s.2.2.1 = 2 := by omega
      rw [h.2.2.2.1] at this
      omega
    generalize btN 0 15 s = b at q1 q2 hb2
    generalize lkN 0 15 t = c at q1 q2
    have hQ : QT (thS l (vaN 0 b) b) (ned (decide (vaM c ∉ l)) 4 c) := by
      unfold thS
      rcases q1 with q1 | q1
      · have h9' := hb2 q1.1
        rw [decide_eq_false (show ¬ (vaN 0 b ∉ l ∧ 9 ≤ l.length) by omega), rfs_f]
        exact ref_Q (Or.inl q1) (by decide) (by decide) (by rw [q2 q1.1]; by_cases m : vaM c ∈ l <;> simp [m])
      · rw [rfs_bad q1.1, rfs_bad q1.1, ned_bad q1.2.1]
        exact Or.inr q1
    refine ⟨next_Q hQ, fun q => ?_⟩
    have r1 := rdM_0 q
    obtain ⟨r2, r3, r4⟩ := ned_0 (by decide) r1
    have b0 := (Q_0 q1).mpr r2
    have r3 := of_decide_eq_true r3
    rw [q2 b0]
    refine ⟨?_, hb2 b0⟩
    unfold thL
    rw [if_neg r3, if_pos (hb2 b0)]
def Part (M : Mem) (p : Nat) (l : List Nat) : Prop := ∀ i x, l[i]? = some x → M.1 11 (10 * p + 1 + i) = nI x
theorem Part.mt {M M' : Mem} {p : Nat} {l : List Nat} (h : Part M p l) (ho : Fr mt M M') : Part M' p l := fun i x hi => by
  rw [(ho 11 _ (fun q => by have q := mt_at q; omega)).1]
  exact h i x hi
theorem i_10p (p i : Nat) : (((10 : Int32) * nI p) + 1) + nI i = nI (10 * p + 1 + i) := by
  rw [show (10 : Int32) = nI 10 from rfl, pk_mul, nI_1, nI_add]
theorem m_L100 (n : Nat) {tp : List Nat} {E : Dr} {p w : Nat} (hp : p < 6) (hw : w < 2 ^ 31) (kx : Mem → Option (Unit × Mem)) {l : List Nat} (hr : ∀ x ∈ l, x < 16) (h9 : l.length ≤ 9) : ∀ suf pre f M t, l = pre ++ suf → suf.length < f → YS M tp t E → Part M p l → ∃ M', X_Model_readKnows_L100 n (nI p) (nI l.length) (nI w) kx f (nI pre.length) M = kx M' ∧ YS M' tp (ned (decide (w ∉ suf)) 4 t) E ∧ Fr mt M M'
  | [], pre, f, M, t, e, hf, hS, hP => by
    obtain ⟨f, rfl⟩ : ∃ g, f = g + 1 := ⟨f - 1, by omega⟩
    rw [List.append_nil] at e
    refine ⟨M, ?_, hS, Fr.rf⟩
    show (if nI l.length ≤ nI pre.length then kx M else _) = _
    rw [e, if_pos (nI_le (Nat.le_refl _) (by rw [← e]; omega))]
  | x :: suf, pre, f, M, t, e, hf, hS, hP => by
    rw [List.length_cons] at hf
    obtain ⟨f, rfl⟩ : ∃ g, f = g + 1 := ⟨f - 1, by omega⟩
    have hlen : pre.length < l.length := by rw [e, List.length_append, List.length_cons]; omega
    have ex : l[pre.length]? = some x := by rw [e, List.getElem?_append_right (Nat.le_refl _), Nat.sub_self]; rfl
    have hx := hr x (by rw [e]; exact List.mem_append_right _ List.mem_cons_self)
    obtain ⟨M2, b1, b2, b3⟩ := hS.need n (p1 := if nI x = nI w then 0 else 1) (ok := decide (x ≠ w)) (by
      by_cases q : x = w
      · rw [if_pos (by rw [q]), decide_eq_false (fun r => r q)]; decide
      · rw [if_neg (fun r => q ((nI_eq (by omega) hw).mp r)), decide_eq_true q]; decide) 4 (by decide)
    obtain ⟨M', c1, c2, c3⟩ := m_L100 n hp hw kx hr h9 suf (pre ++ [x]) f M2 _ (by rw [e, List.append_assoc]; rfl) (by omega) b2 (hP.mt b3)
    rw [List.length_append, List.length_singleton] at c1
    refine ⟨M', ?_, ?_, b3.trans c3⟩
    · rw [← c1]
      show (if nI l.length ≤ nI pre.length then kx M else gd ((((10 : Int32) * nI p) + 1) + nI pre.length) 60 (nm (fun (u14 : Int32) => (bd (X_Model_needs n u14 4 M) fun _ M16 => X_Model_readKnows_L100 n (nI p) (nI l.length) (nI w) kx f (nI pre.length + 1) M16 : Option (Unit × Mem))) fun k131 => (if (M.1 11 ((((10 : Int32) * nI p) + 1) + nI pre.length).toNatClampNeg) = nI w then k131 0 else k131 1))) = _
      rw [if_neg (nI_ge hlen (by omega)), i_10p, gd_in (vp_in_nI (n := 10 * p + 1 + pre.length) (by omega) (by decide)), nI_clamp (by omega), hP _ _ ex, nm_eq, nI_1]
      by_cases q : nI x = nI w
      · rw [if_pos q]
        rw [if_pos q] at b1
        dsimp only
        rw [show X_Model_needs n 0 4 M = _ from b1, bd_ret]
      · rw [if_neg q]
        rw [if_neg q] at b1
        dsimp only
        rw [show X_Model_needs n 1 4 M = _ from b1, bd_ret]
    · have : ned (decide (w ∉ x :: suf)) 4 t = ned (decide (w ∉ suf)) 4 (ned (decide (x ≠ w)) 4 t) := by
        by_cases q : x = w
        · have h1 : decide (w ∉ x :: suf) = false := decide_eq_false (fun r => r (by rw [q]; exact List.mem_cons_self))
          have h2 : decide (x ≠ w) = false := decide_eq_false (fun r => r q)
          rw [h1, h2]
          by_cases e0 : t.1 = 0
          · have e4 : ned false 4 t = (4, t.2.2.2.1, t.2.2) := by unfold ned; rw [if_neg Bool.false_ne_true, if_pos e0]
            rw [e4]
            exact (ned_bad (show ((4, t.2.2.2.1, t.2.2) : Tm).1 ≠ 0 by show 4 ≠ 0; decide)).symm
          · rw [ned_bad e0]
            exact (ned_bad e0).symm
        · rw [decide_eq_true q]
          by_cases m : w ∈ suf
          · rw [decide_eq_false (show ¬ w ∉ x :: suf from fun r => r (List.mem_cons_of_mem _ m)), decide_eq_false (fun r => r m)]; rfl
          · rw [decide_eq_true (show w ∉ x :: suf from fun r => (List.mem_cons.mp r).elim (fun z => q z.symm) m), decide_eq_true m]; rfl
      rw [this]
      exact c2
theorem kn_8 {tp l : List Nat} {t : Tm} (q : (kn4 tp l t).1 = 0) : l.length < 9 := by
  have r1 := rdM_0 q
  have r2 := (ned_0 (by decide) r1).1
  obtain ⟨s1, s2, -, -, -⟩ := lkN_0 r2
  obtain ⟨u1, u2, u3⟩ := ned_0 (by decide) s1
  have u2 := of_decide_eq_true u2
  rw [u3] at s2
  omega
theorem m_kn_it (n : Nat) (hn : 400 ≤ n) {tp : List Nat} {E : Dr} {p : Nat} (hp : p < 6) (hWp : E.W p = []) (kx : Int32 → Mem → Option (Unit × Mem)) {l : List Nat} (hr : Ro l) (h9 : l.length ≤ 9) {t : Tm} (h0 : t.1 = 0) {M : Mem} (hS : YS M tp t E) (hP : Part M p l) (f : Nat) : ∃ M', X_Model_readKnows_L53 n (nI p) kx (f + 1) (nI l.length) 1 M = X_Model_readKnows_L53 n (nI p) kx f (nI (if (kn4 tp l t).1 = 0 then l.length + 1 else l.length)) (nI (if (kn4 tp l t).2.2.2.2.1 = 2 then 1 else 0)) M' ∧ YS M' tp (kn4 tp l t) E ∧ ((kn4 tp l t).1 = 0 → Part M' p (l ++ [vaM (knt l t)])) ∧ Fr yd M M' := by
  have hk4 := hS.2.1.2.2.2
  have hw : vaM (knt l t) ≤ 15 := vaM_le
  have un : X_Model_readKnows_L53 n (nI p) kx (f + 1) (nI l.length) 1 M = (bd (X_Model_needs n (if t.2.2.2.2.1 = 2 ∧ 9 ≤ l.length then 0 else 1) 5 M) fun _ M11 => bd (X_Model_looked n 0 15 M11) fun r12 M13 => X_Model_readKnows_L100 n (nI p) (nI l.length) r12 (fun M17 => bd (X_Model_next n M17) fun _ M19 => nm (fun (z20 : Int32) (M21 : Mem) => (nm (fun (u22 : Int32) => (X_Model_readKnows_L53 n (nI p) kx f z20 u22 M21 : Option (Unit × Mem))) fun k183 => (if (M21.1 0 29) = 2 then k183 1 else k183 0) : Option (Unit × Mem))) fun k170 => (if (M19.1 0 31) = 0 then gd ((((10 : Int32) * nI p) + 1) + nI l.length) 60 (k170 (nI l.length + 1) (si M19 11 (((((10 : Int32) * nI p) + 1) + nI l.length).toNatClampNeg) r12)) else k170 (nI l.length) M19)) n 0 M13) := by
    show (if (M.1 0 31) = 0 then (if (1 : Int32) = 0 then kx (nI l.length) M else nm (fun (u9 : Int32) => (bd (X_Model_needs n u9 5 M) fun _ M11 => bd (X_Model_looked n 0 15 M11) fun r12 M13 => X_Model_readKnows_L100 n (nI p) (nI l.length) r12 (fun M17 => bd (X_Model_next n M17) fun _ M19 => nm (fun (z20 : Int32) (M21 : Mem) => (nm (fun (u22 : Int32) => (X_Model_readKnows_L53 n (nI p) kx f z20 u22 M21 : Option (Unit × Mem))) fun k183 => (if (M21.1 0 29) = 2 then k183 1 else k183 0) : Option (Unit × Mem))) fun k170 => (if (M19.1 0 31) = 0 then gd ((((10 : Int32) * nI p) + 1) + nI l.length) 60 (k170 (nI l.length + 1) (si M19 11 (((((10 : Int32) * nI p) + 1) + nI l.length).toNatClampNeg) r12)) else k170 (nI l.length) M19)) n 0 M13 : Option (Unit × Mem))) fun k84 => (if (M.1 0 29) = 2 then (if 9 ≤ nI l.length then k84 0 else k84 1) else k84 1)) else kx (nI l.length) M) = _
    rw [hS.2.2.1.1, if_pos (show nI t.1 = 0 by rw [h0]; rfl), if_neg i10, nm_eq, hS.2.2.1.2.2.2.2.1]
    by_cases q : t.2.2.2.2.1 = 2
    · rw [if_pos (show nI t.2.2.2.2.1 = 2 by rw [q]; rfl)]
      by_cases q9 : 9 ≤ l.length
      · rw [if_pos (show (9 : Int32) ≤ nI l.length from nI_le (a := 9) q9 (by omega)), if_pos ⟨q, q9⟩]
      · rw [if_neg (show ¬ (9 : Int32) ≤ nI l.length from nI_ge (b := 9) (by omega) (by decide)), if_neg (fun r => q9 r.2)]
    · rw [if_neg (show ¬ nI t.2.2.2.2.1 = 2 from fun r => q ((nI_eq (b := 2) (by omega) (by decide)).mp r)), if_neg (fun r => q r.1)]
  obtain ⟨M11, b1, b2, b3⟩ := hS.need n (p1 := if t.2.2.2.2.1 = 2 ∧ 9 ≤ l.length then 0 else 1) (ok := decide (¬ (t.2.2.2.2.1 = 2 ∧ 9 ≤ l.length))) (by
    by_cases q : t.2.2.2.2.1 = 2 ∧ 9 ≤ l.length
    · rw [if_pos q, decide_eq_false (fun r => r q)]; decide
    · rw [if_neg q, decide_eq_true q]; decide) 5 (by decide)
  obtain ⟨M13, c1, c2, c3⟩ := b2.look n 0 15 (by decide) (by decide)
  have c1 : X_Model_looked n 0 15 M11 = some (nI (vaM (knt l t)), M13) := c1
  have c2 : YS M13 tp (knt l t) E := c2
  have hP13 := (hP.mt b3).mt c3
  rw [un, show X_Model_needs n (if t.2.2.2.2.1 = 2 ∧ 9 ≤ l.length then 0 else 1) 5 M = _ from b1, bd_ret, c1, bd_ret]
  generalize hkx : (fun M17 : Mem => bd (X_Model_next n M17) fun _ M19 => nm (fun (z20 : Int32) (M21 : Mem) => (nm (fun (u22 : Int32) => (X_Model_readKnows_L53 n (nI p) kx f z20 u22 M21 : Option (Unit × Mem))) fun k183 => (if (M21.1 0 29) = 2 then k183 1 else k183 0) : Option (Unit × Mem))) fun k170 => (if (M19.1 0 31) = 0 then gd ((((10 : Int32) * nI p) + 1) + nI l.length) 60 (k170 (nI l.length + 1) (si M19 11 (((((10 : Int32) * nI p) + 1) + nI l.length).toNatClampNeg) (nI (vaM (knt l t))))) else k170 (nI l.length) M19)) = kx2
  obtain ⟨M17, d1, d2, d3⟩ := m_L100 n hp (w := vaM (knt l t)) (by omega) kx2 hr.2 h9 l [] n M13 _ rfl (by omega) c2 hP13
  obtain ⟨M19, e1, e2, e3⟩ := d2.nxt n hn
  have e2 : YS M19 tp (kn4 tp l t) E := e2
  have hP19 := (hP13.mt d3).mt e3
  have f19 := (((mt_yd b3).trans (mt_yd c3)).trans (mt_yd d3)).trans (mt_yd e3)
  rw [show X_Model_readKnows_L100 n (nI p) (nI l.length) (nI (vaM (knt l t))) kx2 n 0 M13 = _ from d1, ← hkx]
  dsimp only
  rw [e1, bd_ret, nm_eq, e2.2.2.1.1]
  have k29 : ∀ (N : Mem), N.1 0 29 = nI (kn4 tp l t).2.2.2.2.1 → ∀ z, (nm (fun (u22 : Int32) => (X_Model_readKnows_L53 n (nI p) kx f z u22 N : Option (Unit × Mem))) fun k183 => (if (N.1 0 29) = 2 then k183 1 else k183 0)) = X_Model_readKnows_L53 n (nI p) kx f z (nI (if (kn4 tp l t).2.2.2.2.1 = 2 then 1 else 0)) N := fun N hN z => by
    rw [nm_eq, hN]
    by_cases q : (kn4 tp l t).2.2.2.2.1 = 2
    · rw [if_pos (show nI (kn4 tp l t).2.2.2.2.1 = 2 by rw [q]; rfl), if_pos q]; rfl
    · rw [if_neg (show ¬ nI (kn4 tp l t).2.2.2.2.1 = 2 from fun r => q ((nI_eq (b := 2) (by have := e2.2.1.2.2.2; omega) (by decide)).mp r)), if_neg q]; rfl
  by_cases e0 : (kn4 tp l t).1 = 0
  · have hl8 := kn_8 e0
    rw [if_pos (show nI (kn4 tp l t).1 = 0 by rw [e0]; rfl), if_pos e0, i_10p, gd_in (vp_in_nI (n := 10 * p + 1 + l.length) (by omega) (by decide)), nI_clamp (by omega), nI_1]
    dsimp only
    rw [k29 _ (by rw [si_ne (Or.inl (by decide))]; exact e2.2.2.1.2.2.2.2.1)]
    have f1 : Fr (fun c k => c = 11 ∧ k = 10 * p + 1 + l.length) M19 (si M19 11 (10 * p + 1 + l.length) (nI (vaM (knt l t)))) := Fr.si ⟨rfl, rfl⟩
    obtain ⟨x1, x2, x3, x4, x5, x6, x7, x8, x9, x10⟩ := e2.2.2.2.1.1
    refine ⟨_, rfl, e2.wr f1 (fun c k q => by omega) ⟨⟨x1, x2, x3, x4, x5, x6, x7, x8, fun q hq => ?_, x10⟩, e2.2.2.2.1.2⟩ e2.2.2.2.2, fun _ i x hi => ?_, f19.trans (f1.mono (fun c k q => by unfold yd; omega))⟩
    · by_cases eq : q = p
      · subst eq
        have hx := x9 q hq
        rw [hWp] at hx ⊢
        exact ⟨by rw [si_ne (Or.inr (by omega))]; exact hx.1, fun i t hi => absurd hi (by simp)⟩
      · refine (x9 q hq).fr f1 (fun k h1 h2 r => ?_)
        have := (e2.2.2.2.2 q).2
        omega
    · by_cases hi2 : i < l.length
      · rw [List.getElem?_append_left hi2] at hi
        rw [si_ne (Or.inr (by omega))]
        exact hP19 i x hi
      · have hl2 := (List.getElem?_eq_some_iff.mp hi).1
        rw [List.length_append, List.length_singleton] at hl2
        have ei : i = l.length := by omega
        subst ei
        rw [List.getElem?_append_right (Nat.le_refl _), Nat.sub_self] at hi
        rw [si_at, ← Option.some.inj hi]
  · rw [if_neg (fun q => e0 ((i_z (by have := e2.2.1.1; omega)).mp q)), if_neg e0]
    dsimp only
    rw [k29 _ e2.2.2.1.2.2.2.2.1]
    exact ⟨M19, rfl, e2, fun q => absurd q e0, f19⟩
end
section
/-! THE TEXT: knows, both sides' loops -/
theorem rwL_bad {tp : List Nat} {s : Tk} (h : s.1 ≠ 0) (l : List Nat) : ∀ k, rwL tp k l s = (l, s)
  | 0 => rfl
  | k + 1 => if_neg (fun q => h q.1)
theorem bt_bd {s : Tk} (h : s.2.2.1 = 2) : btN 0 15 s = bd15 s := by
  have e0 : rfs (decide (s.2.2.1 ≠ 2)) 2 s = s := by rw [decide_eq_false (fun q => q h), rfs_f]
  unfold btN bd15
  rw [e0]
theorem thL_9 {tp l : List Nat} {s : Tk} {t : Tm} (hr : Ro l) (h9 : l.length ≤ 9) : Ro (thL l (vaN 0 (btN 0 15 s))) ∧ (thL l (vaN 0 (btN 0 15 s))).length ≤ 9 := by
  refine thL_ok hr h9 ?_
  unfold vaN
  by_cases e : (btN 0 15 s).1 = 0
  · rw [if_pos e]
    unfold btN at e ⊢
    obtain ⟨e1, e2, e3⟩ := rfs_0 (by decide) e
    rw [e3]
    have := of_decide_eq_false e2
    omega
  · rw [if_neg e]; decide
theorem QT_8 {tp : List Nat} {s : Tk} {t : Tm} (h : QT s t) : s.1 < 8 ∧ t.1 < 8 := by
  rcases h with h | h
  · rw [h.1, h.2.1]; decide
  · exact ⟨h.2.2.1, h.2.2.2.1⟩
theorem m_kn_L (n : Nat) (hn : 400 ≤ n) {tp : List Nat} {E : Dr} {p : Nat} (hp : p < 6) (hWp : E.W p = []) (kx : Int32 → Mem → Option (Unit × Mem)) : ∀ k l s t f M, k + 2 < f → l.length + k = 10 → QT s t → YS M tp t E → (t.1 = 0 → Part M p l) → Ro l → l.length ≤ 9 → ∃ M' t' v2, X_Model_readKnows_L53 n (nI p) kx f (nI l.length) (nI (if t.2.2.2.2.1 = 2 then 1 else 0)) M = kx (nI v2) M' ∧ v2 ≤ 9 ∧ YS M' tp t' E ∧ QT (rwL tp k l s).2 t' ∧ (t'.1 = 0 → Part M' p (rwL tp k l s).1 ∧ v2 = (rwL tp k l s).1.length) ∧ Fr yd M M' := by
  intro k
  have exit : ∀ (l : List Nat) (t : Tm) (f : Nat) (M : Mem), YS M tp t E → (t.1 ≠ 0 ∨ t.2.2.2.2.1 ≠ 2) → X_Model_readKnows_L53 n (nI p) kx (f + 1) (nI l.length) (nI (if t.2.2.2.2.1 = 2 then 1 else 0)) M = kx (nI l.length) M := by
    intro l t f M hS hc
    show (if (M.1 0 31) = 0 then (if nI (if t.2.2.2.2.1 = 2 then 1 else 0) = 0 then kx (nI l.length) M else _) else kx (nI l.length) M) = _
    rw [hS.2.2.1.1]
    rcases hc with hc | hc
    · rw [if_neg (fun q => hc ((i_z (by have := hS.2.1.1; omega)).mp q))]
    · rw [if_neg hc]
      split <;> rfl
  induction k with
  | zero =>
    intro l s t f M hf hl hQ hS hP hr h9
    omega
  | succ k ih =>
    intro l s t f M hf hl hQ hS hP hr h9
    obtain ⟨f, rfl⟩ : ∃ g, f = g + 1 := ⟨f - 1, by omega⟩
    rcases hQ with hQ | hQ
    · by_cases hk : t.2.2.2.2.1 = 2
      · have hks : s.2.2.1 = 2 := by rw [hQ.2.2.2.1]; exact hk
        obtain ⟨M2, a1, a2, a3, a4⟩ := m_kn_it n hn hp hWp kx hr h9 hQ.2.1 hS (hP hQ.2.1) f
        obtain ⟨q1, q2⟩ := kn_Q (tp := tp) hQ (QT_8 (tp := tp) (Or.inl hQ)) h9
        obtain ⟨r1, r2⟩ := thL_9 (tp := tp) (s := s) (t := t) hr h9
        rw [if_pos hk, show nI 1 = (1 : Int32) from rfl, a1]
        have eR : rwL tp (k + 1) l s = rwL tp k (thL l (vaN 0 (btN 0 15 s))) (rdX tp (thS l (vaN 0 (btN 0 15 s)) (btN 0 15 s))) := by
          rw [bt_bd hks]
          exact if_pos ⟨hQ.1, hks⟩
        rw [eR]
        by_cases e0 : (kn4 tp l t).1 = 0
        · obtain ⟨g1, g2⟩ := q2 e0
          rw [g1] at r1 r2 ⊢
          have hlen : (l ++ [vaM (knt l t)]).length = l.length + 1 := by rw [List.length_append, List.length_singleton]
          rw [if_pos e0, ← hlen]
          obtain ⟨M', t', v2, b1, b2, b3, b4, b5, b6⟩ := ih (l ++ [vaM (knt l t)]) _ (kn4 tp l t) f M2 (by omega) (by omega) q1 a2 a3 r1 r2
          exact ⟨M', t', v2, b1, b2, b3, b4, b5, a4.trans b6⟩
        · have s0 : (rdX tp (thS l (vaN 0 (btN 0 15 s)) (btN 0 15 s))).1 ≠ 0 := fun q => e0 ((Q_0 q1).mp q)
          obtain ⟨f, rfl⟩ : ∃ g, f = g + 1 := ⟨f - 1, by omega⟩
          rw [if_neg e0, exit l (kn4 tp l t) f M2 a2 (Or.inl e0), rwL_bad s0]
          exact ⟨M2, kn4 tp l t, l.length, rfl, h9, a2, q1, fun q => absurd q e0, a4⟩
      · have eR : rwL tp (k + 1) l s = (l, s) := if_neg (fun q => hk (by rw [← hQ.2.2.2.1]; exact q.2))
        rw [exit l t f M hS (Or.inr hk), eR]
        exact ⟨M, t, l.length, rfl, h9, hS, Or.inl hQ, fun q => ⟨hP q, rfl⟩, Fr.rf⟩
    · rw [exit l t f M hS (Or.inl hQ.2.1), rwL_bad hQ.1]
      exact ⟨M, t, l.length, rfl, h9, hS, Or.inr hQ, fun q => absurd q hQ.2.1, Fr.rf⟩
def mkA (t : Tm) : Tm := lkN 0 5 t
def mkB (t : Tm) (E : Dr) : Tm := ned (!E.kn.testBit (vaM (mkA t))) 4 (mkA t)
theorem m_readKnows (n : Nat) (hn : 400 ≤ n) {M : Mem} {tp : List Nat} {s : Tk} {t : Tm} {E : Dr} (hs : QT (rdX tp s) t) (h : YS M tp t E) (hh : E.hi < 6) (hW0 : ∀ p, p < 6 → E.kn.testBit p = false → E.W p = []) : ∃ M' t', X_Model_readKnows n M = some ((), M') ∧ YW M' tp t' (knD tp s E) ∧ QT (knE tp s E).2 t' ∧ Fr yd M M' := by
  obtain ⟨M2, a1, a2, a3⟩ := h.look n 0 5 (by decide) (by decide)
  have a1 : X_Model_looked n 0 5 M = some (nI (vaM (mkA t)), M2) := a1
  have a2 : YS M2 tp (mkA t) E := a2
  have hv : vaM (mkA t) ≤ 5 := vaM_le
  obtain ⟨qA, qV⟩ := num_Q 0 5 hs
  have qA : QT (knA tp s) (mkA t) := qA
  have qV : (knA tp s).1 = 0 → vaN 0 (knA tp s) = vaM (mkA t) := qV
  have qB : QT (knB tp s E) (mkB t E) := by
    unfold knB mkB
    rcases qA with qA | qA
    · exact ref_Q (Or.inl qA) (by decide) (by decide) (by rw [qV qA.1, Bool.not_not])
    · rw [rfs_bad qA.1, ned_bad qA.2.1]
      exact Or.inr qA
  have qB2 : QT (rdX tp (knB tp s E)) (rdM tp (mkB t E)) := next_Q qB
  have knB0 : (rdM tp (mkB t E)).1 = 0 → (knA tp s).1 = 0 ∧ E.kn.testBit (vaM (mkA t)) = false := fun q => by
    have r1 := rdM_0 q
    unfold mkB at r1
    obtain ⟨u1, u2, u3⟩ := ned_0 (by decide) r1
    exact ⟨(Q_0 qA).mpr u1, by simpa using u2⟩
  have fin : ∀ (N : Mem), YS N tp (mkB t E) E → Fr yd M N → ∃ M' t', (bd (X_Model_next n N) fun _ M5 => gd (nI (vaM (mkA t))) 6 (nm (si M5 13 ((nI (vaM (mkA t))).toNatClampNeg) (vp_nar .boolean 1)) fun N6 => bd (X_Model_tells n (nI (vaM (mkA t))) N6) fun _ M8 => X_Model_readKnows_L53 n (nI (vaM (mkA t))) (fun y23 M24 => gd ((10 : Int32) * nI (vaM (mkA t))) 60 (some ((), si M24 11 (((10 : Int32) * nI (vaM (mkA t))).toNatClampNeg) y23))) n 0 1 M8)) = some ((), M') ∧ YW M' tp t' (knD tp s E) ∧ QT (knE tp s E).2 t' ∧ Fr yd M M' := by
    intro N g1 g2
    obtain ⟨M5, b1, b2, b3⟩ := g1.nxt n hn
    generalize hp : vaM (mkA t) = p at hv
    rw [hp] at knB0
    have hp6 : p < 6 := by omega
    rw [b1, bd_ret, gd_in (vp_in_nI (n := p) hp6 (by decide)), nI_clamp (by omega), nm_eq]
    have f6 : Fr (fun c k => c = 13 ∧ k = p) M5 (si M5 13 p (vp_nar .boolean 1)) := Fr.si ⟨rfl, rfl⟩
    obtain ⟨y1, y2, y3, y4⟩ := b2.2.2.2.1
    have hS6 : YS (si M5 13 p (vp_nar .boolean 1)) tp (rdM tp (mkB t E)) (E.R, E.W, E.gl, E.pT, E.hT, E.kn ||| 2 ^ p, E.hi, E.lg) := b2.wr f6 (fun c k q => by omega) ⟨y1.fr b2.2.2.2.2 f6 (fun c k q => by omega), fun q hq => by
      show _ = nI (if (E.kn ||| 2 ^ p).testBit q then 1 else 0)
      rw [or_bit]
      by_cases e : q = p
      · rw [e, si_at, decide_eq_true rfl, Bool.or_true]; rfl
      · rw [si_ne (Or.inr e), decide_eq_false (fun r => e r.symm), Bool.or_false]
        exact y2 q hq, y3, y4⟩ b2.2.2.2.2
    obtain ⟨M8, c1, c2, c3⟩ := m_tells n hS6 hp6 hh
    rw [c1, bd_ret]
    have f8 := ((g2.trans (mt_yd b3)).trans (f6.mono (fun c k q => by unfold yd; omega))).trans c3
    generalize hkx : (fun (y23 : Int32) (M24 : Mem) => gd ((10 : Int32) * nI p) 60 (some ((), si M24 11 (((10 : Int32) * nI p).toNatClampNeg) y23))) = kx
    have kxe : ∀ v2, v2 ≤ 9 → ∀ K, kx (nI v2) K = some ((), si K 11 (10 * p) (nI v2)) := fun v2 _ K => by
      rw [← hkx]
      dsimp only
      rw [show (10 : Int32) = nI 10 from rfl, pk_mul, gd_in (vp_in_nI (n := 10 * p) (by omega) (by decide)), nI_clamp (by omega)]
    -- the end of the line's things
    have done : ∀ (K : Mem) (t' : Tm) (v2 : Nat) (l : List Nat), YS K tp t' (E.R, E.W, E.gl, E.pT, E.hT, E.kn ||| 2 ^ p, max E.hi p, E.lg) → (t'.1 = 0 → Part K p l ∧ v2 = l.length ∧ Ro l ∧ l.length ≤ 9 ∧ vaN 0 (knA tp s) = p ∧ l = (knE tp s E).1) → YW (si K 11 (10 * p) (nI v2)) tp t' (knD tp s E) := by
      intro K t' v2 l m1 m2
      have f1 : Fr (fun c k => c = 11 ∧ k = 10 * p) K (si K 11 (10 * p) (nI v2)) := Fr.si ⟨rfl, rfl⟩
      refine ⟨m1.1.fr f1 (fun c k q => by omega), m1.2.1, m1.2.2.1.nt f1 (fun k q => by omega), fun q => ?_⟩
      obtain ⟨w1, w2, w3, w4, w5, w6⟩ := m2 q
      obtain ⟨z1, z2, z3, z4⟩ := m1.2.2.2.1
      obtain ⟨x1, x2, x3, x4, x5, x6, x7, x8, x9, x10⟩ := z1
      have hWu : OkW (updW E.W p l) := OkW.upd m1.2.2.2.2 p w3 w4
      have hD : (knD tp s E) = (E.R, updW E.W p l, E.gl, E.pT, E.hT, E.kn ||| 2 ^ p, max E.hi p, max E.lg l.length) := by
        unfold knD
        rw [w5, ← w6]
      rw [hD]
      refine ⟨⟨⟨x1, x2, x3, x4, x5, x6, x7, x8, fun q6 hq6 => ?_, x10⟩, z2, z3, z4⟩, hWu⟩
      show RwM _ 11 (0 + 10 * q6) (updW E.W p l q6)
      unfold updW
      by_cases eq : q6 = p
      · rw [if_pos eq, eq, Nat.zero_add]
        exact ⟨by rw [si_at, w2], fun i x hi => by rw [si_ne (Or.inr (by omega))]; exact w1 i x hi⟩
      · rw [if_neg eq]
        refine (x9 q6 hq6).fr f1 (fun k h1 h2 r => ?_)
        have : (E.W q6).length ≤ 9 := (m1.2.2.2.2 q6).2
        have h2 : k ≤ 0 + 10 * q6 + (E.W q6).length := h2
        omega
    by_cases e0 : (rdM tp (mkB t E)).1 = 0
    · obtain ⟨k0, kb⟩ := knB0 e0
      have hWp : E.W p = [] := hW0 p hp6 kb
      have hQok : Qok (rdX tp (knB tp s E)) (rdM tp (mkB t E)) := by
        rcases qB2 with q | q
        · exact q
        · exact absurd e0 q.2.1
      have r0 : Ro ([] : List Nat) := ⟨List.nodup_nil, fun t q => absurd q List.not_mem_nil⟩
      have hpV : vaN 0 (knA tp s) = p := by rw [qV k0, hp]
      obtain ⟨f, hf⟩ : ∃ f, n = f + 1 := ⟨n - 1, by omega⟩
      obtain ⟨M9, d1, d2, d3, d4⟩ := m_kn_it n hn (E := (E.R, E.W, E.gl, E.pT, E.hT, E.kn ||| 2 ^ p, max E.hi p, E.lg)) hp6 hWp kx r0 (by decide) e0 c2 (fun i x hi => absurd hi (by simp)) f
      obtain ⟨q1, q2⟩ := kn_Q (tp := tp) (l := []) hQok (QT_8 (tp := tp) (Or.inl hQok)) (by decide)
      obtain ⟨r1, r2⟩ := thL_9 (tp := tp) (s := rdX tp (knB tp s E)) (t := t) r0 (by decide)
      have eKC : knC tp s E = btN 0 15 (rdX tp (knB tp s E)) := rfl
      have eKE : knE tp s E = rwL tp 9 (thL [] (vaN 0 (btN 0 15 (rdX tp (knB tp s E))))) (rdX tp (thS [] (vaN 0 (btN 0 15 (rdX tp (knB tp s E)))) (btN 0 15 (rdX tp (knB tp s E))))) := rfl
      have d0 : X_Model_readKnows_L53 n (nI p) kx n 0 1 M8 = X_Model_readKnows_L53 n (nI p) kx (f + 1) (nI ([] : List Nat).length) 1 M8 := by rw [← hf]; rfl
      have d1 := d0.trans d1
      rw [d1]
      by_cases e4 : (kn4 tp [] (rdM tp (mkB t E))).1 = 0
      · obtain ⟨g1', g2'⟩ := q2 e4
        rw [if_pos e4]
        have hlen : (thL [] (vaN 0 (btN 0 15 (rdX tp (knB tp s E))))).length = ([] : List Nat).length + 1 := by rw [g1']; rfl
        rw [← hlen]
        obtain ⟨M', t', v2, i1, i2, i3, i4, i5, i6⟩ := m_kn_L n hn (E := (E.R, E.W, E.gl, E.pT, E.hT, E.kn ||| 2 ^ p, max E.hi p, E.lg)) hp6 hWp kx 9 (thL [] (vaN 0 (btN 0 15 (rdX tp (knB tp s E))))) (rdX tp (thS [] (vaN 0 (btN 0 15 (rdX tp (knB tp s E)))) (btN 0 15 (rdX tp (knB tp s E))))) (kn4 tp [] (rdM tp (mkB t E))) f M9 (by omega) (by rw [hlen]; rfl) q1 d2 (fun q => by rw [g1']; exact d3 q) r1 r2
        rw [i1, kxe v2 i2]
        rw [← eKE] at i4 i5
        have roE : t'.1 = 0 → Ro (knE tp s E).1 ∧ (knE tp s E).1.length ≤ 9 := fun _ => by
          rw [eKE]
          have : ∀ k l s, Ro l → l.length ≤ 9 → Ro (rwL tp k l s).1 ∧ (rwL tp k l s).1.length ≤ 9 := by
            intro k
            induction k with
            | zero => intro l s h1 h2; exact ⟨h1, h2⟩
            | succ k ih =>
              intro l s h1 h2
              unfold rwL
              split
              · obtain ⟨z1, z2⟩ := thL_ok (t := vaN 0 (bd15 s)) h1 h2 (by have := bd15_le s; omega)
                exact ih _ _ z1 z2
              · exact ⟨h1, h2⟩
          exact this 9 _ _ r1 r2
        have f1 : Fr yd M' (si M' 11 (10 * p) (nI v2)) := Fr.si (by unfold yd; omega)
        exact ⟨_, t', rfl, done M' t' v2 (knE tp s E).1 i3 (fun q => ⟨(i5 q).1, (i5 q).2, (roE q).1, (roE q).2, hpV, rfl⟩), i4, ((f8.trans d4).trans i6).trans f1⟩
      · have s0 : (rdX tp (thS [] (vaN 0 (btN 0 15 (rdX tp (knB tp s E)))) (btN 0 15 (rdX tp (knB tp s E))))).1 ≠ 0 := fun q => e4 ((Q_0 q1).mp q)
        obtain ⟨f', rfl⟩ : ∃ g, f = g + 1 := ⟨f - 1, by omega⟩
        have ex : X_Model_readKnows_L53 n (nI p) kx (f' + 1) (nI (if (kn4 tp [] (rdM tp (mkB t E))).1 = 0 then ([] : List Nat).length + 1 else ([] : List Nat).length)) (nI (if (kn4 tp [] (rdM tp (mkB t E))).2.2.2.2.1 = 2 then 1 else 0)) M9 = kx (nI 0) M9 := by
          rw [if_neg e4]
          show (if (M9.1 0 31) = 0 then _ else kx (nI 0) M9) = _
          rw [d2.2.2.1.1, if_neg (fun q => e4 ((i_z (by have := d2.2.1.1; omega)).mp q))]
        rw [ex, kxe 0 (by decide)]
        have f1 : Fr yd M9 (si M9 11 (10 * p) (nI 0)) := Fr.si (by unfold yd; omega)
        refine ⟨_, _, rfl, done M9 _ 0 [] d2 (fun q => absurd q e4), ?_, (f8.trans d4).trans f1⟩
        rw [eKE, rwL_bad s0]
        exact q1
    · obtain ⟨f, hf⟩ : ∃ f, n = f + 1 := ⟨n - 1, by omega⟩
      have ex : X_Model_readKnows_L53 n (nI p) kx n 0 1 M8 = kx (nI 0) M8 := by
        have e1 : X_Model_readKnows_L53 n (nI p) kx n 0 1 M8 = X_Model_readKnows_L53 n (nI p) kx (f + 1) 0 1 M8 := by rw [← hf]
        rw [e1]
        show (if (M8.1 0 31) = 0 then _ else kx 0 M8) = _
        rw [c2.2.2.1.1, if_neg (fun q => e0 ((i_z (by have := c2.2.1.1; omega)).mp q))]
        rfl
      rw [ex, kxe 0 (by decide)]
      have f1 : Fr yd M8 (si M8 11 (10 * p) (nI 0)) := Fr.si (by unfold yd; omega)
      refine ⟨_, _, rfl, done M8 _ 0 [] c2 (fun q => absurd q e0), ?_, f8.trans f1⟩
      have s0 : (rdX tp (knB tp s E)).1 ≠ 0 := fun q => e0 ((Q_0 qB2).mp q)
      have eb : btN 0 15 (rdX tp (knB tp s E)) = rdX tp (knB tp s E) := by unfold btN; rw [rfs_bad s0, rfs_bad s0]
      have et : ∀ v, thS [] v (rdX tp (knB tp s E)) = rdX tp (knB tp s E) := fun v => by unfold thS; rw [rfs_bad s0, rfs_bad s0]
      have er : rdX tp (rdX tp (knB tp s E)) = rdX tp (knB tp s E) := by
        conv => lhs; unfold rdX
        exact if_neg s0
      have eKE : knE tp s E = rwL tp 9 (thL [] (vaN 0 (btN 0 15 (rdX tp (knB tp s E))))) (rdX tp (thS [] (vaN 0 (btN 0 15 (rdX tp (knB tp s E)))) (btN 0 15 (rdX tp (knB tp s E))))) := rfl
      rw [eKE, eb, et, er, rwL_bad s0]
      exact qB2
  unfold X_Model_readKnows
  rw [a1, bd_ret, nm_eq, nm_eq, a2.2.2.1.1]
  by_cases e : (mkA t).1 = 0
  · rw [if_pos (show nI (mkA t).1 = 0 by rw [e]; rfl), gd_in (vp_in_nI (n := vaM (mkA t)) (by omega) (by decide))]
    have hfl : M2.1 13 (nI (vaM (mkA t))).toNatClampNeg = nI (if E.kn.testBit (vaM (mkA t)) then 1 else 0) := by
      rw [nI_clamp (by omega)]
      exact a2.2.2.2.1.2.1 _ (by omega)
    have go : ∀ p1 : Int32, (p1 = 0 ↔ (!E.kn.testBit (vaM (mkA t))) = false) → ∃ N, X_Model_needs n p1 4 M2 = some ((), N) ∧ YS N tp (mkB t E) E ∧ Fr mt M2 N := fun p1 h1 => a2.need n h1 4 (by decide)
    rw [hfl]
    cases eb : E.kn.testBit (vaM (mkA t)) with
    | false =>
      obtain ⟨N, i1, i2, i3⟩ := go 1 (by rw [eb]; decide)
      rw [if_pos (show nI (if false = true then 1 else 0) = 0 from rfl)]
      dsimp only
      rw [i1, bd_ret]
      exact fin N i2 ((mt_yd a3).trans (mt_yd i3))
    | true =>
      obtain ⟨N, i1, i2, i3⟩ := go 0 (by rw [eb]; decide)
      rw [if_neg (show ¬ nI (if true = true then 1 else 0) = 0 by decide)]
      dsimp only
      rw [i1, bd_ret]
      exact fin N i2 ((mt_yd a3).trans (mt_yd i3))
  · rw [if_neg (fun q => e ((i_z (by have := a2.2.1.1; omega)).mp q))]
    exact fin M2 (by unfold mkB; rw [ned_bad e]; exact a2) (mt_yd a3)
end
section
/-! THE TEXT: names in the reference; the lines' contents alike -/
def isB (tp : List Nat) (q a len b0 b1 b2 b3 : Nat) : Bool := decide (a - q = len) && (inr tp b0 b0 q && (inr tp b1 b1 (q + 1) && (inr tp b2 b2 (q + 2) && inr tp b3 b3 (q + 3))))
theorem m_is (n : Nat) {M : Mem} {tp : List Nat} {q a : Nat} (hT : MTp M tp) (h27 : M.1 0 27 = nI a) (h28 : M.1 0 28 = nI q) (hq : q ≤ a) (ha : a ≤ tp.length) {len b0 b1 b2 b3 : Nat} (hl : len < 100) (c0 : b0 < 256) (c1 : b1 < 256) (c2 : b2 < 256) (c3 : b3 < 256) : X_Model_is n (nI len) (nI b0) (nI b1) (nI b2) (nI b3) M = some (if isB tp q a len b0 b1 b2 b3 then 1 else 0, M) := by
  have hL := hT.2.2.1
  unfold X_Model_is isB
  rw [h27, h28, pk_sub hq]
  by_cases e : a - q = len
  · rw [if_pos (by rw [e]), decide_eq_true e, Bool.true_and, m_look' n hT (by omega), bd_ret]
    by_cases e0 : inr tp b0 b0 q = true
    · rw [if_pos ((lk_eq hT.2.2.2 c0).mpr e0), e0, Bool.true_and, h28, nI_1, m_look' n hT (by omega), bd_ret]
      by_cases e1 : inr tp b1 b1 (q + 1) = true
      · rw [if_pos ((lk_eq hT.2.2.2 c1).mpr e1), e1, Bool.true_and, h28, show (2 : Int32) = nI 2 from rfl, nI_add, m_look' n hT (by omega), bd_ret]
        by_cases e2 : inr tp b2 b2 (q + 2) = true
        · rw [if_pos ((lk_eq hT.2.2.2 c2).mpr e2), e2, Bool.true_and, h28, show (3 : Int32) = nI 3 from rfl, nI_add, m_look' n hT (by omega), bd_ret]
          by_cases e3 : inr tp b3 b3 (q + 3) = true
          · rw [if_pos ((lk_eq hT.2.2.2 c3).mpr e3), if_pos e3]
          · rw [if_neg (fun r => e3 ((lk_eq hT.2.2.2 c3).mp r)), if_neg e3]
        · rw [if_neg (fun r => e2 ((lk_eq hT.2.2.2 c2).mp r)), Bool.eq_false_iff.mpr e2, Bool.false_and]; rfl
      · rw [if_neg (fun r => e1 ((lk_eq hT.2.2.2 c1).mp r)), Bool.eq_false_iff.mpr e1, Bool.false_and]; rfl
    · rw [if_neg (fun r => e0 ((lk_eq hT.2.2.2 c0).mp r)), Bool.eq_false_iff.mpr e0, Bool.false_and]; rfl
  · rw [if_neg (fun r => e ((nI_eq (by omega) (by omega)).mp r)), decide_eq_false e, Bool.false_and]; rfl
theorem isN_B (tp : List Nat) (q a : Nat) : isN tp 0 q a = (isB tp q a 6 112 101 111 112 && (inr tp 108 108 (q + 4) && inr tp 101 101 (q + 5))) ∧ isN tp 1 q a = isB tp q a 4 104 111 108 100 ∧ isN tp 2 q a = (isB tp q a 5 107 110 111 119 && inr tp 115 115 (q + 4)) ∧ isN tp 3 q a = isB tp q a 4 106 111 105 110 ∧ isN tp 4 q a = isB tp q a 4 104 97 110 100 ∧ isN tp 5 q a = (isB tp q a 5 100 97 105 108 && inr tp 121 121 (q + 4)) ∧ isN tp 6 q a = (isB tp q a 5 103 108 111 118 && inr tp 101 101 (q + 4)) := by
  unfold isN isB
  simp [stN, mtc, Bool.and_assoc]
theorem iteb {α : Type} (B c : Bool) (a K : α) : (if B = true then (if c = true then a else K) else K) = if (B && c) = true then a else K := by cases B <;> cases c <;> rfl
theorem ite1 {α : Type} (B : Bool) (a K : α) : (if (if B = true then (1 : Int32) else 0) = 0 then K else a) = if B = true then a else K := by cases B <;> rfl
def nmC (k : Nat) : Int32 := if k = 7 then -4 else nI k
theorem m_name (n : Nat) {M : Mem} {tp : List Nat} {q a : Nat} (hT : MTp M tp) (h27 : M.1 0 27 = nI a) (h28 : M.1 0 28 = nI q) (hq : q ≤ a) (ha : a ≤ tp.length) : X_Model_nameNow n M = some (nmC (nmI tp q a), M) := by
  have hL := hT.2.2.1
  obtain ⟨i0, i1, i2, i3, i4, i5, i6⟩ := isN_B tp q a
  have l4 : X_Model_look n ((M.1 0 28) + 4) M = some (lk tp (q + 4), M) := by
    rw [h28, show (4 : Int32) = nI 4 from rfl, nI_add]
    exact m_look' n hT (by omega)
  have l5 : X_Model_look n ((M.1 0 28) + 5) M = some (lk tp (q + 5), M) := by
    rw [h28, show (5 : Int32) = nI 5 from rfl, nI_add]
    exact m_look' n hT (by omega)
  have s0 : X_Model_is n 6 112 101 111 112 M = _ := m_is n hT h27 h28 hq ha (len := 6) (b0 := 112) (b1 := 101) (b2 := 111) (b3 := 112) (by decide) (by decide) (by decide) (by decide) (by decide)
  have s1 : X_Model_is n 4 104 111 108 100 M = _ := m_is n hT h27 h28 hq ha (len := 4) (b0 := 104) (b1 := 111) (b2 := 108) (b3 := 100) (by decide) (by decide) (by decide) (by decide) (by decide)
  have s2 : X_Model_is n 5 107 110 111 119 M = _ := m_is n hT h27 h28 hq ha (len := 5) (b0 := 107) (b1 := 110) (b2 := 111) (b3 := 119) (by decide) (by decide) (by decide) (by decide) (by decide)
  have s3 : X_Model_is n 4 106 111 105 110 M = _ := m_is n hT h27 h28 hq ha (len := 4) (b0 := 106) (b1 := 111) (b2 := 105) (b3 := 110) (by decide) (by decide) (by decide) (by decide) (by decide)
  have s4 : X_Model_is n 4 104 97 110 100 M = _ := m_is n hT h27 h28 hq ha (len := 4) (b0 := 104) (b1 := 97) (b2 := 110) (b3 := 100) (by decide) (by decide) (by decide) (by decide) (by decide)
  have s5 : X_Model_is n 5 100 97 105 108 M = _ := m_is n hT h27 h28 hq ha (len := 5) (b0 := 100) (b1 := 97) (b2 := 105) (b3 := 108) (by decide) (by decide) (by decide) (by decide) (by decide)
  have s6 : X_Model_is n 5 103 108 111 118 M = _ := m_is n hT h27 h28 hq ha (len := 5) (b0 := 103) (b1 := 108) (b2 := 111) (b3 := 118) (by decide) (by decide) (by decide) (by decide) (by decide)
  have g1 : (lk tp (q + 4) = 108) ↔ inr tp 108 108 (q + 4) = true := lk_eq hT.2.2.2 (b := 108) (by decide)
  have g2 : (lk tp (q + 5) = 101) ↔ inr tp 101 101 (q + 5) = true := lk_eq hT.2.2.2 (b := 101) (by decide)
  have g3 : (lk tp (q + 4) = 115) ↔ inr tp 115 115 (q + 4) = true := lk_eq hT.2.2.2 (b := 115) (by decide)
  have g4 : (lk tp (q + 4) = 121) ↔ inr tp 121 121 (q + 4) = true := lk_eq hT.2.2.2 (b := 121) (by decide)
  have g5 : (lk tp (q + 4) = 101) ↔ inr tp 101 101 (q + 4) = true := lk_eq hT.2.2.2 (b := 101) (by decide)
  unfold X_Model_nameNow nmI
  simp only [nm, s0, s1, s2, s3, s4, s5, s6, l4, l5, bd_ret, g1, g2, g3, g4, g5]
  rw [i0, i1, i2, i3, i4, i5, i6]
  generalize isB tp q a 6 112 101 111 112 = B0
  generalize isB tp q a 4 104 111 108 100 = B1
  generalize isB tp q a 5 107 110 111 119 = B2
  generalize isB tp q a 4 106 111 105 110 = B3
  generalize isB tp q a 4 104 97 110 100 = B4
  generalize isB tp q a 5 100 97 105 108 = B5
  generalize isB tp q a 5 103 108 111 118 = B6
  simp only [ite1]
  simp only [iteb]
  generalize (B0 && (inr tp 108 108 (q + 4) && inr tp 101 101 (q + 5))) = X0
  generalize (B2 && inr tp 115 115 (q + 4)) = X2
  generalize (B5 && inr tp 121 121 (q + 4)) = X5
  generalize (B6 && inr tp 101 101 (q + 4)) = X6
  cases X0 with
  | true => rfl
  | false =>
    rw [if_neg Bool.false_ne_true, if_neg Bool.false_ne_true]
    cases B1 with
    | true => rfl
    | false =>
      rw [if_neg Bool.false_ne_true, if_neg Bool.false_ne_true]
      cases X2 with
      | true => rfl
      | false =>
        rw [if_neg Bool.false_ne_true, if_neg Bool.false_ne_true]
        cases B3 with
        | true => rfl
        | false =>
          rw [if_neg Bool.false_ne_true, if_neg Bool.false_ne_true]
          cases B4 with
          | true => rfl
          | false =>
            rw [if_neg Bool.false_ne_true, if_neg Bool.false_ne_true]
            cases X5 with
            | true => rfl
            | false =>
              rw [if_neg Bool.false_ne_true, if_neg Bool.false_ne_true]
              cases X6 <;> rfl
-- what a fault does not change
theorem tkN_bad {tp : List Nat} {s : Tk} (lo hi : Nat) (h : (rdX tp s).1 ≠ 0) : tkN tp lo hi s = rdX tp s := by
  show btN lo hi (rdX tp s) = _
  unfold btN
  rw [rfs_bad h, rfs_bad h]
theorem rdX_bad {tp : List Nat} {s : Tk} (h : s.1 ≠ 0) : rdX tp s = s := if_neg h
theorem tkN_b {tp : List Nat} {s : Tk} (lo hi : Nat) (h : s.1 ≠ 0) : tkN tp lo hi s = s := by
  have e := rdX_bad (tp := tp) h
  have := tkN_bad (tp := tp) (s := s) lo hi (by rw [e]; exact h)
  rw [this, e]
theorem tkS_b {tp : List Nat} {s : Tk} (h : s.1 ≠ 0) : tkS tp s = s := by
  unfold tkS
  rw [rdX_bad h, rfs_bad h]
theorem num_N {tp : List Nat} {s : Tk} {t : Tm} (lo hi : Nat) (h : QT (rdX tp s) t) : QT (rdX tp (tkN tp lo hi s)) (rdM tp (lkN lo hi t)) := next_Q (num_Q lo hi h).1
-- glove
theorem glo_Q {tp : List Nat} {s : Tk} {t : Tm} {E : Dr} (h : QT (rdX tp s) t) : QT (rdX tp (rfs (E.gl.testBit (vaN 0 (tkN tp 0 5 s))) 4 (tkN tp 0 5 s))) (mgT tp t E) ∧ ((mgT tp t E).1 = 0 → mgD t E = gloD tp s E) := by
  obtain ⟨q1, q2⟩ := num_Q 0 5 h
  unfold mgT mgD gloD
  generalize tkN tp 0 5 s = a at q1 q2
  generalize lkN 0 5 t = c at q1 q2
  refine ⟨next_Q ?_, fun q => ?_⟩
  · rcases q1 with q1 | q1
    · exact ref_Q (Or.inl q1) (by decide) (by decide) (by rw [q2 q1.1, Bool.not_not])
    · rw [rfs_bad q1.1, ned_bad q1.2.1]
      exact Or.inr q1
  · have r1 := (ned_0 (by decide) (rdM_0 q)).1
    rw [q2 ((Q_0 q1).mpr r1)]
-- hand, daily
theorem pa_Q {tp : List Nat} {s : Tk} {t : Tm} {E : Dr} (h : QT (rdX tp s) t) : QT (rdX tp (rfs (decide (vaN 0 (paB tp s) = vaN 0 (paA tp s))) 4 (paB tp s))) (mhT tp t) ∧ ((mhT tp t).1 = 0 → mhD tp t E = paH tp s E ∧ vaM (mhA t) = vaN 0 (paA tp s) ∧ vaM (mhB tp t) = vaN 0 (paB tp s)) := by
  obtain ⟨q1, q2⟩ := num_Q 0 5 h
  obtain ⟨q3, q4⟩ := num_Q (s := paA tp s) 0 5 (next_Q q1)
  have q1 : QT (paA tp s) (mhA t) := q1
  have q2 : (paA tp s).1 = 0 → vaN 0 (paA tp s) = vaM (mhA t) := q2
  have q3 : QT (paB tp s) (mhB tp t) := q3
  have q4 : (paB tp s).1 = 0 → vaN 0 (paB tp s) = vaM (mhB tp t) := q4
  have pb : (paB tp s).1 = 0 → (paA tp s).1 = 0 := fun q => by
    have := (tkN_0 (show (tkN tp 0 5 (paA tp s)).1 = 0 from q)).1
    exact rd_0 this
  unfold mhT
  refine ⟨next_Q ?_, fun q => ?_⟩
  · rcases q3 with q3 | q3
    · refine ref_Q (Or.inl q3) (by decide) (by decide) ?_
      rw [q4 q3.1, q2 (pb q3.1)]
      by_cases e : vaM (mhB tp t) = vaM (mhA t)
      · rw [decide_eq_true e, decide_eq_false (fun r => r e.symm)]; rfl
      · rw [decide_eq_false e, decide_eq_true (show vaM (mhA t) ≠ vaM (mhB tp t) from fun r => e r.symm)]; rfl
    · rw [rfs_bad q3.1, ned_bad q3.2.1]
      exact Or.inr q3
  · have r1 := (ned_0 (by decide) (rdM_0 q)).1
    have b0 := (Q_0 q3).mpr r1
    have e1 := q2 (pb b0)
    have e2 := q4 b0
    refine ⟨?_, e1.symm, e2.symm⟩
    unfold mhD paH
    rw [e1, e2, Nat.max_assoc]
-- join
theorem jo_Q {tp : List Nat} {s : Tk} {t : Tm} {E : Dr} (h : QT (rdX tp s) t) : QT (rdX tp (rfs (decide (vaN 0 (joC tp s) = vaN 0 (joA tp s) ∨ vaN 0 (joC tp s) = vaN 0 (joB tp s))) 4 (joC tp s))) (mjT tp t) ∧ ((mjT tp t).1 = 0 → mjD tp t E = joD tp s E) := by
  obtain ⟨q1, q2⟩ := num_Q 0 15 h
  obtain ⟨q3, q4⟩ := num_Q (s := joA tp s) 0 15 (next_Q q1)
  have q1 : QT (joA tp s) (mjA t) := q1
  have q2 : (joA tp s).1 = 0 → vaN 0 (joA tp s) = vaM (mjA t) := q2
  have q3 : QT (joB tp s) (mjB tp t) := q3
  have q4 : (joB tp s).1 = 0 → vaN 0 (joB tp s) = vaM (mjB tp t) := q4
  have pb : (joB tp s).1 = 0 → (joA tp s).1 = 0 := fun q => rd_0 (tkN_0 (show (tkN tp 0 15 (joA tp s)).1 = 0 from q)).1
  have qm : QT (rfs (decide (vaN 0 (joB tp s) = vaN 0 (joA tp s))) 4 (joB tp s)) (ned (decide (vaM (mjB tp t) ≠ vaM (mjA t))) 4 (mjB tp t)) := by
    rcases q3 with q3 | q3
    · refine ref_Q (Or.inl q3) (by decide) (by decide) ?_
      rw [q4 q3.1, q2 (pb q3.1)]
      by_cases e : vaM (mjB tp t) = vaM (mjA t)
      · rw [decide_eq_true e, decide_eq_false (fun r => r e)]; rfl
      · rw [decide_eq_false e, decide_eq_true e]; rfl
    · rw [rfs_bad q3.1, ned_bad q3.2.1]
      exact Or.inr q3
  obtain ⟨q5, q6⟩ := num_Q (s := rfs (decide (vaN 0 (joB tp s) = vaN 0 (joA tp s))) 4 (joB tp s)) 0 15 (next_Q qm)
  have q5 : QT (joC tp s) (mjC tp t) := q5
  have q6 : (joC tp s).1 = 0 → vaN 0 (joC tp s) = vaM (mjC tp t) := q6
  have pc : (joC tp s).1 = 0 → (joB tp s).1 = 0 := fun q => (rfs_0 (by decide) (rd_0 (tkN_0 (show (tkN tp 0 15 (rfs (decide (vaN 0 (joB tp s) = vaN 0 (joA tp s))) 4 (joB tp s))).1 = 0 from q)).1)).1
  unfold mjT
  refine ⟨next_Q ?_, fun q => ?_⟩
  · rcases q5 with q5 | q5
    · refine ref_Q (Or.inl q5) (by decide) (by decide) ?_
      rw [q6 q5.1, q4 (pc q5.1), q2 (pb (pc q5.1))]
      by_cases e : vaM (mjC tp t) = vaM (mjA t) ∨ vaM (mjC tp t) = vaM (mjB tp t)
      · rw [decide_eq_true e, decide_eq_false (fun r => e.elim r.1 r.2)]; rfl
      · rw [decide_eq_false e, decide_eq_true ⟨fun r => e (Or.inl r), fun r => e (Or.inr r)⟩]; rfl
    · rw [rfs_bad q5.1, ned_bad q5.2.1]
      exact Or.inr q5
  · have r1 := (ned_0 (by decide) (rdM_0 q)).1
    have c0 := (Q_0 q5).mpr r1
    unfold mjD joD
    rw [q6 c0, q4 (pc c0), q2 (pb (pc c0))]
end
section
/-! THE TEXT: the reference's line -/
def kTail (n : Nat) (M12 : Mem) : Option (Unit × Mem) := if (M12.1 0 31) = 0 then (if (M12.1 0 29) = 3 then bd (X_Model_needs n 1 2 M12) fun _ M18 => bd (X_Model_next n M18) fun _ M15 => some ((), M15) else bd (X_Model_needs n 0 2 M12) fun _ M18 => bd (X_Model_next n M18) fun _ M15 => some ((), M15)) else bd (X_Model_next n M12) fun _ M15 => some ((), M15)
def kDisp (n : Nat) (u1 : Int32) (M11 : Mem) : Option (Unit × Mem) := (if u1 = 0 then bd (X_Model_readNumber n 2 6 M11) fun r33 M34 => kTail n (si M34 0 12 r33) else (if u1 = 1 then bd (X_Model_readNumber n 1 9 M11) fun r31 M32 => kTail n (si M32 0 13 r31) else (if u1 = 2 then bd (X_Model_readKnows n M11) fun _ M30 => kTail n M30 else (if u1 = 3 then bd (X_Model_readJoin n M11) fun _ M28 => kTail n M28 else (if u1 = 4 then bd (X_Model_readHand n M11) fun r24 M25 => gd (M11.1 0 15) 16 (nm (si M25 9 ((M11.1 0 15).toNatClampNeg) r24) fun N26 => kTail n (si N26 0 15 ((N26.1 0 15) + 1))) else (if u1 = 5 then bd (X_Model_readHand n M11) fun r21 M22 => gd (M11.1 0 16) 8 (nm (si M22 10 ((M11.1 0 16).toNatClampNeg) r21) fun N23 => kTail n (si N23 0 16 ((N23.1 0 16) + 1))) else bd (X_Model_readGlove n M11) fun _ M20 => kTail n M20))))))
def kNext (n : Nat) (u1 : Int32) (M9 : Mem) : Option (Unit × Mem) := bd (X_Model_next n M9) fun _ M11 => if (M11.1 0 31) ≤ 0 then kDisp n u1 M11 else some ((), M11)
def kTwice (n : Nat) (u1 : Int32) (M8 : Mem) : Option (Unit × Mem) := if (M8.1 0 31) = 0 then (if 1 < u1 then kNext n u1 M8 else (if (((M8.1 0 24) >>> (u1 &&& 31)) &&& 1) = 0 then bd (X_Model_needs n 1 4 M8) fun _ M37 => kNext n u1 (si M37 0 24 ((M37.1 0 24) ||| ((1 : Int32) <<< (u1 &&& 31)))) else bd (X_Model_needs n 0 4 M8) fun _ M37 => kNext n u1 (si M37 0 24 ((M37.1 0 24) ||| ((1 : Int32) <<< (u1 &&& 31)))))) else kNext n u1 M8
def kFull (n : Nat) (u1 u6 : Int32) (M5 : Mem) : Option (Unit × Mem) := bd (X_Model_needs n u6 5 M5) fun _ M8 => kTwice n u1 M8
def kName (n : Nat) (u1 : Int32) (M2 : Mem) : Option (Unit × Mem) := bd (X_Model_needs n (if u1 = (-4) then 0 else 1) 2 M2) fun _ M5 => (if u1 = 3 then (if 4 ≤ (M5.1 0 14) then kFull n u1 0 M5 else (if u1 = 4 then (if 16 ≤ (M5.1 0 15) then kFull n u1 0 M5 else (if u1 = 5 then (if 8 ≤ (M5.1 0 16) then kFull n u1 0 M5 else kFull n u1 1 M5) else kFull n u1 1 M5)) else (if u1 = 5 then (if 8 ≤ (M5.1 0 16) then kFull n u1 0 M5 else kFull n u1 1 M5) else kFull n u1 1 M5))) else (if u1 = 4 then (if 16 ≤ (M5.1 0 15) then kFull n u1 0 M5 else (if u1 = 5 then (if 8 ≤ (M5.1 0 16) then kFull n u1 0 M5 else kFull n u1 1 M5) else kFull n u1 1 M5)) else (if u1 = 5 then (if 8 ≤ (M5.1 0 16) then kFull n u1 0 M5 else kFull n u1 1 M5) else kFull n u1 1 M5)))
theorem line_eq (n : Nat) (M : Mem) : X_Model_readLine n M = if (M.1 0 29) = 1 then bd (X_Model_nameNow n M) fun r38 M39 => kName n r38 M39 else kName n (-4) M := by
  have key : ∀ (u1 : Int32) (M2 : Mem), (nm (fun (u3 : Int32) => (bd (X_Model_needs n u3 2 M2) fun _ M5 => (if u1 = 3 then (if 4 ≤ (M5.1 0 14) then kFull n u1 0 M5 else (if u1 = 4 then (if 16 ≤ (M5.1 0 15) then kFull n u1 0 M5 else (if u1 = 5 then (if 8 ≤ (M5.1 0 16) then kFull n u1 0 M5 else kFull n u1 1 M5) else kFull n u1 1 M5)) else (if u1 = 5 then (if 8 ≤ (M5.1 0 16) then kFull n u1 0 M5 else kFull n u1 1 M5) else kFull n u1 1 M5))) else (if u1 = 4 then (if 16 ≤ (M5.1 0 15) then kFull n u1 0 M5 else (if u1 = 5 then (if 8 ≤ (M5.1 0 16) then kFull n u1 0 M5 else kFull n u1 1 M5) else kFull n u1 1 M5)) else (if u1 = 5 then (if 8 ≤ (M5.1 0 16) then kFull n u1 0 M5 else kFull n u1 1 M5) else kFull n u1 1 M5))) : Option (Unit × Mem))) fun k30 => (if u1 = (-4) then k30 0 else k30 1)) = kName n u1 M2 := fun u1 M2 => by
    rw [nm_eq]
    unfold kName
    by_cases e : u1 = -4
    · rw [if_pos e, if_pos e]
    · rw [if_neg e, if_neg e]
  have k2 : X_Model_readLine n M = if (M.1 0 29) = 1 then bd (X_Model_nameNow n M) (fun r38 M39 => (nm (fun (u3 : Int32) => (bd (X_Model_needs n u3 2 M39) fun _ M5 => (if r38 = 3 then (if 4 ≤ (M5.1 0 14) then kFull n r38 0 M5 else (if r38 = 4 then (if 16 ≤ (M5.1 0 15) then kFull n r38 0 M5 else (if r38 = 5 then (if 8 ≤ (M5.1 0 16) then kFull n r38 0 M5 else kFull n r38 1 M5) else kFull n r38 1 M5)) else (if r38 = 5 then (if 8 ≤ (M5.1 0 16) then kFull n r38 0 M5 else kFull n r38 1 M5) else kFull n r38 1 M5))) else (if r38 = 4 then (if 16 ≤ (M5.1 0 15) then kFull n r38 0 M5 else (if r38 = 5 then (if 8 ≤ (M5.1 0 16) then kFull n r38 0 M5 else kFull n r38 1 M5) else kFull n r38 1 M5)) else (if r38 = 5 then (if 8 ≤ (M5.1 0 16) then kFull n r38 0 M5 else kFull n r38 1 M5) else kFull n r38 1 M5))) : Option (Unit × Mem))) fun k30 => (if r38 = (-4) then k30 0 else k30 1))) else (nm (fun (u3 : Int32) => (bd (X_Model_needs n u3 2 M) fun _ M5 => (if (-4 : Int32) = 3 then (if 4 ≤ (M5.1 0 14) then kFull n (-4) 0 M5 else (if (-4 : Int32) = 4 then (if 16 ≤ (M5.1 0 15) then kFull n (-4) 0 M5 else (if (-4 : Int32) = 5 then (if 8 ≤ (M5.1 0 16) then kFull n (-4) 0 M5 else kFull n (-4) 1 M5) else kFull n (-4) 1 M5)) else (if (-4 : Int32) = 5 then (if 8 ≤ (M5.1 0 16) then kFull n (-4) 0 M5 else kFull n (-4) 1 M5) else kFull n (-4) 1 M5))) else (if (-4 : Int32) = 4 then (if 16 ≤ (M5.1 0 15) then kFull n (-4) 0 M5 else (if (-4 : Int32) = 5 then (if 8 ≤ (M5.1 0 16) then kFull n (-4) 0 M5 else kFull n (-4) 1 M5) else kFull n (-4) 1 M5)) else (if (-4 : Int32) = 5 then (if 8 ≤ (M5.1 0 16) then kFull n (-4) 0 M5 else kFull n (-4) 1 M5) else kFull n (-4) 1 M5))) : Option (Unit × Mem))) fun k30 => (if (-4 : Int32) = (-4) then k30 0 else k30 1)) := rfl
  rw [k2]
  by_cases e : M.1 0 29 = 1
  · rw [if_pos e, if_pos e]
    exact congrArg (bd (X_Model_nameNow n M)) (funext fun r => funext fun N => key r N)
  · rw [if_neg e, if_neg e]
    exact key (-4) M
theorem m_tail (n : Nat) (hn : 400 ≤ n) {M : Mem} {tp : List Nat} {a : Tk} {t : Tm} {E : Dr} (h : YW M tp t E) (hQ : QT a t) : ∃ M' t', kTail n M = some ((), M') ∧ YW M' tp t' E ∧ QT (rdX tp (rfs (decide (a.2.2.1 ≠ 3)) 2 a)) t' ∧ Fr yd M M' := by
  unfold kTail
  rw [h.2.2.1.1, h.2.2.1.2.2.2.2.1]
  have hk4 := h.2.1.2.2.2
  by_cases e : t.1 = 0
  · have hQok : Qok a t := by
      rcases hQ with q | q
      · exact q
      · exact absurd e q.2.1
    have go : ∀ p1 : Int32, (p1 = 0 ↔ decide (t.2.2.2.2.1 = 3) = false) → ∃ M' t', (bd (X_Model_needs n p1 2 M) fun _ M18 => bd (X_Model_next n M18) fun _ M15 => some ((), M15)) = some ((), M') ∧ YW M' tp t' E ∧ QT (rdX tp (rfs (decide (a.2.2.1 ≠ 3)) 2 a)) t' ∧ Fr yd M M' := fun p1 hp => by
      obtain ⟨M1, b1, b2, b3⟩ := h.need n hp 2 (by decide)
      obtain ⟨M2, c1, c2, c3⟩ := b2.nxt n hn
      rw [show X_Model_needs n p1 2 M = _ from b1, bd_ret, c1, bd_ret]
      refine ⟨M2, _, rfl, c2, next_Q (ref_Q (Or.inl hQok) (by decide) (by decide) ?_), (mt_yd b3).trans (mt_yd c3)⟩
      rw [hQok.2.2.2.1]
      by_cases q : t.2.2.2.2.1 = 3 <;> simp [q]
    rw [if_pos (show nI t.1 = 0 by rw [e]; rfl)]
    by_cases e3 : t.2.2.2.2.1 = 3
    · rw [if_pos (show nI t.2.2.2.2.1 = 3 by rw [e3]; rfl)]
      exact go 1 (by rw [decide_eq_true e3]; decide)
    · rw [if_neg (show ¬ nI t.2.2.2.2.1 = 3 from fun q => e3 ((nI_eq (b := 3) (by omega) (by decide)).mp q))]
      exact go 0 (by rw [decide_eq_false e3]; decide)
  · rw [if_neg (fun q => e ((i_z (by have := h.2.1.1; omega)).mp q))]
    obtain ⟨M2, c1, c2, c3⟩ := h.nxt n hn
    have ha : a.1 ≠ 0 := fun q => e ((Q_0 hQ).mp q)
    rw [c1, bd_ret]
    refine ⟨M2, _, rfl, c2, ?_, mt_yd c3⟩
    rw [rfs_bad ha]
    exact next_Q hQ
theorem YW.cg {M : Mem} {tp : List Nat} {t : Tm} {E E' : Dr} (h : YW M tp t E) (e : t.1 = 0 → E = E') : YW M tp t E' := ⟨h.1, h.2.1, h.2.2.1, fun q => by rw [← e q]; exact h.2.2.2 q⟩
theorem YW.wr {P : Nat → Nat → Prop} {M M' : Mem} {tp : List Nat} {t : Tm} {E E' : Dr} (h : YW M tp t E) (ho : Fr P M M') (hp : ∀ c k, P c k → c ≠ 14 ∧ ¬ (c = 0 ∧ 26 ≤ k)) (hE : t.1 = 0 → YD M' E' ∧ OkW E'.W) : YW M' tp t E' := ⟨h.1.fr ho (fun c k q => ⟨(hp c k q).1, fun r => (hp c k q).2 ⟨r.1, by omega⟩⟩), h.2.1, h.2.2.1.nt ho (fun k q r => (hp 0 k q).2 ⟨rfl, by omega⟩), hE⟩
end
section
/-! THE TEXT: a line of both -/
theorem k_bad (n : Nat) (hn : 400 ≤ n) (u1 : Int32) {M : Mem} {tp : List Nat} {t : Tm} {E : Dr} (h : YS M tp t E) (e : t.1 ≠ 0) : ∃ M', kTwice n u1 M = some ((), M') ∧ YW M' tp t E ∧ Fr yd M M' := by
  obtain ⟨M2, c1, c2, c3⟩ := h.nxt n hn
  rw [rdM_bad e] at c2
  have e1 : ¬ nI t.1 = 0 := fun q => e ((i_z (by have := h.2.1.1; omega)).mp q)
  have e2 : ¬ nI t.1 ≤ 0 := nI_ge (a := 0) (by omega) (by have := h.2.1.1; omega)
  unfold kTwice
  rw [h.2.2.1.1, if_neg e1]
  unfold kNext
  rw [c1, bd_ret, c2.2.2.1.1, if_neg e2]
  exact ⟨M2, rfl, c2.w, mt_yd c3⟩
theorem k_next (n : Nat) (hn : 400 ≤ n) (u1 : Int32) {M : Mem} {tp : List Nat} {t : Tm} {E : Dr} (h : YS M tp t E) : ∃ M2, YS M2 tp (rdM tp t) E ∧ Fr yd M M2 ∧ kNext n u1 M = if (rdM tp t).1 = 0 then kDisp n u1 M2 else some ((), M2) := by
  obtain ⟨M2, c1, c2, c3⟩ := h.nxt n hn
  refine ⟨M2, c2, mt_yd c3, ?_⟩
  unfold kNext
  rw [c1, bd_ret, c2.2.2.1.1]
  by_cases e : (rdM tp t).1 = 0
  · rw [if_pos (show nI (rdM tp t).1 ≤ 0 by rw [e]; exact Int32.le_refl _), if_pos e]
  · rw [if_neg (show ¬ nI (rdM tp t).1 ≤ 0 from nI_ge (a := 0) (by omega) (by have := c2.2.1.1; omega)), if_neg e]
-- what the class's status is when the first token already is a fault
theorem glo_b {tp : List Nat} {s : Tk} {D : Dr} (h : (rdX tp s).1 ≠ 0) : gloS tp s D = rdX tp s := by
  unfold gloS
  rw [tkN_bad 0 5 h, rfs_bad h, tkS_b h]
theorem pa_b {tp : List Nat} {s : Tk} (h : (rdX tp s).1 ≠ 0) : paS tp s = rdX tp s := by
  unfold paS paB paA
  rw [tkN_bad 0 5 h, tkN_b 0 5 h, rfs_bad h, tkS_b h]
theorem jo_b {tp : List Nat} {s : Tk} (h : (rdX tp s).1 ≠ 0) : joS tp s = rdX tp s := by
  unfold joS joC joB joA
  rw [tkN_bad 0 15 h, tkN_b 0 15 h, rfs_bad h, tkN_b 0 15 h, rfs_bad h, tkS_b h]
theorem kn_b {tp : List Nat} {s : Tk} {D : Dr} (h : (rdX tp s).1 ≠ 0) : knS tp s D = rdX tp s := by
  have e1 : knA tp s = rdX tp s := tkN_bad 0 5 h
  have e2 : knB tp s D = rdX tp s := by unfold knB; rw [e1, rfs_bad h]
  have e3 : knC tp s D = rdX tp s := by unfold knC; rw [e2, tkN_b 0 15 h]
  have e4 : knE tp s D = (thL [] (vaN 0 (rdX tp s)), rdX tp s) := by
    unfold knE
    rw [e3]
    have : thS [] (vaN 0 (rdX tp s)) (rdX tp s) = rdX tp s := by unfold thS; rw [rfs_bad h, rfs_bad h]
    rw [this, rdX_bad h, rwL_bad h]
  unfold knS
  rw [e4, rfs_bad h]
def VE (E : Dr) : Prop := VD E ∧ (∀ p, p < 6 → E.kn.testBit p = false → E.W p = [])
def LQ (n : Nat) (M : Mem) (tp : List Nat) (s : Tk) (E : Dr) (F : Option (Unit × Mem)) (S' : Tk) (D' : Dr) : Prop := ∃ M' t', F = some ((), M') ∧ YW M' tp t' D' ∧ QT (rdX tp S') t' ∧ Fr yd M M'
theorem m_disp6 (n : Nat) (hn : 400 ≤ n) {M : Mem} {tp : List Nat} {s : Tk} {t : Tm} {E : Dr} (hE : VE E) (h : YS M tp t E) (hQ : QT (rdX tp s) t) : LQ n M tp s E (kDisp n 6 M) (gloS tp s E) (gloD tp s E) := by
  obtain ⟨M2, a1, a2, a3⟩ := m_readGlove n hn h hE.1.2.2.2.2.2.2.2.1
  obtain ⟨q1, q2⟩ := glo_Q (E := E) hQ
  obtain ⟨M', t', b1, b2, b3, b4⟩ := m_tail n hn (a2.w.cg q2) q1
  refine ⟨M', t', ?_, b2, b3, a3.trans b4⟩
  unfold kDisp
  rw [if_neg (show ¬ (6 : Int32) = 0 by decide), if_neg (show ¬ (6 : Int32) = 1 by decide), if_neg (show ¬ (6 : Int32) = 2 by decide), if_neg (show ¬ (6 : Int32) = 3 by decide), if_neg (show ¬ (6 : Int32) = 4 by decide), if_neg (show ¬ (6 : Int32) = 5 by decide), a1, bd_ret]
  exact b1
theorem m_disp2 (n : Nat) (hn : 400 ≤ n) {M : Mem} {tp : List Nat} {s : Tk} {t : Tm} {E : Dr} (hE : VE E) (h : YS M tp t E) (hQ : QT (rdX tp s) t) : LQ n M tp s E (kDisp n 2 M) (knS tp s E) (knD tp s E) := by
  obtain ⟨M2, t2, a1, a2, a3, a4⟩ := m_readKnows n hn hQ h hE.1.2.2.2.2.2.2.2.1 hE.2
  obtain ⟨M', t', b1, b2, b3, b4⟩ := m_tail n hn a2 a3
  refine ⟨M', t', ?_, b2, b3, a4.trans b4⟩
  unfold kDisp
  rw [if_neg (show ¬ (2 : Int32) = 0 by decide), if_neg (show ¬ (2 : Int32) = 1 by decide), if_pos rfl, a1, bd_ret]
  exact b1
theorem m_disp3 (n : Nat) (hn : 400 ≤ n) {M : Mem} {tp : List Nat} {s : Tk} {t : Tm} {E : Dr} (h : YS M tp t E) (hQ : QT (rdX tp s) t) (hj : E.R.2.2.1.length < 4) : LQ n M tp s E (kDisp n 3 M) (joS tp s) (joD tp s E) := by
  obtain ⟨M2, a1, a2, a3⟩ := m_readJoin n hn h hj
  obtain ⟨q1, q2⟩ := jo_Q (E := E) hQ
  obtain ⟨M', t', b1, b2, b3, b4⟩ := m_tail n hn (a2.cg q2) q1
  refine ⟨M', t', ?_, b2, b3, a3.trans b4⟩
  unfold kDisp
  rw [if_neg (show ¬ (3 : Int32) = 0 by decide), if_neg (show ¬ (3 : Int32) = 1 by decide), if_neg (show ¬ (3 : Int32) = 2 by decide), if_pos rfl, a1, bd_ret]
  exact b1
theorem m_disp4 (n : Nat) (hn : 400 ≤ n) {M : Mem} {tp : List Nat} {s : Tk} {t : Tm} {E : Dr} (hE : VE E) (h : YS M tp t E) (hQ : QT (rdX tp s) t) (hj : E.R.2.2.2.1.length < 16) : LQ n M tp s E (kDisp n 4 M) (paS tp s) (haD tp s E) := by
  obtain ⟨M2, a1, a2, a3⟩ := m_readHand n hn h hE.1.2.2.2.2.2.2.2.1
  obtain ⟨q1, q2⟩ := pa_Q (E := E) hQ
  have c15 := h.2.2.2.1.1.2.2.2.1
  obtain ⟨y1, y2, y3, y4⟩ := a2.2.2.2.1
  obtain ⟨x1, x2, x3, x4, x5, x6, x7, x8, x9, x10⟩ := y1
  have x4 : M2.1 0 15 = nI E.R.2.2.2.1.length := x4
  have un : kDisp n 4 M = kTail n (si (si M2 9 E.R.2.2.2.1.length (nI (if (mhT tp t).1 = 0 then prN (vaM (mhA t)) (vaM (mhB tp t)) else 0))) 0 15 (nI (E.R.2.2.2.1.length + 1))) := by
    unfold kDisp
    rw [if_neg (show ¬ (4 : Int32) = 0 by decide), if_neg (show ¬ (4 : Int32) = 1 by decide), if_neg (show ¬ (4 : Int32) = 2 by decide), if_neg (show ¬ (4 : Int32) = 3 by decide), if_pos rfl, a1, bd_ret, c15, gd_in (vp_in_nI (n := E.R.2.2.2.1.length) hj (by decide)), nI_clamp (by omega), nm_eq, si_ne (Or.inl (by decide)), x4, nI_1]
  generalize hv : (if (mhT tp t).1 = 0 then prN (vaM (mhA t)) (vaM (mhB tp t)) else 0) = v at un
  have f1 : Fr (fun c k => (c = 9 ∧ k = E.R.2.2.2.1.length) ∨ (c = 0 ∧ k = 15)) M2 (si (si M2 9 E.R.2.2.2.1.length (nI v)) 0 15 (nI (E.R.2.2.2.1.length + 1))) := (Fr.si (Or.inl ⟨rfl, rfl⟩)).trans (Fr.si (Or.inr ⟨rfl, rfl⟩))
  have e9 : ∀ a k, ¬ ((a = 9 ∧ k = E.R.2.2.2.1.length) ∨ (a = 0 ∧ k = 15)) → (si (si M2 9 E.R.2.2.2.1.length (nI v)) 0 15 (nI (E.R.2.2.2.1.length + 1))).1 a k = M2.1 a k := fun a k q => (f1 a k q).1
  have hW := a2.2.2.2.2
  have hY : YW (si (si M2 9 E.R.2.2.2.1.length (nI v)) 0 15 (nI (E.R.2.2.2.1.length + 1))) tp (mhT tp t) ((E.R.1, E.R.2.1, E.R.2.2.1, E.R.2.2.2.1 ++ [v], E.R.2.2.2.2), (mhD tp t E).2) := a2.w.wr f1 (fun c k q => by omega) (fun _ => ⟨⟨⟨by rw [e9 _ _ (by omega)]; exact x1, by rw [e9 _ _ (by omega)]; exact x2, by rw [e9 _ _ (by omega)]; exact x3, by
    rw [si_at]
    show nI (E.R.2.2.2.1.length + 1) = nI (E.R.2.2.2.1 ++ [v]).length
    rw [List.length_append]; rfl, by rw [e9 _ _ (by omega)]; exact x5, fun j q hq => by rw [e9 _ _ (by omega), e9 _ _ (by omega), e9 _ _ (by omega)]; exact x6 j q hq, list_snoc x7 (fun k hk => e9 9 k (by show ¬ ((9 = 9 ∧ k = E.R.2.2.2.1.length) ∨ (9 = 0 ∧ k = 15)); have : k < E.R.2.2.2.1.length := hk; omega)) (by show (si (si M2 9 E.R.2.2.2.1.length (nI v)) 0 15 (nI (E.R.2.2.2.1.length + 1))).1 9 E.R.2.2.2.1.length = nI v; rw [si_ne (Or.inl (by decide)), si_at]), fun i h hi => by rw [e9 _ _ (by omega)]; exact x8 i h hi, x9.fr hW f1 (fun k _ _ q => by omega), fun p hp => by rw [e9 _ _ (by omega)]; exact x10 p hp⟩, fun p hp => by rw [e9 _ _ (by omega)]; exact y2 p hp, by rw [e9 _ _ (by omega)]; exact y3, by rw [e9 _ _ (by omega)]; exact y4⟩, hW⟩)
  obtain ⟨M', t', b1, b2, b3, b4⟩ := m_tail n hn hY q1
  have b3 : QT (rdX tp (paS tp s)) t' := b3
  refine ⟨M', t', by rw [un]; exact b1, b2.cg (fun q => ?_), b3, (a3.trans (f1.mono (fun c k q => by unfold yd; omega))).trans b4⟩
  have p0 := rd_0 ((Q_0 b3).mpr q)
  have s0 := (tkS_0 (show (tkS tp (rfs (decide (vaN 0 (paB tp s) = vaN 0 (paA tp s))) 4 (paB tp s))).1 = 0 from p0))
  have r0 : (rdX tp (rfs (decide (vaN 0 (paB tp s) = vaN 0 (paA tp s))) 4 (paB tp s))).1 = 0 := by
    rw [← s0.2.2]
    exact p0
  have m0 := (Q_0 q1).mp r0
  obtain ⟨g1, g2, g3⟩ := q2 m0
  unfold haD
  have ev : v = paV tp s := by
    rw [← hv, if_pos m0, g2, g3]
    unfold paV
    rw [if_pos p0]
  rw [ev, g1]
theorem m_disp5 (n : Nat) (hn : 400 ≤ n) {M : Mem} {tp : List Nat} {s : Tk} {t : Tm} {E : Dr} (hE : VE E) (h : YS M tp t E) (hQ : QT (rdX tp s) t) (hj : E.R.2.2.2.2.length < 8) : LQ n M tp s E (kDisp n 5 M) (paS tp s) (daD tp s E) := by
  obtain ⟨M2, a1, a2, a3⟩ := m_readHand n hn h hE.1.2.2.2.2.2.2.2.1
  obtain ⟨q1, q2⟩ := pa_Q (E := E) hQ
  have c15 := h.2.2.2.1.1.2.2.2.2.1
  obtain ⟨y1, y2, y3, y4⟩ := a2.2.2.2.1
  obtain ⟨x1, x2, x3, x4, x5, x6, x7, x8, x9, x10⟩ := y1
  have x5 : M2.1 0 16 = nI E.R.2.2.2.2.length := x5
  have un : kDisp n 5 M = kTail n (si (si M2 10 E.R.2.2.2.2.length (nI (if (mhT tp t).1 = 0 then prN (vaM (mhA t)) (vaM (mhB tp t)) else 0))) 0 16 (nI (E.R.2.2.2.2.length + 1))) := by
    unfold kDisp
    rw [if_neg (show ¬ (5 : Int32) = 0 by decide), if_neg (show ¬ (5 : Int32) = 1 by decide), if_neg (show ¬ (5 : Int32) = 2 by decide), if_neg (show ¬ (5 : Int32) = 3 by decide), if_neg (show ¬ (5 : Int32) = 4 by decide), if_pos rfl, a1, bd_ret, c15, gd_in (vp_in_nI (n := E.R.2.2.2.2.length) hj (by decide)), nI_clamp (by omega), nm_eq, si_ne (Or.inl (by decide)), x5, nI_1]
  generalize hv : (if (mhT tp t).1 = 0 then prN (vaM (mhA t)) (vaM (mhB tp t)) else 0) = v at un
  have f1 : Fr (fun c k => (c = 10 ∧ k = E.R.2.2.2.2.length) ∨ (c = 0 ∧ k = 16)) M2 (si (si M2 10 E.R.2.2.2.2.length (nI v)) 0 16 (nI (E.R.2.2.2.2.length + 1))) := (Fr.si (Or.inl ⟨rfl, rfl⟩)).trans (Fr.si (Or.inr ⟨rfl, rfl⟩))
  have e9 : ∀ a k, ¬ ((a = 10 ∧ k = E.R.2.2.2.2.length) ∨ (a = 0 ∧ k = 16)) → (si (si M2 10 E.R.2.2.2.2.length (nI v)) 0 16 (nI (E.R.2.2.2.2.length + 1))).1 a k = M2.1 a k := fun a k q => (f1 a k q).1
  have hW := a2.2.2.2.2
  have hY : YW (si (si M2 10 E.R.2.2.2.2.length (nI v)) 0 16 (nI (E.R.2.2.2.2.length + 1))) tp (mhT tp t) ((E.R.1, E.R.2.1, E.R.2.2.1, E.R.2.2.2.1, E.R.2.2.2.2 ++ [v]), (mhD tp t E).2) := a2.w.wr f1 (fun c k q => by omega) (fun _ => ⟨⟨⟨by rw [e9 _ _ (by omega)]; exact x1, by rw [e9 _ _ (by omega)]; exact x2, by rw [e9 _ _ (by omega)]; exact x3, by rw [e9 _ _ (by omega)]; exact x4, by
    rw [si_at]
    show nI (E.R.2.2.2.2.length + 1) = nI (E.R.2.2.2.2 ++ [v]).length
    rw [List.length_append]; rfl, fun j q hq => by rw [e9 _ _ (by omega), e9 _ _ (by omega), e9 _ _ (by omega)]; exact x6 j q hq, fun i h hi => by rw [e9 _ _ (by omega)]; exact x7 i h hi, list_snoc x8 (fun k hk => e9 10 k (by show ¬ ((10 = 10 ∧ k = E.R.2.2.2.2.length) ∨ (10 = 0 ∧ k = 16)); have : k < E.R.2.2.2.2.length := hk; omega)) (by show (si (si M2 10 E.R.2.2.2.2.length (nI v)) 0 16 (nI (E.R.2.2.2.2.length + 1))).1 10 E.R.2.2.2.2.length = nI v; rw [si_ne (Or.inl (by decide)), si_at]), x9.fr hW f1 (fun k _ _ q => by omega), fun p hp => by rw [e9 _ _ (by omega)]; exact x10 p hp⟩, fun p hp => by rw [e9 _ _ (by omega)]; exact y2 p hp, by rw [e9 _ _ (by omega)]; exact y3, by rw [e9 _ _ (by omega)]; exact y4⟩, hW⟩)
  obtain ⟨M', t', b1, b2, b3, b4⟩ := m_tail n hn hY q1
  have b3 : QT (rdX tp (paS tp s)) t' := b3
  refine ⟨M', t', by rw [un]; exact b1, b2.cg (fun q => ?_), b3, (a3.trans (f1.mono (fun c k q => by unfold yd; omega))).trans b4⟩
  have p0 := rd_0 ((Q_0 b3).mpr q)
  have s0 := (tkS_0 (show (tkS tp (rfs (decide (vaN 0 (paB tp s) = vaN 0 (paA tp s))) 4 (paB tp s))).1 = 0 from p0))
  have r0 : (rdX tp (rfs (decide (vaN 0 (paB tp s) = vaN 0 (paA tp s))) 4 (paB tp s))).1 = 0 := by
    rw [← s0.2.2]
    exact p0
  have m0 := (Q_0 q1).mp r0
  obtain ⟨g1, g2, g3⟩ := q2 m0
  unfold daD
  have ev : v = paV tp s := by
    rw [← hv, if_pos m0, g2, g3]
    unfold paV
    rw [if_pos p0]
  rw [ev, g1]
end
section
/-! THE TEXT: a line of both, whole -/
theorem tld_b : ∀ p, p < 2 → ∀ h, h < 2 → (p + 2 * h).testBit 0 = decide (p ≠ 0) ∧ (p + 2 * h).testBit 1 = decide (h ≠ 0) ∧ (p + 2 * h) ||| 2 ^ 0 = 1 + 2 * h ∧ (p + 2 * h) ||| 2 ^ 1 = p + 2 * 1 := by decide +kernel
theorem m_disp0 (n : Nat) (hn : 400 ≤ n) {M : Mem} {tp : List Nat} {s' : Tk} {t : Tm} {E : Dr} (h : YS M tp t (E.R, E.W, E.gl, 1, E.hT, E.kn, E.hi, E.lg)) (hQ : QT (rdX tp s') t) : LQ n M tp s' E (kDisp n 0 M) (tkS tp (tkN tp 2 6 s')) ((vaN 2 (tkN tp 2 6 s'), E.R.2), E.W, E.gl, 1, E.hT, E.kn, E.hi, E.lg) := by
  obtain ⟨M2, a1, a2, a3⟩ := h.rnum n hn 2 6 (by decide) (by decide)
  obtain ⟨q1, q2⟩ := num_Q 2 6 hQ
  have f1 : Fr (fun c k => c = 0 ∧ k = 12) M2 (si M2 0 12 (nI (vaM (lkN 2 6 t)))) := Fr.si ⟨rfl, rfl⟩
  obtain ⟨y1, y2, y3, y4⟩ := a2.2.2.2.1
  obtain ⟨x1, x2, x3, x4, x5, x6, x7, x8, x9, x10⟩ := y1
  have hY : YW (si M2 0 12 (nI (vaM (lkN 2 6 t)))) tp (rdM tp (lkN 2 6 t)) ((vaM (lkN 2 6 t), E.R.2), E.W, E.gl, 1, E.hT, E.kn, E.hi, E.lg) := a2.w.wr f1 (fun c k q => by omega) (fun _ => ⟨⟨⟨si_at _ _ _ _, x2, x3, x4, x5, x6, x7, x8, x9.fr a2.2.2.2.2 f1 (fun k _ _ q => by omega), x10⟩, y2, y3, y4⟩, a2.2.2.2.2⟩)
  obtain ⟨M', t', b1, b2, b3, b4⟩ := m_tail n hn hY (next_Q q1)
  refine ⟨M', t', ?_, b2.cg (fun q => ?_), b3, ((mt_yd a3).trans (f1.mono (fun c k q => by unfold yd; omega))).trans b4⟩
  · unfold kDisp
    rw [if_pos rfl, show X_Model_readNumber n 2 6 M = _ from a1, bd_ret]
    exact b1
  · have p0 := rd_0 ((Q_0 b3).mpr q)
    have s0 := (tkS_0 (show (tkS tp (tkN tp 2 6 s')).1 = 0 from p0)).1
    rw [q2 s0]
theorem m_disp1 (n : Nat) (hn : 400 ≤ n) {M : Mem} {tp : List Nat} {s' : Tk} {t : Tm} {E : Dr} (h : YS M tp t (E.R, E.W, E.gl, E.pT, 1, E.kn, E.hi, E.lg)) (hQ : QT (rdX tp s') t) : LQ n M tp s' E (kDisp n 1 M) (tkS tp (tkN tp 1 9 s')) ((E.R.1, vaN 1 (tkN tp 1 9 s'), E.R.2.2), E.W, E.gl, E.pT, 1, E.kn, E.hi, E.lg) := by
  obtain ⟨M2, a1, a2, a3⟩ := h.rnum n hn 1 9 (by decide) (by decide)
  obtain ⟨q1, q2⟩ := num_Q 1 9 hQ
  have f1 : Fr (fun c k => c = 0 ∧ k = 13) M2 (si M2 0 13 (nI (vaM (lkN 1 9 t)))) := Fr.si ⟨rfl, rfl⟩
  obtain ⟨y1, y2, y3, y4⟩ := a2.2.2.2.1
  obtain ⟨x1, x2, x3, x4, x5, x6, x7, x8, x9, x10⟩ := y1
  have hY : YW (si M2 0 13 (nI (vaM (lkN 1 9 t)))) tp (rdM tp (lkN 1 9 t)) ((E.R.1, vaM (lkN 1 9 t), E.R.2.2), E.W, E.gl, E.pT, 1, E.kn, E.hi, E.lg) := a2.w.wr f1 (fun c k q => by omega) (fun _ => ⟨⟨⟨x1, si_at _ _ _ _, x3, x4, x5, x6, x7, x8, x9.fr a2.2.2.2.2 f1 (fun k _ _ q => by omega), x10⟩, y2, y3, y4⟩, a2.2.2.2.2⟩)
  obtain ⟨M', t', b1, b2, b3, b4⟩ := m_tail n hn hY (next_Q q1)
  refine ⟨M', t', ?_, b2.cg (fun q => ?_), b3, ((mt_yd a3).trans (f1.mono (fun c k q => by unfold yd; omega))).trans b4⟩
  · unfold kDisp
    rw [if_neg (show ¬ (1 : Int32) = 0 by decide), if_pos rfl, show X_Model_readNumber n 1 9 M = _ from a1, bd_ret]
    exact b1
  · have p0 := rd_0 ((Q_0 b3).mpr q)
    have s0 := (tkS_0 (show (tkS tp (tkN tp 1 9 s')).1 = 0 from p0)).1
    rw [q2 s0]
theorem nm_le (tp : List Nat) (q a : Nat) : nmI tp q a ≤ 7 := by
  unfold nmI
  repeat (first | (split; decide) | decide)
theorem ned_t {f : Nat} {t : Tm} : ned true f t = t := rfl
theorem m_line (n : Nat) (hn : 400 ≤ n) {M : Mem} {tp : List Nat} {s : Tk} {t : Tm} {E : Dr} (hE : VE E) (h : YS M tp t E) (hQ : Qok s t) (hs : OkT tp s) (hq : s.2.2.2.1 ≤ s.2.1) : LQ n M tp s E (X_Model_readLine n M) (lnS tp s E) (lnD tp s E) := by
  have hk4 := h.2.1.2.2.2
  have hQs : QT s t := Or.inl hQ
  -- a fault of this line's name
  have bad : ∀ (f : Nat), 0 < f ∧ f < 8 → QT (rdX tp (rfs true f s)) (ned false f t) := fun f hf => by
    have q := ref_Q (f := f) (f' := f) hQs hf hf (c := true) (ok := false) rfl
    have : (rfs true f s).1 ≠ 0 := by unfold rfs; rw [if_pos rfl, if_pos hQ.1]; show f ≠ 0; omega
    rw [rdX_bad this]
    exact q
  have nbad : ∀ (f : Nat), 0 < f → (ned false f t).1 ≠ 0 := fun f hf => by
    unfold ned
    rw [if_neg Bool.false_ne_true, if_pos hQ.2.1]
    show f ≠ 0
    omega
  rw [line_eq, h.2.2.1.2.2.2.2.1]
  have two : LQ n M tp s E (kName n (-4) M) (rfs true 2 s) E := by
    obtain ⟨M1, b1, b2, b3⟩ := h.need n (p1 := 0) (ok := false) (by decide) 2 (by decide)
    obtain ⟨M2, c1, c2, c3⟩ := b2.need n (p1 := 1) (ok := true) (by decide) 5 (by decide)
    rw [ned_t] at c2
    obtain ⟨M', d1, d2, d3⟩ := k_bad n hn (-4) c2 (nbad 2 (by decide))
    refine ⟨M', _, ?_, d2, bad 2 (by decide), ((mt_yd b3).trans (mt_yd c3)).trans d3⟩
    unfold kName
    rw [if_pos rfl, show X_Model_needs n 0 2 M = _ from b1, bd_ret, if_neg (show ¬ (-4 : Int32) = 3 by decide), if_neg (show ¬ (-4 : Int32) = 4 by decide), if_neg (show ¬ (-4 : Int32) = 5 by decide)]
    unfold kFull
    rw [show X_Model_needs n 1 5 M1 = _ from c1, bd_ret]
    exact d1
  by_cases e1 : t.2.2.2.2.1 = 1
  · have es1 : s.2.2.1 = 1 := by rw [hQ.2.2.2.1]; exact e1
    rw [if_pos (show nI t.2.2.2.2.1 = 1 by rw [e1]; rfl), m_name n h.1 h.2.2.1.2.2.1 h.2.2.1.2.2.2.1 (by rw [← hQ.2.2.1, ← hQ.2.2.2.2.1]; exact hq) h.2.1.2.1, bd_ret, ← hQ.2.2.1, ← hQ.2.2.2.2.1]
    unfold lnS lnD
    rw [if_pos es1, if_pos es1]
    have hle := nm_le tp s.2.2.2.1 s.2.1
    generalize nmI tp s.2.2.2.1 s.2.1 = k at hle
    -- the name is known: no fault 2; then no fault 5
    obtain ⟨M1, b1, b2, b3⟩ := h.need n (p1 := 1) (ok := true) (by decide) 2 (by decide)
    rw [ned_t] at b2
    obtain ⟨M2, c1, c2, c3⟩ := b2.need n (p1 := 1) (ok := true) (by decide) 5 (by decide)
    rw [ned_t] at c2
    have f2 := (mt_yd b3).trans (mt_yd c3)
    obtain ⟨M3, d1, d2, d3⟩ := b2.need n (p1 := 0) (ok := false) (by decide) 5 (by decide)
    obtain ⟨l14, l15, l16⟩ : M1.1 0 14 = nI E.R.2.2.1.length ∧ M1.1 0 15 = nI E.R.2.2.2.1.length ∧ M1.1 0 16 = nI E.R.2.2.2.2.length := ⟨b2.2.2.2.1.1.2.2.1, b2.2.2.2.1.1.2.2.2.1, b2.2.2.2.1.1.2.2.2.2.1⟩
    have full : ∀ u1, LQ n M tp s E (kFull n u1 0 M1) (rfs true 5 s) E := fun u1 => by
      obtain ⟨M', g1, g2, g3⟩ := k_bad n hn u1 d2 (nbad 5 (by decide))
      refine ⟨M', _, ?_, g2, bad 5 (by decide), ((mt_yd b3).trans (mt_yd d3)).trans g3⟩
      unfold kFull
      rw [show X_Model_needs n 0 5 M1 = _ from d1, bd_ret]
      exact g1
    have fre : ∀ u1 : Int32, 1 < u1 → kFull n u1 1 M1 = kNext n u1 M2 := fun u1 hu => by
      unfold kFull
      rw [show X_Model_needs n 1 5 M1 = _ from c1, bd_ret]
      unfold kTwice
      rw [c2.2.2.1.1, if_pos (show nI t.1 = 0 by rw [hQ.2.1]; rfl), if_pos hu]
    -- the first token behind the name, then what it is about
    have go : ∀ (u1 : Int32) (N : Mem) (s' : Tk) (t' : Tm) (E1 : Dr) (S' : Tk) (D' : Dr), YS N tp t' E1 → Fr yd M N → QT s' t' → (∀ M4, YS M4 tp (rdM tp t') E1 → QT (rdX tp s') (rdM tp t') → LQ n M4 tp s E (kDisp n u1 M4) S' D') → ((rdX tp s').1 ≠ 0 → S' = rdX tp s') → LQ n M tp s E (kNext n u1 N) S' D' := by
      intro u1 N s' t' E1 S' D' g1 g2 g3 g4 g5
      obtain ⟨M4, i1, i2, i3⟩ := k_next n hn u1 g1
      have q2 := next_Q (tp := tp) g3
      rw [i3]
      by_cases e0 : (rdM tp t').1 = 0
      · rw [if_pos e0]
        obtain ⟨M', t2, j1, j2, j3, j4⟩ := g4 M4 i1 q2
        exact ⟨M', t2, j1, j2, j3, (g2.trans i2).trans j4⟩
      · rw [if_neg e0]
        have sb : (rdX tp s').1 ≠ 0 := fun q => e0 ((Q_0 q2).mp q)
        refine ⟨M4, rdM tp t', rfl, ⟨i1.1, i1.2.1, i1.2.2.1, fun q => absurd q e0⟩, ?_, g2.trans i2⟩
        rw [g5 sb, rdX_bad sb]
        exact q2
    have kn : ∀ k, k < 7 → nmC k = nI k := fun k hk => if_neg (by omega)
    match k, hle with
    | 0, _ =>
      have un : kName n (nmC 0) M = kFull n 0 1 M1 := by
        unfold kName
        rw [kn 0 (by decide), if_neg (show ¬ nI 0 = -4 by decide), show X_Model_needs n 1 2 M = _ from b1, bd_ret, if_neg (show ¬ nI 0 = 3 by decide), if_neg (show ¬ nI 0 = 4 by decide), if_neg (show ¬ nI 0 = 5 by decide)]
        rfl
      obtain ⟨z1, z2, z3, z4⟩ := tld_b E.pT hE.1.2.2.2.2.1 E.hT hE.1.2.2.2.2.2.1
      have ok24 : ∀ p1 : Int32, (p1 = 0 ↔ decide (E.pT = 0) = false) → ∃ M5, X_Model_needs n p1 4 M2 = some ((), M5) ∧ YS M5 tp (ned (decide (E.pT = 0)) 4 t) E ∧ Fr mt M2 M5 := fun p1 hp => c2.need n hp 4 (by decide)
      have fin : ∀ p1 : Int32, (p1 = 0 ↔ decide (E.pT = 0) = false) → LQ n M tp s E (bd (X_Model_needs n p1 4 M2) fun _ M37 => kNext n 0 (si M37 0 24 ((M37.1 0 24) ||| ((1 : Int32) <<< ((0 : Int32) &&& 31))))) (tkS tp (peoS tp s E)) (peoD tp s E) := fun p1 hp => by
        obtain ⟨M5, i1, i2, i3⟩ := ok24 p1 hp
        obtain ⟨y1, y2, y3, y4⟩ := i2.2.2.2.1
        have e24 : (M5.1 0 24) ||| ((1 : Int32) <<< ((0 : Int32) &&& 31)) = nI (1 + 2 * E.hT) := by
          rw [y3, show (1 : Int32) <<< ((0 : Int32) &&& 31) = nI (2 ^ 0) by decide, i_or, z3]
        have f1 : Fr (fun c k => c = 0 ∧ k = 24) M5 (si M5 0 24 (nI (1 + 2 * E.hT))) := Fr.si ⟨rfl, rfl⟩
        have hS : YS (si M5 0 24 (nI (1 + 2 * E.hT))) tp (ned (decide (E.pT = 0)) 4 t) (E.R, E.W, E.gl, 1, E.hT, E.kn, E.hi, E.lg) := i2.wr f1 (fun c k q => by omega) ⟨y1.fr i2.2.2.2.2 f1 (fun c k q => by omega), fun p hp => by rw [(f1 13 p (by omega)).1]; exact y2 p hp, si_at _ _ _ _, by rw [(f1 0 17 (by omega)).1]; exact y4⟩ i2.2.2.2.2
        have hq2 : QT (rfs (decide (E.pT ≠ 0)) 4 s) (ned (decide (E.pT = 0)) 4 t) := ref_Q hQs (by decide) (by decide) (by by_cases q : E.pT = 0 <;> simp [q])
        rw [i1, bd_ret, e24]
        exact go 0 _ _ _ _ _ _ hS ((f2.trans (mt_yd i3)).trans (f1.mono (fun c k q => by unfold yd; omega))) hq2 (fun M4 j1 j2 => m_disp0 n hn j1 j2) (fun sb => by unfold peoS; rw [tkN_bad 2 6 sb, tkS_b sb])
      rw [un]
      have un2 : kFull n 0 1 M1 = (if nI (if (E.pT + 2 * E.hT).testBit 0 then 1 else 0) = 0 then bd (X_Model_needs n 1 4 M2) fun _ M37 => kNext n 0 (si M37 0 24 ((M37.1 0 24) ||| ((1 : Int32) <<< ((0 : Int32) &&& 31)))) else bd (X_Model_needs n 0 4 M2) fun _ M37 => kNext n 0 (si M37 0 24 ((M37.1 0 24) ||| ((1 : Int32) <<< ((0 : Int32) &&& 31))))) := by
        have hp := hE.1.2.2.2.2.1
        have hh := hE.1.2.2.2.2.2.1
        unfold kFull
        rw [show X_Model_needs n 1 5 M1 = _ from c1, bd_ret]
        unfold kTwice
        rw [c2.2.2.1.1, if_pos (show nI t.1 = 0 by rw [hQ.2.1]; rfl), if_neg (show ¬ (1 : Int32) < 0 by decide), c2.2.2.2.1.2.2.1, ← b_is (k := E.pT + 2 * E.hT) (t := 0) (by omega) (by decide)]
        rfl
      rw [un2, z1]
      by_cases ep : E.pT = 0
      · rw [decide_eq_false (fun q => q ep), if_pos (show nI (if false = true then 1 else 0) = 0 from rfl)]
        exact fin 1 (by rw [decide_eq_true ep]; decide)
      · rw [decide_eq_true ep, if_neg (show ¬ nI (if true = true then 1 else 0) = 0 by decide)]
        exact fin 0 (by rw [decide_eq_false ep]; decide)
    | 1, _ =>
      have un : kName n (nmC 1) M = kFull n 1 1 M1 := by
        unfold kName
        rw [kn 1 (by decide), if_neg (show ¬ nI 1 = -4 by decide), show X_Model_needs n 1 2 M = _ from b1, bd_ret, if_neg (show ¬ nI 1 = 3 by decide), if_neg (show ¬ nI 1 = 4 by decide), if_neg (show ¬ nI 1 = 5 by decide)]
        rfl
      obtain ⟨z1, z2, z3, z4⟩ := tld_b E.pT hE.1.2.2.2.2.1 E.hT hE.1.2.2.2.2.2.1
      have fin : ∀ p1 : Int32, (p1 = 0 ↔ decide (E.hT = 0) = false) → LQ n M tp s E (bd (X_Model_needs n p1 4 M2) fun _ M37 => kNext n 1 (si M37 0 24 ((M37.1 0 24) ||| ((1 : Int32) <<< ((1 : Int32) &&& 31))))) (tkS tp (holS tp s E)) (holD tp s E) := fun p1 hp => by
        obtain ⟨M5, i1, i2, i3⟩ := c2.need n hp 4 (by decide)
        obtain ⟨y1, y2, y3, y4⟩ := i2.2.2.2.1
        have e24 : (M5.1 0 24) ||| ((1 : Int32) <<< ((1 : Int32) &&& 31)) = nI (E.pT + 2 * 1) := by
          rw [y3, show (1 : Int32) <<< ((1 : Int32) &&& 31) = nI (2 ^ 1) by decide, i_or, z4]
        have f1 : Fr (fun c k => c = 0 ∧ k = 24) M5 (si M5 0 24 (nI (E.pT + 2 * 1))) := Fr.si ⟨rfl, rfl⟩
        have hS : YS (si M5 0 24 (nI (E.pT + 2 * 1))) tp (ned (decide (E.hT = 0)) 4 t) (E.R, E.W, E.gl, E.pT, 1, E.kn, E.hi, E.lg) := i2.wr f1 (fun c k q => by omega) ⟨y1.fr i2.2.2.2.2 f1 (fun c k q => by omega), fun p hp => by rw [(f1 13 p (by omega)).1]; exact y2 p hp, si_at _ _ _ _, by rw [(f1 0 17 (by omega)).1]; exact y4⟩ i2.2.2.2.2
        have hq2 : QT (rfs (decide (E.hT ≠ 0)) 4 s) (ned (decide (E.hT = 0)) 4 t) := ref_Q hQs (by decide) (by decide) (by by_cases q : E.hT = 0 <;> simp [q])
        rw [show X_Model_needs n p1 4 M2 = _ from i1, bd_ret, e24]
        exact go 1 _ _ _ _ _ _ hS ((f2.trans (mt_yd i3)).trans (f1.mono (fun c k q => by unfold yd; omega))) hq2 (fun M4 j1 j2 => m_disp1 n hn j1 j2) (fun sb => by unfold holS; rw [tkN_bad 1 9 sb, tkS_b sb])
      rw [un]
      have un2 : kFull n 1 1 M1 = (if nI (if (E.pT + 2 * E.hT).testBit 1 then 1 else 0) = 0 then bd (X_Model_needs n 1 4 M2) fun _ M37 => kNext n 1 (si M37 0 24 ((M37.1 0 24) ||| ((1 : Int32) <<< ((1 : Int32) &&& 31)))) else bd (X_Model_needs n 0 4 M2) fun _ M37 => kNext n 1 (si M37 0 24 ((M37.1 0 24) ||| ((1 : Int32) <<< ((1 : Int32) &&& 31))))) := by
        have hp := hE.1.2.2.2.2.1
        have hh := hE.1.2.2.2.2.2.1
        unfold kFull
        rw [show X_Model_needs n 1 5 M1 = _ from c1, bd_ret]
        unfold kTwice
        rw [c2.2.2.1.1, if_pos (show nI t.1 = 0 by rw [hQ.2.1]; rfl), if_neg (show ¬ (1 : Int32) < 1 by decide), c2.2.2.2.1.2.2.1, ← b_is (k := E.pT + 2 * E.hT) (t := 1) (by omega) (by decide)]
        rfl
      rw [un2, z2]
      by_cases ep : E.hT = 0
      · rw [decide_eq_false (fun q => q ep), if_pos (show nI (if false = true then 1 else 0) = 0 from rfl)]
        exact fin 1 (by rw [decide_eq_true ep]; decide)
      · rw [decide_eq_true ep, if_neg (show ¬ nI (if true = true then 1 else 0) = 0 by decide)]
        exact fin 0 (by rw [decide_eq_false ep]; decide)
    | 2, _ =>
      have un : kName n (nmC 2) M = kNext n 2 M2 := by
        unfold kName
        rw [kn 2 (by decide), if_neg (show ¬ nI 2 = -4 by decide), show X_Model_needs n 1 2 M = _ from b1, bd_ret, if_neg (show ¬ nI 2 = 3 by decide), if_neg (show ¬ nI 2 = 4 by decide), if_neg (show ¬ nI 2 = 5 by decide)]
        exact fre 2 (by decide)
      rw [un]
      exact go 2 M2 s t E _ _ c2 f2 hQs (fun M4 j1 j2 => m_disp2 n hn hE j1 j2) (fun sb => kn_b sb)
    | 3, _ =>
      have hv := hE.1.1
      by_cases hj : E.R.2.2.1.length < 4
      · have un : kName n (nmC 3) M = kNext n 3 M2 := by
          unfold kName
          rw [kn 3 (by decide), if_neg (show ¬ nI 3 = -4 by decide), show X_Model_needs n 1 2 M = _ from b1, bd_ret, if_pos (show nI 3 = 3 from rfl), l14, if_neg (show ¬ (4 : Int32) ≤ nI E.R.2.2.1.length from nI_ge (b := 4) hj (by decide)), if_neg (show ¬ nI 3 = 4 by decide), if_neg (show ¬ nI 3 = 5 by decide)]
          exact fre 3 (by decide)
        rw [un]
        rw [if_pos hj, if_pos hj]
        exact go 3 M2 s t E _ _ c2 f2 hQs (fun M4 j1 j2 => m_disp3 n hn j1 j2 hj) (fun sb => jo_b sb)
      · have un : kName n (nmC 3) M = kFull n 3 0 M1 := by
          unfold kName
          rw [kn 3 (by decide), if_neg (show ¬ nI 3 = -4 by decide), show X_Model_needs n 1 2 M = _ from b1, bd_ret, if_pos (show nI 3 = 3 from rfl), l14, if_pos (show (4 : Int32) ≤ nI E.R.2.2.1.length from nI_le (a := 4) (by omega) (by omega))]
          rfl
        rw [un]
        rw [if_neg hj, if_neg hj]
        exact full 3
    | 4, _ =>
      have hv := hE.1.2.1
      by_cases hj : E.R.2.2.2.1.length < 16
      · have un : kName n (nmC 4) M = kNext n 4 M2 := by
          unfold kName
          rw [kn 4 (by decide), if_neg (show ¬ nI 4 = -4 by decide), show X_Model_needs n 1 2 M = _ from b1, bd_ret, if_neg (show ¬ nI 4 = 3 by decide), if_pos (show nI 4 = 4 from rfl), l15, if_neg (show ¬ (16 : Int32) ≤ nI E.R.2.2.2.1.length from nI_ge (b := 16) hj (by decide)), if_neg (show ¬ nI 4 = 5 by decide)]
          exact fre 4 (by decide)
        rw [un]
        rw [if_pos hj, if_pos hj]
        exact go 4 M2 s t E _ _ c2 f2 hQs (fun M4 j1 j2 => m_disp4 n hn hE j1 j2 hj) (fun sb => pa_b sb)
      · have un : kName n (nmC 4) M = kFull n 4 0 M1 := by
          unfold kName
          rw [kn 4 (by decide), if_neg (show ¬ nI 4 = -4 by decide), show X_Model_needs n 1 2 M = _ from b1, bd_ret, if_neg (show ¬ nI 4 = 3 by decide), if_pos (show nI 4 = 4 from rfl), l15, if_pos (show (16 : Int32) ≤ nI E.R.2.2.2.1.length from nI_le (a := 16) (by omega) (by omega))]
          rfl
        rw [un]
        rw [if_neg hj, if_neg hj]
        exact full 4
    | 5, _ =>
      have hv := hE.1.2.2.1
      by_cases hj : E.R.2.2.2.2.length < 8
      · have un : kName n (nmC 5) M = kNext n 5 M2 := by
          unfold kName
          rw [kn 5 (by decide), if_neg (show ¬ nI 5 = -4 by decide), show X_Model_needs n 1 2 M = _ from b1, bd_ret, if_neg (show ¬ nI 5 = 3 by decide), if_neg (show ¬ nI 5 = 4 by decide), if_pos (show nI 5 = 5 from rfl), l16, if_neg (show ¬ (8 : Int32) ≤ nI E.R.2.2.2.2.length from nI_ge (b := 8) hj (by decide))]
          exact fre 5 (by decide)
        rw [un]
        rw [if_pos hj, if_pos hj]
        exact go 5 M2 s t E _ _ c2 f2 hQs (fun M4 j1 j2 => m_disp5 n hn hE j1 j2 hj) (fun sb => pa_b sb)
      · have un : kName n (nmC 5) M = kFull n 5 0 M1 := by
          unfold kName
          rw [kn 5 (by decide), if_neg (show ¬ nI 5 = -4 by decide), show X_Model_needs n 1 2 M = _ from b1, bd_ret, if_neg (show ¬ nI 5 = 3 by decide), if_neg (show ¬ nI 5 = 4 by decide), if_pos (show nI 5 = 5 from rfl), l16, if_pos (show (8 : Int32) ≤ nI E.R.2.2.2.2.length from nI_le (a := 8) (by omega) (by omega))]
          rfl
        rw [un]
        rw [if_neg hj, if_neg hj]
        exact full 5
    | 6, _ =>
      have un : kName n (nmC 6) M = kNext n 6 M2 := by
        unfold kName
        rw [kn 6 (by decide), if_neg (show ¬ nI 6 = -4 by decide), show X_Model_needs n 1 2 M = _ from b1, bd_ret, if_neg (show ¬ nI 6 = 3 by decide), if_neg (show ¬ nI 6 = 4 by decide), if_neg (show ¬ nI 6 = 5 by decide)]
        exact fre 6 (by decide)
      rw [un]
      exact go 6 M2 s t E _ _ c2 f2 hQs (fun M4 j1 j2 => m_disp6 n hn hE j1 j2) (fun sb => glo_b sb)
    | 7, _ => exact two
    | k + 8, hle => exact absurd hle (by omega)
  · have es1 : ¬ s.2.2.1 = 1 := by rw [hQ.2.2.2.1]; exact e1
    unfold lnS lnD
    rw [if_neg (show ¬ nI t.2.2.2.2.1 = 1 from fun q => e1 ((nI_eq (b := 1) (by omega) (by decide)).mp q)), if_neg es1, if_neg es1]
    exact two
end
section
/-! THE TEXT: what a draft is, and the lines one behind another -/
def GD (D : Dr) : Prop := (2 ≤ D.R.1 ∧ D.R.1 ≤ 6 ∧ 1 ≤ D.R.2.1 ∧ D.R.2.1 ≤ 9) ∧ (D.R.2.2.1.length ≤ 4 ∧ ∀ q ∈ D.R.2.2.1, jOk q) ∧ (D.R.2.2.2.1.length ≤ 16 ∧ ∀ h ∈ D.R.2.2.2.1, h < 15 ∧ gre h ≤ D.hi) ∧ (D.R.2.2.2.2.length ≤ 8 ∧ ∀ h ∈ D.R.2.2.2.2, h < 15 ∧ gre h ≤ D.hi) ∧ (OkW D.W ∧ (∀ p, D.kn.testBit p = false → D.W p = []) ∧ (∀ p, (D.W p).length ≤ D.lg) ∧ (D.lg = 0 ∨ ∃ p, (D.W p).length = D.lg)) ∧ (D.gl < 64 ∧ ∀ p, D.gl.testBit p = true → p ≤ D.hi) ∧ (D.kn < 64 ∧ ∀ p, D.kn.testBit p = true → p ≤ D.hi) ∧ D.hi < 6 ∧ D.pT < 2 ∧ D.hT < 2 ∧ D.lg ≤ 9
theorem GD.v {D : Dr} (h : GD D) : VE D := ⟨⟨h.2.1.1, h.2.2.1.1, h.2.2.2.1.1, h.2.2.2.2.2.1.1, h.2.2.2.2.2.2.2.2.1, h.2.2.2.2.2.2.2.2.2.1, h.2.2.2.2.2.2.1.1, h.2.2.2.2.2.2.2.1, h.2.2.2.2.2.2.2.2.2.2⟩, fun p _ q => h.2.2.2.2.1.2.1 p q⟩
theorem or64 {a p : Nat} (h : a < 64) (hp : p ≤ 5) : a ||| 2 ^ p < 64 := Nat.or_lt_two_pow (n := 6) h (Nat.pow_lt_pow_right (by decide) (by omega))
theorem GD.glo {D : Dr} (h : GD D) {r : Nat} (hr : r ≤ 5) : GD (D.R, D.W, D.gl ||| 2 ^ r, D.pT, D.hT, D.kn, max D.hi r, D.lg) := by
  obtain ⟨a1, a2, a3, a4, a5, a6, a7, a8, a9, a10, a11⟩ := h
  refine ⟨a1, a2, ⟨a3.1, fun h hh => ⟨(a3.2 h hh).1, Nat.le_trans (a3.2 h hh).2 (Nat.le_max_left _ _)⟩⟩, ⟨a4.1, fun h hh => ⟨(a4.2 h hh).1, Nat.le_trans (a4.2 h hh).2 (Nat.le_max_left _ _)⟩⟩, a5, ⟨or64 a6.1 hr, fun p hp => ?_⟩, ⟨a7.1, fun p hp => Nat.le_trans (a7.2 p hp) (Nat.le_max_left _ _)⟩, ?_, a9, a10, a11⟩
  · have hp : (D.gl ||| 2 ^ r).testBit p = true := hp
    rw [or_bit, Bool.or_eq_true] at hp
    show p ≤ max D.hi r
    rcases hp with hp | hp
    · have := a6.2 p hp; omega
    · have := of_decide_eq_true hp; omega
  · show max D.hi r < 6
    omega
theorem GD.peo {D : Dr} (h : GD D) {r : Nat} (h1 : 2 ≤ r) (h2 : r ≤ 6) : GD ((r, D.R.2), D.W, D.gl, 1, D.hT, D.kn, D.hi, D.lg) := ⟨⟨h1, h2, h.1.2.2⟩, h.2.1, h.2.2.1, h.2.2.2.1, h.2.2.2.2.1, h.2.2.2.2.2.1, h.2.2.2.2.2.2.1, h.2.2.2.2.2.2.2.1, by show 1 < 2; decide, h.2.2.2.2.2.2.2.2.2.1, h.2.2.2.2.2.2.2.2.2.2⟩
theorem GD.hol {D : Dr} (h : GD D) {r : Nat} (h1 : 1 ≤ r) (h2 : r ≤ 9) : GD ((D.R.1, r, D.R.2.2), D.W, D.gl, D.pT, 1, D.kn, D.hi, D.lg) := ⟨⟨h.1.1, h.1.2.1, h1, h2⟩, h.2.1, h.2.2.1, h.2.2.2.1, h.2.2.2.2.1, h.2.2.2.2.2.1, h.2.2.2.2.2.2.1, h.2.2.2.2.2.2.2.1, h.2.2.2.2.2.2.2.2.1, by show 1 < 2; decide, h.2.2.2.2.2.2.2.2.2.2⟩
theorem GD.joi {D : Dr} (h : GD D) {q : Jn} (hq : jOk q) (hl : D.R.2.2.1.length < 4) : GD ((D.R.1, D.R.2.1, D.R.2.2.1 ++ [q], D.R.2.2.2), D.2) := ⟨h.1, ⟨by show (D.R.2.2.1 ++ [q]).length ≤ 4; rw [List.length_append, List.length_singleton]; omega, fun x hx => (List.mem_append.mp hx).elim (h.2.1.2 x) (fun r => by rw [List.mem_singleton.mp r]; exact hq)⟩, h.2.2⟩
theorem GD.hi' {D : Dr} (h : GD D) {m : Nat} (hm : m ≤ 5) : GD (D.R, D.W, D.gl, D.pT, D.hT, D.kn, max D.hi m, D.lg) := by
  obtain ⟨a1, a2, a3, a4, a5, a6, a7, a8, a9, a10, a11⟩ := h
  exact ⟨a1, a2, ⟨a3.1, fun h hh => ⟨(a3.2 h hh).1, Nat.le_trans (a3.2 h hh).2 (Nat.le_max_left _ _)⟩⟩, ⟨a4.1, fun h hh => ⟨(a4.2 h hh).1, Nat.le_trans (a4.2 h hh).2 (Nat.le_max_left _ _)⟩⟩, a5, ⟨a6.1, fun p hp => Nat.le_trans (a6.2 p hp) (Nat.le_max_left _ _)⟩, ⟨a7.1, fun p hp => Nat.le_trans (a7.2 p hp) (Nat.le_max_left _ _)⟩, by show max D.hi m < 6; omega, a9, a10, a11⟩
theorem GD.han {D : Dr} (h : GD D) {v : Nat} (hv : v < 15 ∧ gre v ≤ D.hi) (hl : D.R.2.2.2.1.length < 16) : GD ((D.R.1, D.R.2.1, D.R.2.2.1, D.R.2.2.2.1 ++ [v], D.R.2.2.2.2), D.2) := ⟨h.1, h.2.1, ⟨by show (D.R.2.2.2.1 ++ [v]).length ≤ 16; rw [List.length_append, List.length_singleton]; omega, fun x hx => (List.mem_append.mp hx).elim (h.2.2.1.2 x) (fun r => by rw [List.mem_singleton.mp r]; exact hv)⟩, h.2.2.2⟩
theorem GD.day {D : Dr} (h : GD D) {v : Nat} (hv : v < 15 ∧ gre v ≤ D.hi) (hl : D.R.2.2.2.2.length < 8) : GD ((D.R.1, D.R.2.1, D.R.2.2.1, D.R.2.2.2.1, D.R.2.2.2.2 ++ [v]), D.2) := ⟨h.1, h.2.1, h.2.2.1, ⟨by show (D.R.2.2.2.2 ++ [v]).length ≤ 8; rw [List.length_append, List.length_singleton]; omega, fun x hx => (List.mem_append.mp hx).elim (h.2.2.2.1.2 x) (fun r => by rw [List.mem_singleton.mp r]; exact hv)⟩, h.2.2.2.2⟩
theorem GD.row {D : Dr} (h : GD D) {p : Nat} {l : List Nat} (hp : p ≤ 5) (hk : D.kn.testBit p = false) (hr : Ro l) (h9 : l.length ≤ 9) : GD (D.R, updW D.W p l, D.gl, D.pT, D.hT, D.kn ||| 2 ^ p, max D.hi p, max D.lg l.length) := by
  have h' := h.hi' hp
  obtain ⟨a1, a2, a3, a4, a5, a6, a7, a8, a9, a10, a11⟩ := h
  obtain ⟨b1, b2, b3, b4⟩ := a5
  refine ⟨a1, a2, h'.2.2.1, h'.2.2.2.1, ⟨OkW.upd b1 p hr h9, fun q hq => ?_, fun q => ?_, ?_⟩, h'.2.2.2.2.2.1, ⟨or64 a7.1 hp, fun q hq => ?_⟩, h'.2.2.2.2.2.2.2.1, a9, a10, by show max D.lg l.length ≤ 9; omega⟩
  · have hq : (D.kn ||| 2 ^ p).testBit q = false := hq
    rw [or_bit, Bool.or_eq_false_iff] at hq
    have := of_decide_eq_false hq.2
    show updW D.W p l q = []
    unfold updW
    rw [if_neg (fun r => this r.symm)]
    exact b2 q hq.1
  · show (updW D.W p l q).length ≤ max D.lg l.length
    unfold updW
    split
    · exact Nat.le_max_right _ _
    · exact Nat.le_trans (b3 q) (Nat.le_max_left _ _)
  · show max D.lg l.length = 0 ∨ ∃ q, (updW D.W p l q).length = max D.lg l.length
    by_cases e : D.lg ≤ l.length
    · right
      refine ⟨p, ?_⟩
      unfold updW
      rw [if_pos rfl, Nat.max_eq_right e]
    · rcases b4 with b4 | ⟨q, b4⟩
      · omega
      · right
        refine ⟨q, ?_⟩
        have : q ≠ p := fun r => by
          rw [r, b2 p hk, List.length_nil] at b4
          omega
        unfold updW
        rw [if_neg this, b4, Nat.max_eq_left (by omega)]
  · have hq : (D.kn ||| 2 ^ p).testBit q = true := hq
    rw [or_bit, Bool.or_eq_true] at hq
    show q ≤ max D.hi p
    rcases hq with hq | hq
    · have := a7.2 q hq; omega
    · have := of_decide_eq_true hq; omega
-- the place only grows
theorem rfs_at {c : Bool} {f : Nat} {s : Tk} : (rfs c f s).2 = s.2 := by
  unfold rfs
  split
  · split <;> rfl
  · rfl
theorem rn_gt {tp : List Nat} {lo hi k p : Nat} (h : inr tp lo hi p = true) (hk : 0 < k) : p + 1 ≤ rn tp lo hi k p := by
  obtain ⟨k, rfl⟩ : ∃ q, k = q + 1 := ⟨k - 1, by omega⟩
  unfold rn
  rw [if_pos h]
  exact (rn_le k (p + 1) (inr_lt h)).1
theorem rdX_at0 {tp : List Nat} {s : Tk} (h : s.2.1 ≤ tp.length) : s.2.1 ≤ (rdX tp s).2.1 ∧ (s.1 = 0 → (rdX tp s).2.2.2.1 ≤ (rdX tp s).2.1) ∧ (s.1 = 0 → (rdX tp s).1 = 0 → (rdX tp s).2.2.1 ≠ 0 → s.2.1 < (rdX tp s).2.1) := by
  unfold rdX
  by_cases e : s.1 = 0
  · rw [if_pos e]
    obtain ⟨q1, q2⟩ := rn_le (tp := tp) (lo := 32) (hi := 32) tp.length s.2.1 h
    generalize rn tp 32 32 tp.length s.2.1 = q at q1 q2
    dsimp only
    by_cases eq : q < tp.length
    · rw [if_pos eq]
      by_cases e1 : inr tp 97 122 q = true
      · rw [if_pos e1]
        have := rn_gt (k := tp.length) e1 (by omega)
        exact ⟨by show s.2.1 ≤ rn tp 97 122 tp.length q; omega, fun _ => by show q ≤ rn tp 97 122 tp.length q; omega, fun _ _ _ => by show s.2.1 < rn tp 97 122 tp.length q; omega⟩
      · rw [if_neg e1]
        by_cases e2 : inr tp 48 57 q = true
        · rw [if_pos e2]
          have := rn_gt (k := tp.length) e2 (by omega)
          exact ⟨by show s.2.1 ≤ rn tp 48 57 tp.length q; omega, fun _ => by show q ≤ rn tp 48 57 tp.length q; omega, fun _ _ _ => by show s.2.1 < rn tp 48 57 tp.length q; omega⟩
        · rw [if_neg e2]
          by_cases e3 : inr tp 59 59 q = true
          · rw [if_pos e3]
            exact ⟨by show s.2.1 ≤ q + 1; omega, fun _ => by show q ≤ q + 1; omega, fun _ _ _ => by show s.2.1 < q + 1; omega⟩
          · rw [if_neg e3]
            exact ⟨q1, fun _ => Nat.le_refl _, fun _ (r : 1 = 0) _ => absurd r (by decide)⟩
    · rw [if_neg eq]
      exact ⟨q1, fun _ => Nat.le_refl _, fun _ _ (r : 0 ≠ 0) => absurd rfl r⟩
  · rw [if_neg e]
    exact ⟨Nat.le_refl _, fun q => absurd q e, fun q => absurd q e⟩
theorem rdX_at {tp : List Nat} {s : Tk} (h : OkT tp s) : s.2.1 ≤ (rdX tp s).2.1 ∧ (s.1 = 0 → (rdX tp s).2.2.2.1 ≤ (rdX tp s).2.1) ∧ (s.1 = 0 → (rdX tp s).1 = 0 → (rdX tp s).2.2.1 ≠ 0 → s.2.1 < (rdX tp s).2.1) := rdX_at0 h.2.1
theorem rdX_ok0 {tp : List Nat} {s : Tk} (e : s.1 = 0) (h : s.2.1 ≤ tp.length) (h0 : (rdX tp s).1 = 0) : OkT tp (rdX tp s) := by
  have key : rdX tp s = rdX tp (0, s.2.1, 0, 0, s.2.2.2.2) := by
    unfold rdX at h0 ⊢
    rw [if_pos e] at h0 ⊢
    rw [if_pos (show ((0, s.2.1, 0, 0, s.2.2.2.2) : Tk).1 = 0 from rfl)]
    dsimp only at h0 ⊢
    by_cases eq : rn tp 32 32 tp.length s.2.1 < tp.length
    · rw [if_pos eq] at h0 ⊢
      rw [if_pos eq]
      by_cases e1 : inr tp 97 122 (rn tp 32 32 tp.length s.2.1) = true
      · rw [if_pos e1, if_pos e1]
      · rw [if_neg e1] at h0 ⊢
        rw [if_neg e1]
        by_cases e2 : inr tp 48 57 (rn tp 32 32 tp.length s.2.1) = true
        · rw [if_pos e2, if_pos e2]
        · rw [if_neg e2] at h0 ⊢
          rw [if_neg e2]
          by_cases e3 : inr tp 59 59 (rn tp 32 32 tp.length s.2.1) = true
          · rw [if_pos e3, if_pos e3]
          · rw [if_neg e3] at h0
            exact absurd (show 1 = 0 from h0) (by decide)
    · rw [if_neg eq, if_neg eq]
  rw [key]
  exact rdX_ok ⟨by show 0 < 8; decide, h, fun _ (q : 0 = 2) => absurd q (by decide), by show 0 < 4; decide⟩
theorem tkN_at {tp : List Nat} {s : Tk} {lo hi : Nat} (h : OkT tp s) : s.2.1 ≤ (tkN tp lo hi s).2.1 := by
  have e : (tkN tp lo hi s).2 = (rdX tp s).2 := by
    show (btN lo hi (rdX tp s)).2 = _
    unfold btN
    rw [rfs_at, rfs_at]
  rw [e]
  exact (rdX_at h).1
theorem tkS_at {tp : List Nat} {s : Tk} (h : OkT tp s) : s.2.1 ≤ (tkS tp s).2.1 := by
  unfold tkS
  rw [rfs_at]
  exact (rdX_at h).1
theorem rwL_at {tp : List Nat} : ∀ k l (s : Tk), OkT tp s → s.2.1 ≤ (rwL tp k l s).2.2.1 ∧ OkT tp (rwL tp k l s).2
  | 0, l, s, h => ⟨Nat.le_refl _, h⟩
  | k + 1, l, s, h => by
    unfold rwL
    split
    · have h1 : OkT tp (thS l (vaN 0 (bd15 s)) (bd15 s)) := rfs_ok (by decide) (rfs_ok (by decide) (rfs_ok (by decide) h))
      have e1 : (thS l (vaN 0 (bd15 s)) (bd15 s)).2 = s.2 := by unfold thS bd15; rw [rfs_at, rfs_at, rfs_at]
      obtain ⟨i1, i2⟩ := rwL_at k (thL l (vaN 0 (bd15 s))) _ (rdX_ok h1)
      have := (rdX_at h1).1
      rw [e1] at this
      exact ⟨Nat.le_trans this i1, i2⟩
    · exact ⟨Nat.le_refl _, h⟩
theorem at_S {tp : List Nat} {s : Tk} {c : Bool} {f : Nat} (hf : 0 < f ∧ f < 8) (h : OkT tp s) : s.2.1 ≤ (tkS tp (rfs c f s)).2.1 := by
  have i := tkS_at (rfs_ok (c := c) hf h)
  rw [rfs_at] at i
  exact i
theorem at_N {tp : List Nat} {s : Tk} {c : Bool} {f lo hi : Nat} (hf : 0 < f ∧ f < 8) (h : OkT tp s) : s.2.1 ≤ (tkN tp lo hi (rfs c f s)).2.1 ∧ OkT tp (tkN tp lo hi (rfs c f s)) := by
  have i := tkN_at (lo := lo) (hi := hi) (rfs_ok (c := c) hf h)
  rw [rfs_at] at i
  exact ⟨i, tkN_ok (rfs_ok hf h)⟩
theorem at_NS {tp : List Nat} {s : Tk} {c : Bool} {f lo hi : Nat} (hf : 0 < f ∧ f < 8) (h : OkT tp s) : s.2.1 ≤ (tkS tp (tkN tp lo hi (rfs c f s))).2.1 := by
  obtain ⟨i1, i2⟩ := at_N (c := c) (lo := lo) (hi := hi) hf h
  exact Nat.le_trans i1 (tkS_at i2)
theorem pa_at {tp : List Nat} {s : Tk} (h : OkT tp s) : s.2.1 ≤ (paS tp s).2.1 := by
  have o1 := tkN_ok (lo := 0) (hi := 5) h
  have i1 := tkN_at (lo := 0) (hi := 5) h
  have o2 := tkN_ok (lo := 0) (hi := 5) o1
  have i2 := tkN_at (lo := 0) (hi := 5) o1
  unfold paS paB paA
  exact Nat.le_trans i1 (Nat.le_trans i2 (at_S (by decide) o2))
theorem jo_at {tp : List Nat} {s : Tk} (h : OkT tp s) : s.2.1 ≤ (joS tp s).2.1 := by
  have o1 := tkN_ok (lo := 0) (hi := 15) h
  have i1 := tkN_at (lo := 0) (hi := 15) h
  have o2 := tkN_ok (lo := 0) (hi := 15) o1
  have i2 := tkN_at (lo := 0) (hi := 15) o1
  unfold joS joC joB joA
  generalize tkN tp 0 15 (tkN tp 0 15 s) = b at o2 i2
  generalize tkN tp 0 15 s = a at o1 i1 i2
  obtain ⟨i3, o3⟩ := at_N (tp := tp) (c := decide (vaN 0 b = vaN 0 a)) (f := 4) (lo := 0) (hi := 15) (by decide) o2
  exact Nat.le_trans i1 (Nat.le_trans i2 (Nat.le_trans i3 (at_S (by decide) o3)))
theorem kn_at {tp : List Nat} {s : Tk} {D : Dr} (h : OkT tp s) : s.2.1 ≤ (knS tp s D).2.1 := by
  have o1 := tkN_ok (lo := 0) (hi := 5) h
  have i1 := tkN_at (lo := 0) (hi := 5) h
  unfold knS knE
  rw [rfs_at]
  have k : OkT tp (knC tp s D) ∧ s.2.1 ≤ (knC tp s D).2.1 := by
    unfold knC knB knA
    obtain ⟨i3, o3⟩ := at_N (tp := tp) (c := D.kn.testBit (vaN 0 (tkN tp 0 5 s))) (f := 4) (lo := 0) (hi := 15) (by decide) o1
    exact ⟨o3, Nat.le_trans i1 i3⟩
  generalize knC tp s D = c at k
  have o4 : OkT tp (thS [] (vaN 0 c) c) := rfs_ok (by decide) (rfs_ok (by decide) k.1)
  have e4 : (thS [] (vaN 0 c) c).2 = c.2 := by unfold thS; rw [rfs_at, rfs_at]
  have i5 := (rdX_at o4).1
  rw [e4] at i5
  exact Nat.le_trans k.2 (Nat.le_trans i5 (rwL_at 9 (thL [] (vaN 0 c)) _ (rdX_ok o4)).1)
theorem lnS_at {tp : List Nat} {s : Tk} {D : Dr} (h : OkT tp s) : s.2.1 ≤ (lnS tp s D).2.1 := by
  have hr : ∀ f, s.2.1 ≤ (rfs true f s).2.1 := fun f => by rw [rfs_at]; exact Nat.le_refl _
  unfold lnS
  split
  · split
    · unfold peoS; exact at_NS (by decide) h
    · unfold holS; exact at_NS (by decide) h
    · exact kn_at h
    · split
      · exact jo_at h
      · exact hr 5
    · split
      · exact pa_at h
      · exact hr 5
    · split
      · exact pa_at h
      · exact hr 5
    · unfold gloS
      exact Nat.le_trans (tkN_at (lo := 0) (hi := 5) h) (at_S (by decide) (tkN_ok h))
    · exact hr 2
  · exact hr 2
theorem rwL_0 {tp : List Nat} {k : Nat} {l : List Nat} {s : Tk} (h : (rwL tp k l s).2.1 = 0) : s.1 = 0 := by
  by_cases q : s.1 = 0
  · exact q
  · rw [rwL_bad q] at h
    exact absurd h q
theorem rwL_ro {tp : List Nat} : ∀ k l (s : Tk), Ro l → l.length ≤ 9 → Ro (rwL tp k l s).1 ∧ (rwL tp k l s).1.length ≤ 9
  | 0, l, s, h1, h2 => ⟨h1, h2⟩
  | k + 1, l, s, h1, h2 => by
    unfold rwL
    split
    · obtain ⟨z1, z2⟩ := thL_ok (t := vaN 0 (bd15 s)) h1 h2 (by have := bd15_le s; omega)
      exact rwL_ro k _ _ z1 z2
    · exact ⟨h1, h2⟩
theorem GD.pa {tp : List Nat} {s : Tk} {D : Dr} (h : GD D) (h0 : (paS tp s).1 = 0) : GD (paH tp s D) ∧ paV tp s < 15 ∧ gre (paV tp s) ≤ (paH tp s D).hi := by
  have va : vaN 0 (paA tp s) ≤ 5 := (vaN_le (tp := tp) (s := s) (show 0 ≤ 5 by decide)).2
  have vb : vaN 0 (paB tp s) ≤ 5 := (vaN_le (tp := tp) (s := paA tp s) (show 0 ≤ 5 by decide)).2
  have e3 := paS_0 h0
  have ev : paV tp s = prN (vaN 0 (paA tp s)) (vaN 0 (paB tp s)) := if_pos h0
  obtain ⟨p1, p2, p3⟩ := pr_ok (vaN 0 (paA tp s)) (by omega) (vaN 0 (paB tp s)) (by omega) (fun q => e3 q.symm)
  refine ⟨h.hi' (m := max (vaN 0 (paA tp s)) (vaN 0 (paB tp s))) (by omega), by rw [ev]; exact p1, ?_⟩
  rw [ev, p3]
  show max _ _ ≤ max D.hi (max (vaN 0 (paA tp s)) (vaN 0 (paB tp s)))
  omega
theorem jo_0 {tp : List Nat} {s : Tk} (h : (joS tp s).1 = 0) : (vaN 0 (joC tp s) ≠ vaN 0 (joA tp s) ∧ vaN 0 (joC tp s) ≠ vaN 0 (joB tp s)) ∧ vaN 0 (joB tp s) ≠ vaN 0 (joA tp s) := by
  have c0 : (joC tp s).1 = 0 ∧ ¬ (vaN 0 (joC tp s) = vaN 0 (joA tp s) ∨ vaN 0 (joC tp s) = vaN 0 (joB tp s)) := by
    unfold joS at h
    generalize joC tp s = c at h ⊢
    generalize joB tp s = b at h ⊢
    generalize joA tp s = a at h ⊢
    have e := rfs_0 (by decide) (tkS_0 h).1
    exact ⟨e.1, of_decide_eq_false e.2.1⟩
  have b0 : vaN 0 (joB tp s) ≠ vaN 0 (joA tp s) := by
    have h := c0.1
    unfold joC at h
    generalize joB tp s = b at h ⊢
    generalize joA tp s = a at h ⊢
    have e := rd_0 (tkN_0 h).1
    exact of_decide_eq_false (rfs_0 (by decide) e).2.1
  exact ⟨⟨fun q => c0.2 (Or.inl q), fun q => c0.2 (Or.inr q)⟩, b0⟩
theorem kn_0 {tp : List Nat} {s : Tk} {D : Dr} (h : (knS tp s D).1 = 0) : D.kn.testBit (vaN 0 (knA tp s)) = false := by
  unfold knS at h
  have a1 : (knE tp s D).2.1 = 0 := by
    generalize knE tp s D = e at h ⊢
    exact (rfs_0 (by decide) h).1
  unfold knE at a1
  have a2 : (knC tp s D).1 = 0 := by
    generalize knC tp s D = c at a1 ⊢
    have e := rd_0 (rwL_0 a1)
    unfold thS at e
    exact (rfs_0 (by decide) (rfs_0 (by decide) e).1).1
  unfold knC at a2
  have a3 : (knB tp s D).1 = 0 := by
    generalize knB tp s D = c at a2 ⊢
    exact rd_0 (tkN_0 a2).1
  unfold knB at a3
  generalize knA tp s = a at a3 ⊢
  exact (rfs_0 (by decide) a3).2.1
theorem joi_G {D : Dr} (h : GD D) {x y z : Nat} (hx : x ≤ 15) (hy : y ≤ 15) (hz : z ≤ 15) (h1 : z ≠ x) (h2 : z ≠ y) (h3 : y ≠ x) (hj : D.R.2.2.1.length < 4) : GD ((D.R.1, D.R.2.1, D.R.2.2.1 ++ [(x, y, z)], D.R.2.2.2), D.2) := h.joi (q := (x, y, z)) ⟨by show x < 16; omega, by show y < 16; omega, by show z < 16; omega, fun q => h3 q.symm, fun q => h1 q.symm, fun q => h2 q.symm⟩ hj
theorem GD.line {tp : List Nat} {s : Tk} {D : Dr} (h : GD D) (h0 : (lnS tp s D).1 = 0) : GD (lnD tp s D) := by
  unfold lnS at h0
  unfold lnD
  by_cases e1 : s.2.2.1 = 1
  · rw [if_pos e1] at h0 ⊢
    generalize nmI tp s.2.2.2.1 s.2.1 = k at h0 ⊢
    match k with
    | 0 =>
      obtain ⟨v1, v2⟩ := vaN_le (tp := tp) (s := rfs (decide (D.pT ≠ 0)) 4 s) (lo := 2) (hi := 6) (by decide)
      exact h.peo v1 v2
    | 1 =>
      obtain ⟨v1, v2⟩ := vaN_le (tp := tp) (s := rfs (decide (D.hT ≠ 0)) 4 s) (lo := 1) (hi := 9) (by decide)
      exact h.hol v1 v2
    | 2 =>
      have h0 : (knS tp s D).1 = 0 := h0
      have r0 : Ro ([] : List Nat) := ⟨List.nodup_nil, fun t q => absurd q List.not_mem_nil⟩
      have hp : vaN 0 (knA tp s) ≤ 5 := (vaN_le (tp := tp) (s := s) (show 0 ≤ 5 by decide)).2
      have hc : vaN 0 (knC tp s D) ≤ 15 := (vaN_le (tp := tp) (s := knB tp s D) (show 0 ≤ 15 by decide)).2
      have a5 := kn_0 h0
      obtain ⟨b1, b2⟩ := thL_ok (t := vaN 0 (knC tp s D)) r0 (by decide) (by omega)
      obtain ⟨c1, c2⟩ := rwL_ro (tp := tp) 9 _ (rdX tp (thS [] (vaN 0 (knC tp s D)) (knC tp s D))) b1 b2
      exact h.row hp a5 c1 c2
    | 3 =>
      by_cases hj : D.R.2.2.1.length < 4
      · have h0 : (if D.R.2.2.1.length < 4 then joS tp s else rfs true 5 s).1 = 0 := h0
        show GD (if D.R.2.2.1.length < 4 then joD tp s D else D)
        rw [if_pos hj] at h0 ⊢
        have va : vaN 0 (joA tp s) ≤ 15 := (vaN_le (tp := tp) (s := s) (show 0 ≤ 15 by decide)).2
        have vb : vaN 0 (joB tp s) ≤ 15 := (vaN_le (tp := tp) (s := joA tp s) (show 0 ≤ 15 by decide)).2
        have vc : vaN 0 (joC tp s) ≤ 15 := (vaN_le (tp := tp) (s := rfs (decide (vaN 0 (joB tp s) = vaN 0 (joA tp s))) 4 (joB tp s)) (show 0 ≤ 15 by decide)).2
        obtain ⟨⟨j1, j2⟩, j3⟩ := jo_0 h0
        unfold joD
        generalize vaN 0 (joA tp s) = x at *
        generalize vaN 0 (joB tp s) = y at *
        generalize vaN 0 (joC tp s) = z at *
        exact joi_G h va vb vc j1 j2 j3 hj
      · show GD (if D.R.2.2.1.length < 4 then joD tp s D else D)
        rw [if_neg hj]; exact h
    | 4 =>
      by_cases hj : D.R.2.2.2.1.length < 16
      · have h0 : (if D.R.2.2.2.1.length < 16 then paS tp s else rfs true 5 s).1 = 0 := h0
        show GD (if D.R.2.2.2.1.length < 16 then haD tp s D else D)
        rw [if_pos hj] at h0 ⊢
        obtain ⟨g1, g2⟩ := h.pa h0
        exact g1.han g2 hj
      · show GD (if D.R.2.2.2.1.length < 16 then haD tp s D else D)
        rw [if_neg hj]; exact h
    | 5 =>
      by_cases hj : D.R.2.2.2.2.length < 8
      · have h0 : (if D.R.2.2.2.2.length < 8 then paS tp s else rfs true 5 s).1 = 0 := h0
        show GD (if D.R.2.2.2.2.length < 8 then daD tp s D else D)
        rw [if_pos hj] at h0 ⊢
        obtain ⟨g1, g2⟩ := h.pa h0
        exact g1.day g2 hj
      · show GD (if D.R.2.2.2.2.length < 8 then daD tp s D else D)
        rw [if_neg hj]; exact h
    | 6 => exact h.glo (vaN_le (tp := tp) (s := s) (show 0 ≤ 5 by decide)).2
    | k + 7 => exact h
  · rw [if_neg e1]; exact h
def LE (tp : List Nat) (X Y X' Y' : Mem) (s' : Tk) (t' : Tm) : Prop := XTp X' tp ∧ XT X' s' ∧ s'.1 < 8 ∧ MTp Y' tp ∧ OkM tp t' ∧ MT Y' t' ∧ QT s' t' ∧ (s'.1 = 0 → ∃ D', XD X' D' ∧ YD Y' D' ∧ GD D') ∧ Fr xd X X' ∧ Fr yd Y Y'
theorem text_loop (n : Nat) (hn : 400 ≤ n) (kx ky : Int32 → Mem → Option (Int32 × Mem)) {tp : List Nat} (hL : tp.length ≤ 320) : ∀ m v f g X Y s t D, tp.length ≤ s.2.1 + m → m + 1 < f → m + 1 < g → v ≤ s.2.1 → s.1 = 0 → (XTp X tp ∧ s.2.1 ≤ tp.length ∧ XT X s ∧ XD X D) → GD D → YW Y tp t D → QT (rdX tp s) t → ∃ X' Y' s' t' v', X_Teller_tell_L6 n kx f (nI v) X = kx (nI v') X' ∧ X_Model_text_L20 n ky g (nI v) Y = ky (nI v') Y' ∧ LE tp X Y X' Y' s' t' := by
  intro m
  induction m with
  | zero =>
    intro v f g X Y s t D h1 h2 h3 h4 h5 hX hG hY hQ
    obtain ⟨f, rfl⟩ : ∃ q, f = q + 1 := ⟨f - 1, by omega⟩
    obtain ⟨g, rfl⟩ : ∃ q, g = q + 1 := ⟨g - 1, by omega⟩
    obtain ⟨X1, a1, a2, a3⟩ := x_readToken n hn hX.1 (by rw [h5]; decide) hX.2.1 hX.2.2.1
    have hat := hX.2.1
    have hra := rdX_at0 hat
    have hok := rdX_ok0 h5 hat
    have hq8 := (QT_8 (tp := tp) hQ).1
    have xT : XTp X1 tp := hX.1.dr (xt_xd a3)
    have xD : XD X1 D := hX.2.2.2.tk a3
    refine ⟨X1, Y, rdX tp s, t, v, ?_, ?_, xT, a2, hq8, hY.1, hY.2.1, hY.2.2.1, hQ, fun q => ⟨D, xD, (hY.2.2.2 ((Q_0 hQ).mp q)).1, hG⟩, xt_xd a3, Fr.rf⟩
    · show (if (X.1 1 1) < nI v then kx (nI v) X else bd (X_Teller_readToken n X) fun _ M4 => (if (M4.1 3 3) = 0 then (if (M4.1 3 7) = 0 then kx (nI v) M4 else _) else kx (nI v) M4)) = _
      rw [hX.1.1, if_neg (Int32.not_lt.mpr (nI_le (by omega) (by omega))), a1, bd_ret, a2.1, a2.2.2.1]
      by_cases e0 : (rdX tp s).1 = 0
      · have ek : (rdX tp s).2.2.1 = 0 := by
          by_cases q : (rdX tp s).2.2.1 = 0
          · exact q
          · have := hra.2.2 h5 e0 q
            have := (hok e0).2.1
            omega
        rw [if_pos (show nI (rdX tp s).1 = 0 by rw [e0]; rfl), if_pos (show nI (rdX tp s).2.2.1 = 0 by rw [ek]; rfl)]
      · rw [if_neg (fun q => e0 ((i_z (by omega)).mp q))]
    · show (if (Y.1 0 31) = 0 then (if (Y.1 0 29) = 0 then ky (nI v) Y else _) else ky (nI v) Y) = _
      rw [hY.2.2.1.1, hY.2.2.1.2.2.2.2.1]
      by_cases e0 : t.1 = 0
      · have ek : t.2.2.2.2.1 = 0 := by
          rcases hQ with hQ | hQ
          · by_cases q : (rdX tp s).2.2.1 = 0
            · rw [← hQ.2.2.2.1]; exact q
            · have := hra.2.2 h5 hQ.1 q
              have := (hok hQ.1).2.1
              omega
          · exact absurd e0 hQ.2.1
        rw [if_pos (show nI t.1 = 0 by rw [e0]; rfl), if_pos (show nI t.2.2.2.2.1 = 0 by rw [ek]; rfl)]
      · rw [if_neg (fun q => e0 ((i_z (by have := hY.2.1.1; omega)).mp q))]
  | succ m ih =>
    intro v f g X Y s t D h1 h2 h3 h4 h5 hX hG hY hQ
    obtain ⟨f, rfl⟩ : ∃ q, f = q + 1 := ⟨f - 1, by omega⟩
    obtain ⟨g, rfl⟩ : ∃ q, g = q + 1 := ⟨g - 1, by omega⟩
    obtain ⟨X1, a1, a2, a3⟩ := x_readToken n hn hX.1 (by rw [h5]; decide) hX.2.1 hX.2.2.1
    have hat := hX.2.1
    have hra := rdX_at0 hat
    have hok := rdX_ok0 h5 hat
    have hq8 := (QT_8 (tp := tp) hQ).1
    have xT : XTp X1 tp := hX.1.dr (xt_xd a3)
    have xD : XD X1 D := hX.2.2.2.tk a3
    have unx : X_Teller_tell_L6 n kx (f + 1) (nI v) X = (if nI (rdX tp s).1 = 0 then (if nI (rdX tp s).2.2.1 = 0 then kx (nI v) X1 else bd (X_Teller_tellLine n X1) fun _ M6 => X_Teller_tell_L6 n kx f (nI (v + 1)) M6) else kx (nI v) X1) := by
      show (if (X.1 1 1) < nI v then kx (nI v) X else bd (X_Teller_readToken n X) fun _ M4 => (if (M4.1 3 3) = 0 then (if (M4.1 3 7) = 0 then kx (nI v) M4 else bd (X_Teller_tellLine n M4) fun _ M6 => X_Teller_tell_L6 n kx f (nI v + 1) M6) else kx (nI v) M4)) = _
      rw [hX.1.1, if_neg (Int32.not_lt.mpr (nI_le (by omega) (by omega))), a1, bd_ret, a2.1, a2.2.2.1, nI_1]
    have uny : X_Model_text_L20 n ky (g + 1) (nI v) Y = (if nI t.1 = 0 then (if nI t.2.2.2.2.1 = 0 then ky (nI v) Y else bd (X_Model_readLine n Y) fun _ M7 => X_Model_text_L20 n ky g (nI (v + 1)) M7) else ky (nI v) Y) := by
      show (if (Y.1 0 31) = 0 then (if (Y.1 0 29) = 0 then ky (nI v) Y else bd (X_Model_readLine n Y) fun _ M7 => X_Model_text_L20 n ky g (nI v + 1) M7) else ky (nI v) Y) = _
      rw [hY.2.2.1.1, hY.2.2.1.2.2.2.2.1, nI_1]
    have stop : ∀ (hx : X_Teller_tell_L6 n kx (f + 1) (nI v) X = kx (nI v) X1) (hy : X_Model_text_L20 n ky (g + 1) (nI v) Y = ky (nI v) Y), ∃ X' Y' s' t' v', X_Teller_tell_L6 n kx (f + 1) (nI v) X = kx (nI v') X' ∧ X_Model_text_L20 n ky (g + 1) (nI v) Y = ky (nI v') Y' ∧ LE tp X Y X' Y' s' t' := fun hx hy => ⟨X1, Y, rdX tp s, t, v, hx, hy, xT, a2, hq8, hY.1, hY.2.1, hY.2.2.1, hQ, fun q => ⟨D, xD, (hY.2.2.2 ((Q_0 hQ).mp q)).1, hG⟩, xt_xd a3, Fr.rf⟩
    by_cases e0 : (rdX tp s).1 = 0
    · have hok := hok e0
      have a2 : XS X1 tp (rdX tp s) D := ⟨xT, hok, a2, xD⟩
      have t0 := (Q_0 hQ).mp e0
      have hQok : Qok (rdX tp s) t := by
        rcases hQ with q | q
        · exact q
        · exact absurd t0 q.2.1
      rw [if_pos (show nI (rdX tp s).1 = 0 by rw [e0]; rfl)] at unx
      rw [if_pos (show nI t.1 = 0 by rw [t0]; rfl)] at uny
      by_cases ek : (rdX tp s).2.2.1 = 0
      · rw [if_pos (show nI (rdX tp s).2.2.1 = 0 by rw [ek]; rfl)] at unx
        rw [if_pos (show nI t.2.2.2.2.1 = 0 by rw [← hQok.2.2.2.1, ek]; rfl)] at uny
        exact stop unx uny
      · rw [if_neg (fun q => ek ((i_z (by have := hok.2.2.2; omega)).mp q))] at unx
        rw [if_neg (fun q => ek ((i_z (by have := hok.2.2.2; omega)).mp (by rw [hQok.2.2.2.1]; exact q)))] at uny
        obtain ⟨X6, b1, b2, b3⟩ := x_line n hn hG.v.1 a2 (hra.2.1 h5)
        have hYS : YS Y tp t D := ⟨hY.1, hY.2.1, hY.2.2.1, hY.2.2.2 t0⟩
        obtain ⟨Y7, t7, c1, c2, c3, c4⟩ := m_line n hn hG.v hYS hQok hok (hra.2.1 h5)
        rw [b1, bd_ret] at unx
        rw [c1, bd_ret] at uny
        have lt := hra.2.2 h5 e0 ek
        have la := lnS_at (D := D) hok
        have fx := (xt_xd a3).trans b3
        by_cases l0 : (lnS tp (rdX tp s) D).1 = 0
        · obtain ⟨X', Y', s', t', v', g1, g2, g3⟩ := ih (v + 1) f g X6 Y7 (lnS tp (rdX tp s) D) t7 (lnD tp (rdX tp s) D) (by omega) (by omega) (by omega) (by omega) l0 ⟨b2.1, b2.2.1.2.1, b2.2.2⟩ (hG.line l0) c2 c3
          obtain ⟨i1, i2, i3, i4, i5, i6, i7, i8, i9, i10'⟩ := g3
          exact ⟨X', Y', s', t', v', unx.trans g1, uny.trans g2, i1, i2, i3, i4, i5, i6, i7, i8, fx.trans i9, c4.trans i10'⟩
        · -- a fault in the line: both stop ahead of the next
          obtain ⟨f, rfl⟩ : ∃ q, f = q + 1 := ⟨f - 1, by omega⟩
          obtain ⟨g, rfl⟩ : ∃ q, g = q + 1 := ⟨g - 1, by omega⟩
          rw [rdX_bad l0] at c3
          have t7b : t7.1 ≠ 0 := fun q => l0 ((Q_0 c3).mpr q)
          have e6 : (X6.1 3 3) ≠ 0 := fun q => l0 ((i_z (by have := b2.2.1.1; omega)).mp (b2.2.2.1.1.symm.trans q))
          have ux2 : X_Teller_tell_L6 n kx (f + 1) (nI (v + 1)) X6 = kx (nI (v + 1)) X6 := by
            show (if (X6.1 1 1) < nI (v + 1) then kx (nI (v + 1)) X6 else bd (X_Teller_readToken n X6) fun _ M4 => (if (M4.1 3 3) = 0 then (if (M4.1 3 7) = 0 then kx (nI (v + 1)) M4 else _) else kx (nI (v + 1)) M4)) = _
            have rt : X_Teller_readToken n X6 = some ((), X6) := by
              unfold X_Teller_readToken
              rw [if_neg e6]
            rw [rt, bd_ret, if_neg e6]
            split <;> rfl
          have uy2 : X_Model_text_L20 n ky (g + 1) (nI (v + 1)) Y7 = ky (nI (v + 1)) Y7 := by
            show (if (Y7.1 0 31) = 0 then _ else ky (nI (v + 1)) Y7) = _
            rw [c2.2.2.1.1, if_neg (fun q => t7b ((i_z (by have := c2.2.1.1; omega)).mp q))]
          exact ⟨X6, Y7, lnS tp (rdX tp s) D, t7, v + 1, unx.trans ux2, uny.trans uy2, b2.1, b2.2.2.1, b2.2.1.1, c2.1, c2.2.1, c2.2.2.1, c3, fun q => absurd q l0, fx, c4⟩
    · have t0 : t.1 ≠ 0 := fun q => e0 ((Q_0 hQ).mpr q)
      rw [if_neg (fun q => e0 ((i_z (by omega)).mp q))] at unx
      rw [if_neg (fun q => t0 ((i_z (by have := hY.2.1.1; omega)).mp q))] at uny
      exact stop unx uny
theorem rdM_ok0 {tp : List Nat} {t : Tm} (e : t.1 = 0) (h : t.2.2.1 ≤ tp.length) : OkM tp (rdM tp t) := by
  have key : rdM tp t = rdM tp (0, t.2.1, t.2.2.1, 0, 0, t.2.2.2.2.2) := by
    unfold rdM
    rw [if_pos e, if_pos (show ((0, t.2.1, t.2.2.1, 0, 0, t.2.2.2.2.2) : Tm).1 = 0 from rfl)]
  rw [key]
  exact rdM_ok ⟨by show 0 < 8; decide, h, fun _ (q : 0 = 2) => absurd q (by decide), by show 0 < 4; decide⟩
end
section
/-! CALLS: text -/
def D0 : Dr := (R0, fun _ => [], 0, 0, 0, 0, 0, 0)
theorem D0_ok : GD D0 := ⟨⟨by decide, by decide, by decide, by decide⟩, ⟨by decide, fun q h => absurd h List.not_mem_nil⟩, ⟨by decide, fun q h => absurd h List.not_mem_nil⟩, ⟨by decide, fun q h => absurd h List.not_mem_nil⟩, ⟨fun p => ⟨⟨List.nodup_nil, fun t h => absurd h List.not_mem_nil⟩, Nat.zero_le _⟩, fun _ _ => rfl, fun _ => Nat.le_refl _, Or.inl rfl⟩, ⟨by decide, fun p h => absurd (show (0 : Nat).testBit p = true from h) (by simp)⟩, ⟨by decide, fun p h => absurd (show (0 : Nat).testBit p = true from h) (by simp)⟩, by decide, by decide, by decide, by decide⟩
theorem any_nI (x : Int32) : ∃ k, x = nI k := ⟨x.toBitVec.toNat, i32_ext (by rw [nI_bv]; simp)⟩
theorem x_begin9 (n : Nat) (kx : Mem → Option (Unit × Mem)) : ∀ d i f M, i + d = 6 → d < f → (∀ p, p < i → M.2 9 p = 0) → ∃ M', X_Teller_begin_L9 n kx f (nI i) M = kx M' ∧ Fr (fun c _ => c = 9) M M' ∧ ∀ p, p < 6 → M'.2 9 p = 0
  | 0, i, f, M, h1, h2, h3 => by
    obtain ⟨f, rfl⟩ : ∃ q, f = q + 1 := ⟨f - 1, by omega⟩
    have : i = 6 := by omega
    subst this
    refine ⟨M, ?_, Fr.rf, h3⟩
    show (if (6 : Int32) ≤ nI 6 then kx M else _) = _
    rw [if_pos (by decide)]
  | d + 1, i, f, M, h1, h2, h3 => by
    obtain ⟨f, rfl⟩ : ∃ q, f = q + 1 := ⟨f - 1, by omega⟩
    obtain ⟨M', a1, a2, a3⟩ := x_begin9 n kx d (i + 1) f (sl M 9 i 0) (by omega) (by omega) (fun p hp => by
      show (if 9 = 9 ∧ p = i then (0 : Int64) else M.2 9 p) = 0
      split
      · rfl
      · rename_i e
        exact h3 p (by omega))
    refine ⟨M', ?_, (Fr.sl (P := fun c _ => c = 9) rfl).trans a2, a3⟩
    rw [← a1]
    show (if (6 : Int32) ≤ nI i then kx M else gd (nI i) 6 (X_Teller_begin_L9 n kx f (nI i + 1) (sl M 9 ((nI i).toNatClampNeg) 0))) = _
    rw [if_neg (show ¬ (6 : Int32) ≤ nI i from nI_ge (b := 6) (by omega) (by decide)), gd_in (vp_in_nI (n := i) (by omega) (by decide)), nI_clamp (by omega), nI_1]
theorem x_begin_t (n : Nat) (hn : 20 ≤ n) (M : Mem) : ∃ M', X_Teller_begin n M = some ((), M') ∧ Fr xd M M' ∧ XD M' D0 ∧ M'.1 3 3 = 0 ∧ M'.1 3 6 = 0 := by
  generalize hN : si (si (si (si (si M 4 0 3) 4 1 9) 4 3 0) 4 5 0) 4 7 0 = N
  have f1 : Fr xd M N := by
    rw [← hN]
    exact ((((Fr.si (by unfold xd; omega)).trans (Fr.si (by unfold xd; omega))).trans (Fr.si (by unfold xd; omega))).trans (Fr.si (by unfold xd; omega))).trans (Fr.si (by unfold xd; omega))
  obtain ⟨K, a1, a2, a3⟩ := x_begin9 n (fun M3 => some ((), si (si (si (si (si (si (si (si M3 3 2 0) 3 3 0) 3 6 0) 3 10 0) 3 11 0) 3 12 0) 3 13 0) 3 14 0)) 6 0 n N rfl (by omega) (fun p hp => absurd hp (Nat.not_lt_zero p))
  have eK : ∀ k, K.1 4 k = N.1 4 k := fun k => (a2 4 k (by decide : ¬ 4 = 9)).1
  have f2 : Fr xd K (si (si (si (si (si (si (si (si K 3 2 0) 3 3 0) 3 6 0) 3 10 0) 3 11 0) 3 12 0) 3 13 0) 3 14 0) := (((((((Fr.si (by unfold xd; omega)).trans (Fr.si (by unfold xd; omega))).trans (Fr.si (by unfold xd; omega))).trans (Fr.si (by unfold xd; omega))).trans (Fr.si (by unfold xd; omega))).trans (Fr.si (by unfold xd; omega))).trans (Fr.si (by unfold xd; omega))).trans (Fr.si (by unfold xd; omega))
  refine ⟨_, ?_, (f1.trans (a2.mono (fun c k q => by unfold xd; omega))).trans f2, ⟨⟨?_, ?_, ?_, ?_, ?_, fun j q h => absurd h (by simp [D0, R0]), fun i h hi => absurd hi (by simp [D0, R0]), fun i h hi => absurd hi (by simp [D0, R0])⟩, fun p hp => ?_, ⟨rfl, rfl, rfl, rfl, rfl, rfl⟩⟩, rfl, rfl⟩
  · unfold X_Teller_begin X_Circle_beAsAtFirst
    rw [bd_ret, hN]
    exact a1
  · show K.1 4 0 = nI 3
    rw [eK, ← hN]; rfl
  · show K.1 4 1 = nI 9
    rw [eK, ← hN]; rfl
  · show K.1 4 3 = nI 0
    rw [eK, ← hN]; rfl
  · show K.1 4 5 = nI 0
    rw [eK, ← hN]; rfl
  · show K.1 4 7 = nI 0
    rw [eK, ← hN]; rfl
  · show K.2 9 p = enc []
    rw [enc_nil]
    exact a3 p hp
def hc (W : WW) (H : Nat) : Nat → Bool
  | 0 => true
  | d + 1 => decide ((W (6 - (d + 1))).length ≤ H) && hc W H d
theorem hc_iff (W : WW) (H : Nat) : ∀ d, d ≤ 6 → (hc W H d = true ↔ ∀ p, 6 - d ≤ p → p < 6 → (W p).length ≤ H)
  | 0, _ => ⟨fun _ p h1 h2 => by omega, fun _ => rfl⟩
  | d + 1, hd => by
    unfold hc
    rw [Bool.and_eq_true, decide_eq_true_iff, hc_iff W H d (by omega)]
    constructor
    · intro ⟨a, b⟩ p h1 h2
      by_cases e : p = 6 - (d + 1)
      · rw [e]; exact a
      · exact b p (by omega) h2
    · intro h
      exact ⟨h _ (Nat.le_refl _) (by omega), fun p h1 h2 => h p (by omega) h2⟩
theorem m_held (n : Nat) {M : Mem} {W : WW} {H : Nat} (hW : OkW W) (hH : H < 100) (h13 : M.1 0 13 = nI H) (hL : LyM M 11 0 W) : ∀ d f b, d ≤ 6 → d < f → X_Model_isHeld_L4 n M f (if b = true then 1 else 0) (nI (6 - d)) = some (if (b && hc W H d) = true then 1 else 0, M)
  | 0, f, b, h1, h2 => by
    obtain ⟨f, rfl⟩ : ∃ q, f = q + 1 := ⟨f - 1, by omega⟩
    show (if (6 : Int32) ≤ nI 6 then zr (if b = true then 1 else 0) M else _) = _
    rw [if_pos (by decide), zr_b]
    cases b <;> rfl
  | d + 1, f, b, h1, h2 => by
    obtain ⟨f, rfl⟩ : ∃ q, f = q + 1 := ⟨f - 1, by omega⟩
    have hp : 6 - (d + 1) < 6 := by omega
    have hl := (hL (6 - (d + 1)) hp).1
    have h9 := (hW (6 - (d + 1))).2
    rw [show 0 + 10 * (6 - (d + 1)) = 10 * (6 - (d + 1)) by omega] at hl
    have e6 : nI (6 - (d + 1)) + 1 = nI (6 - d) := by rw [nI_1, show 6 - (d + 1) + 1 = 6 - d by omega]
    show (if (6 : Int32) ≤ nI (6 - (d + 1)) then zr (if b = true then 1 else 0) M else nm (fun (u1 : Int32) => (X_Model_isHeld_L4 n M f u1 (nI (6 - (d + 1)) + 1) : Option (Int32 × Mem))) fun k35 => (if (if b = true then (1 : Int32) else 0) = 0 then k35 0 else gd ((10 : Int32) * nI (6 - (d + 1))) 60 (if (M.1 0 13) < (M.1 11 ((10 : Int32) * nI (6 - (d + 1))).toNatClampNeg) then k35 0 else k35 1))) = _
    rw [if_neg (show ¬ (6 : Int32) ≤ nI (6 - (d + 1)) from nI_ge (b := 6) hp (by decide)), nm_eq, e6]
    dsimp only
    unfold hc
    have k0 := m_held n hW hH h13 hL d f false (by omega) (by omega)
    have k1 := m_held n hW hH h13 hL d f true (by omega) (by omega)
    cases b with
    | false =>
      rw [if_pos (show (if false = true then (1 : Int32) else 0) = 0 from rfl), Bool.false_and]
      exact k0
    | true =>
      rw [if_neg (show ¬ (if true = true then (1 : Int32) else 0) = 0 by decide), show (10 : Int32) = nI 10 from rfl, pk_mul, gd_in (vp_in_nI (n := 10 * (6 - (d + 1))) (by omega) (by decide)), nI_clamp (by omega), hl, h13, Bool.true_and]
      by_cases e : (W (6 - (d + 1))).length ≤ H
      · rw [if_neg (Int32.not_lt.mpr (nI_le e (by omega))), decide_eq_true e]
        exact k1
      · rw [if_pos (nI_lt (by omega) (by omega)), decide_eq_false e, Bool.false_and]
        exact k0
theorem held_lg {D : Dr} (h : GD D) : hc D.W D.R.2.1 6 = true ↔ D.lg ≤ D.R.2.1 := by
  rw [hc_iff _ _ 6 (by omega)]
  constructor
  · intro a
    rcases h.2.2.2.2.1.2.2.2 with e | ⟨p, e⟩
    · omega
    · by_cases hp : p < 6
      · have := a p (by omega) hp
        omega
      · have h7 := h.2.2.2.2.2.2.1
        have : D.W p = [] := h.2.2.2.2.1.2.1 p (by
          cases q : D.kn.testBit p with
          | false => rfl
          | true => have := h7.2 p q; have := h.2.2.2.2.2.2.2.1; omega)
        rw [this, List.length_nil] at e
        omega
  · intro a p _ _
    have := h.2.2.2.2.1.2.2.1 p
    omega
theorem x_copy_t (n : Nat) {M : Mem} {R : Rl} (h : XD4 M R) (h1 : R.2.2.1.length ≤ 4) (h2 : R.2.2.2.1.length ≤ 16) (h3 : R.2.2.2.2.length ≤ 8) : ∃ M', X_Circle_copy n M = some ((), M') ∧ Fr (fun c _ => 11 ≤ c ∧ c ≤ 14) M M' ∧ XC M' R := by
  obtain ⟨a1, a2, a3, a4, a5, a6, a7, a8⟩ := h
  generalize hN : si (si (si (si (si M 11 0 (M.1 4 0)) 11 1 (M.1 4 1)) 11 3 (M.1 4 3)) 11 5 (M.1 4 5)) 11 7 (M.1 4 7) = N
  have fN : Fr (fun c _ => c = 11) M N := by
    rw [← hN]
    exact ((((Fr.si (P := fun c _ => c = 11) rfl).trans (Fr.si (P := fun c _ => c = 11) rfl)).trans (Fr.si (P := fun c _ => c = 11) rfl)).trans (Fr.si (P := fun c _ => c = 11) rfl)).trans (Fr.si (P := fun c _ => c = 11) rfl)
  have un : X_Circle_copy n M = some ((), cpI (cpI (cpI N 5 0 12 0 12) 6 0 13 0 16) 7 0 14 0 8) := by
    rw [← hN]
    rfl
  have f3 : Fr (fun c _ => 11 ≤ c ∧ c ≤ 14) M (cpI (cpI (cpI N 5 0 12 0 12) 6 0 13 0 16) 7 0 14 0 8) := (((fN.mono (fun c k q => by omega)).trans (Fr.cpI (fun _ _ _ => ⟨by decide, by decide⟩))).trans (Fr.cpI (fun _ _ _ => ⟨by decide, by decide⟩))).trans (Fr.cpI (fun _ _ _ => ⟨by decide, by decide⟩))
  have e12 : ∀ k, k < 12 → (cpI (cpI (cpI N 5 0 12 0 12) 6 0 13 0 16) 7 0 14 0 8).1 12 k = M.1 5 k := fun k hk => by
    show (cpI N 5 0 12 0 12).1 12 k = _
    have := cpI_at (M := N) (a := 5) (sp := 0) (b := 12) (dp := 0) hk
    rw [Nat.zero_add] at this
    rw [this, (fN 5 k (by decide : ¬ 5 = 11)).1]
  have e13 : ∀ k, k < 16 → (cpI (cpI (cpI N 5 0 12 0 12) 6 0 13 0 16) 7 0 14 0 8).1 13 k = M.1 6 k := fun k hk => by
    show (cpI (cpI N 5 0 12 0 12) 6 0 13 0 16).1 13 k = _
    have := cpI_at (M := cpI N 5 0 12 0 12) (a := 6) (sp := 0) (b := 13) (dp := 0) hk
    rw [Nat.zero_add] at this
    rw [this]
    show N.1 6 k = _
    rw [(fN 6 k (by decide : ¬ 6 = 11)).1]
  have e14 : ∀ k, k < 8 → (cpI (cpI (cpI N 5 0 12 0 12) 6 0 13 0 16) 7 0 14 0 8).1 14 k = M.1 7 k := fun k hk => by
    have := cpI_at (M := cpI (cpI N 5 0 12 0 12) 6 0 13 0 16) (a := 7) (sp := 0) (b := 14) (dp := 0) hk
    rw [Nat.zero_add] at this
    rw [this]
    show N.1 7 k = _
    rw [(fN 7 k (by decide : ¬ 7 = 11)).1]
  refine ⟨_, un, f3, ?_, ?_, ?_, ?_, ?_, fun j q hq => ?_, fun i x hi => ?_, fun i x hi => ?_⟩
  · show N.1 11 0 = _
    rw [← hN]; exact a1
  · show N.1 11 1 = _
    rw [← hN]; exact a2
  · show N.1 11 3 = _
    rw [← hN]; exact a3
  · show N.1 11 5 = _
    rw [← hN]; exact a4
  · show N.1 11 7 = _
    rw [← hN]; exact a5
  · have := (List.getElem?_eq_some_iff.mp hq).1
    rw [e12 _ (by omega), e12 _ (by omega), e12 _ (by omega)]
    exact a6 j q hq
  · have := (List.getElem?_eq_some_iff.mp hi).1
    rw [e13 _ (by omega)]
    exact a7 i x hi
  · have := (List.getElem?_eq_some_iff.mp hi).1
    rw [e14 _ (by omega)]
    exact a8 i x hi
theorem sT (f : Nat) (hf : f < 8) (f' : Nat) (hf' : f' < 8) : (f + 8 * f') % 8 = f ∧ (f + 8 * f') / 8 = f' ∧ f + 8 * f' < 64 := by omega
def tS (S : Ab) (f f' : Nat) : Ab := (S.R, S.A, S.I, S.kp, [], f + 8 * f', S.tn, S.sh, S.ce)
theorem tS_ok {S : Ab} (h : Ok S) {f f' : Nat} (hf : f < 8) (hf' : f' < 8) : Ok (tS S f f') := ⟨h.hR, h.hA, h.hI, h.hk, by show (0 : Nat) ≤ 320; decide, fun x hx => absurd hx List.not_mem_nil, (sT f hf f' hf').2.2, h.hn, h.hs⟩
def oL : List Nat := [1, 3, 4, 5, 6, 7, 8, 9, 10]
theorem oL_in {a : Nat} (h : a ∈ oL) : a = 1 ∨ (3 ≤ a ∧ a ≤ 10) := by
  simp only [oL, List.mem_cons, List.not_mem_nil, or_false] at h
  omega
theorem oL_of {a : Nat} (h : a = 1 ∨ (3 ≤ a ∧ a ≤ 10)) : a ∈ oL := by
  simp only [oL, List.mem_cons, List.not_mem_nil, or_false]
  omega
theorem xd_off {M M' : Mem} (h : Fr xd M M') : Off oL M (si M' 1 1 0) := fun a ha => by
  have hx : ∀ k, ¬ xd a k := fun k q => ha (oL_of (by unfold xd at q; omega))
  refine ⟨funext fun k => ?_, funext fun k => (h a k (hx k)).2⟩
  rw [si_ne (Or.inl (fun q => ha (oL_of (Or.inl q)))), (h a k (hx k)).1]
theorem tS_x {M N : Mem} {S : Ab} (hM : XA M S) (ho : Off oL M N) (h1 : N.1 1 1 = 0) {f f' : Nat} (hf : f < 8) (hf' : f' < 8) (h3 : N.1 3 3 = nI f) : XA N (tS S f f') := by
  have no : ∀ a, ¬ (a = 1 ∨ (3 ≤ a ∧ a ≤ 10)) → a ∉ oL := fun a h q => h (oL_in q)
  refine ⟨hM.c.off ho ⟨no _ (by omega), no _ (by omega), no _ (by omega), no _ (by omega)⟩, hM.a.off ho (no _ (by omega)) (no _ (by omega)) (no _ (by omega)), fun k hk hb => (hM.i k hk hb).off ho (no _ (by omega)) (no _ (by omega)) (no _ (by omega)), ?_, ?_, h1, fun i x hi => absurd (show ([] : List Nat)[i]? = some x from hi) (by simp), ?_, fun k hk => (hM.sh k hk).off ho (no _ (by omega)) (no _ (by omega))⟩
  · exact (congrFun (ho 0 (no _ (by omega))).1 9).trans hM.kp
  · exact (congrFun (ho 0 (no _ (by omega))).1 10).trans hM.tn
  · show N.1 3 3 = nI ((f + 8 * f') % 8)
    rw [(sT f hf f' hf').1]
    exact h3
theorem tS_m {M N : Mem} {S : Ab} (hS : Ok S) (hM : MA M S) (ho : Fr yd M N) {f f' : Nat} (hf : f < 8) (hf' : f' < 8) (h3 : N.1 0 31 = nI f') : MA (si N 0 26 0) (tS S f f') := by
  have f1 : Fr (fun c k => yd c k ∨ (c = 0 ∧ k = 26)) M (si N 0 26 0) := (ho.mono (fun c k q => Or.inl q)).trans (Fr.si (Or.inr ⟨rfl, rfl⟩))
  refine ⟨hM.c.fr f1 (fun k hk q => by simp only [List.mem_cons, List.not_mem_nil, or_false] at hk; unfold yd at q; omega) (fun a k ha q => by simp only [List.mem_cons, List.not_mem_nil, or_false] at ha; unfold yd at q; omega), hM.a.fr hS.hA.1 f1 (fun k _ _ q => by unfold yd at q; omega), fun k hk hb => (hM.i k hk hb).fr (hS.hI k hk hb).1 f1 (fun j _ _ q => by unfold yd at q; omega), fun k hk => ?_, ?_, rfl, fun i x hi => absurd (show ([] : List Nat)[i]? = some x from hi) (by simp), ?_, fun k hk => (hM.sh k hk).fr f1 (fun a j _ _ q => by unfold yd at q; omega)⟩
  · rw [(f1 2 k (fun q => by unfold yd at q; omega)).1]; exact hM.kp k hk
  · rw [(f1 0 54 (fun q => by unfold yd at q; omega)).1]; exact hM.tn
  · show N.1 0 31 = nI ((f + 8 * f') / 8)
    rw [(sT f hf f' hf').2.1]
    exact h3
def gS (S : Ab) (D : Dr) : Ab := (D.R, (D.W, D.gl, 0, fun _ => 0), S.I, 0, [], 0, S.tn, S.sh, S.ce)
theorem gS_ok {S : Ab} (h : Ok S) {D : Dr} (hG : GD D) (hh : D.hi < D.R.1) : Ok (gS S D) := by
  obtain ⟨a1, a2, a3, a4, a5, a6, a7, a8, a9, a10, a11⟩ := hG
  refine ⟨⟨a1.1, a1.2.1, a1.2.2.1, a1.2.2.2, a2.1, a2.2, a3.1, fun x hx => ⟨(a3.2 x hx).1, by have := (a3.2 x hx).2; show gre x < D.R.1; omega⟩, a4.1, fun x hx => ⟨(a4.2 x hx).1, by have := (a4.2 x hx).2; show gre x < D.R.1; omega⟩⟩, ⟨a5.1, fun p hp => a5.2.1 p ?_, lt_bits (fun i hi => ?_), Nat.two_pow_pos _, fun _ => by show 0 < 65536; decide⟩, fun k hk hb => absurd (show (0 : Nat).testBit k = true from hb) (by simp), by show 0 < 4; decide, by show 0 ≤ 320; decide, fun x hx => absurd hx List.not_mem_nil, by show 0 < 64; decide, h.hn, h.hs⟩
  · have hp : D.R.1 ≤ p := hp
    cases q : D.kn.testBit p with
    | false => rfl
    | true => have := a7.2 p q; omega
  · have hi : D.R.1 ≤ i := hi
    cases q : D.gl.testBit i with
    | false => exact q
    | true => have := a6.2 i q; omega
theorem text_n (n : Nat) (hn : 400 ≤ n) (Mx Mm : Mem) (hR : Rel Mx Mm) : ∃ r Mx2 Mm2, X_ShakeHands_text n Mx = some (r, Mx2) ∧ X_Model_text n Mm = some (r, Mm2) ∧ Rel Mx2 Mm2 := by
  obtain ⟨S, hS, hx, hm⟩ := hR
  have hL := hS.ht
  -- both begin
  obtain ⟨X0, a1, a2, a3, a4, a5⟩ := x_begin_t n (by omega) Mx
  obtain ⟨k7, e7⟩ := any_nI (X0.1 3 7)
  obtain ⟨k8, e8⟩ := any_nI (X0.1 3 8)
  obtain ⟨k9, e9⟩ := any_nI (X0.1 3 9)
  have xT0 : XTp X0 S.tp := XTp.dr ⟨hx.tl, hx.tb, hL, hS.hb⟩ a2
  have xS0 : XT X0 (0, 0, k7, k8, k9) := ⟨a4, a5, e7, e8, e9⟩
  generalize hN1 : si (si Mm 0 31 0) 0 27 0 = N1
  have f1 : Fr yd Mm N1 := by
    rw [← hN1]
    exact (Fr.si (by unfold yd; omega)).trans (Fr.si (by unfold yd; omega))
  obtain ⟨N3, b1, b2, b3, b4, b5, b6, b7⟩ := m_firstDraft n (by omega) N1
  have f3 : Fr yd N1 N3 := b7.mono (fun c k q => by unfold fd at q; unfold yd; omega)
  have f13 := f1.trans f3
  have mT3 : MTp N3 S.tp := MTp.fr ⟨hm.tl, hm.tb, hL, hS.hb⟩ f13 (fun c k q => by unfold yd at q; omega)
  obtain ⟨j32, i32⟩ := any_nI (N3.1 0 32)
  obtain ⟨j28, i28⟩ := any_nI (N3.1 0 28)
  obtain ⟨j29, i29⟩ := any_nI (N3.1 0 29)
  obtain ⟨j30, i30⟩ := any_nI (N3.1 0 30)
  have mS3 : MT N3 (0, j32, 0, j28, j29, j30) := ⟨by rw [(b7 0 31 (by unfold fd; omega)).1, ← hN1]; rfl, i32, by rw [(b7 0 27 (by unfold fd; omega)).1, ← hN1]; rfl, i28, i29, i30⟩
  have w0 : OkW (fun _ : Nat => ([] : List Nat)) := fun p => ⟨⟨List.nodup_nil, fun t h => absurd h List.not_mem_nil⟩, Nat.zero_le _⟩
  have y3 : YD N3 D0 := ⟨b2, fun p hp => by rw [b5 p hp]; show (0 : Int32) = nI (if (0 : Nat).testBit p then 1 else 0); rw [Nat.zero_testBit]; rfl, b4, b3⟩
  obtain ⟨N5, c1, c2, c3⟩ := m_next n hn mT3 (by show 0 < 8; decide) (Nat.zero_le _) mS3
  have hQ0 : QT (rdX S.tp (0, 0, k7, k8, k9)) (rdM S.tp (0, j32, 0, j28, j29, j30)) := tok_Q rfl rfl rfl
  have yW5 : YW N5 S.tp (rdM S.tp (0, j32, 0, j28, j29, j30)) D0 := ⟨mT3.fr c3 (fun c k q => by unfold mt at q; omega), rdM_ok0 rfl (Nat.zero_le _), c2, fun _ => ⟨y3.mt w0 c3, w0⟩⟩
  generalize hkx : (fun (y7 : Int32) (M8 : Mem) => bd (X_Teller_lookBack n M8) fun _ M10 => (if (M10.1 3 3) = 0 then some (y7, M10) else some ((((-10) : Int32) - (M10.1 3 8)), M10))) = kx
  generalize hky : (fun (y8 : Int32) (M9 : Mem) => nm (fun (M10 : Mem) => (nm (si M10 0 26 0) fun N11 => (if (N11.1 0 31) ≤ 0 then bd (X_Model_keepDraft n N11) fun _ M13 => some (y8, M13) else some ((((-10) : Int32) - (N11.1 0 32)), N11)) : Option (Int32 × Mem))) fun k83 => (if (M9.1 0 31) = 0 then nm (fun (u14 : Int32) => (bd (X_Model_needs n u14 6 M9) fun _ M16 => bd (X_Model_isHeld n M16) fun r17 M18 => bd (X_Model_needs n r17 7 M18) fun _ M20 => k83 M20 : Option (Int32 × Mem))) fun k68 => (if (M9.1 0 12) ≤ (M9.1 0 17) then k68 0 else k68 1) else k83 M9)) = ky
  obtain ⟨X', Y', s', t', v', g1, g2, i1, i2, i3, i4, i5, i6, i7, i8, i9, i10'⟩ := text_loop n hn kx ky hL S.tp.length 0 n n X0 N5 (0, 0, k7, k8, k9) (rdM S.tp (0, j32, 0, j28, j29, j30)) D0 (by omega) (by omega) (by omega) (Nat.zero_le _) rfl ⟨xT0, Nat.zero_le _, xS0, a3⟩ D0_ok yW5 hQ0
  have ux : X_Teller_tell n Mx = kx (nI v') X' := by
    unfold X_Teller_tell
    rw [a1, bd_ret, hkx]
    exact g1
  have uy : X_Model_text n Mm = ky (nI v') Y' := by
    unfold X_Model_text
    rw [nm_eq, hN1, b1, bd_ret, c1, bd_ret, hky]
    exact g2
  have fX := a2.trans i9
  have fY := (f13.trans (mt_yd c3)).trans i10'
  have h8' := i5.1
  -- where both stop
  have bad : ∀ (X2 Y2 : Mem) (s2 : Tk) (t2 : Tm), Qbad s2 t2 → XT X2 s2 → MT Y2 t2 → Fr xd Mx X2 → Fr yd Mm Y2 → (X_Teller_tell n Mx = (if (X2.1 3 3) = 0 then some (nI v', X2) else some ((((-10) : Int32) - (X2.1 3 8)), X2))) → (X_Model_text n Mm = (if ((si Y2 0 26 0).1 0 31) ≤ 0 then bd (X_Model_keepDraft n (si Y2 0 26 0)) fun _ M13 => some (nI v', M13) else some ((((-10) : Int32) - ((si Y2 0 26 0).1 0 32)), si Y2 0 26 0))) → ∃ r Mx2 Mm2, X_ShakeHands_text n Mx = some (r, Mx2) ∧ X_Model_text n Mm = some (r, Mm2) ∧ Rel Mx2 Mm2 := by
    intro X2 Y2 s2 t2 q1 q2 q3 q4 q5 q6 q7
    have n1 : ¬ nI s2.1 = 0 := fun q => q1.1 ((i_z (by have := q1.2.2.1; omega)).mp q)
    have n2 : ¬ nI t2.1 ≤ 0 := nI_ge (a := 0) (by have := q1.2.1; omega) (by have := q1.2.2.2.1; omega)
    rw [q2.1, if_neg n1, q2.2.2.2.1] at q6
    have e31 : (si Y2 0 26 0).1 0 31 = nI t2.1 := q3.1
    have e32 : (si Y2 0 26 0).1 0 32 = nI t2.2.1 := q3.2.1
    rw [e31, if_neg n2, e32] at q7
    refine ⟨_, si X2 1 1 0, si Y2 0 26 0, ?_, by rw [q7, ← q1.2.2.2.2], tS S s2.1 t2.1, tS_ok hS q1.2.2.1 q1.2.2.2.1, tS_x hx (xd_off q4) (si_at _ _ _ _) q1.2.2.1 q1.2.2.2.1 q2.1, tS_m hS hm q5 q1.2.2.1 q1.2.2.2.1 q3.1⟩
    unfold X_ShakeHands_text
    rw [q6, bd_ret, nm_eq, show (si X2 1 1 0).1 3 3 = nI s2.1 from q2.1, if_neg n1]
  have ekx : kx (nI v') X' = bd (X_Teller_lookBack n X') fun _ M10 => (if (M10.1 3 3) = 0 then some (nI v', M10) else some ((((-10) : Int32) - (M10.1 3 8)), M10)) := by rw [← hkx]
  have eky : ky (nI v') Y' = (if (Y'.1 0 31) = 0 then (bd (X_Model_needs n (if (Y'.1 0 12) ≤ (Y'.1 0 17) then 0 else 1) 6 Y') fun _ M16 => bd (X_Model_isHeld n M16) fun r17 M18 => bd (X_Model_needs n r17 7 M18) fun _ M20 => (if ((si M20 0 26 0).1 0 31) ≤ 0 then bd (X_Model_keepDraft n (si M20 0 26 0)) fun _ M13 => some (nI v', M13) else some ((((-10) : Int32) - ((si M20 0 26 0).1 0 32)), si M20 0 26 0))) else (if ((si Y' 0 26 0).1 0 31) ≤ 0 then bd (X_Model_keepDraft n (si Y' 0 26 0)) fun _ M13 => some (nI v', M13) else some ((((-10) : Int32) - ((si Y' 0 26 0).1 0 32)), si Y' 0 26 0))) := by
    rw [← hky]
    dsimp only
    rw [nm_eq, nm_eq]
    by_cases q : (Y'.1 0 12) ≤ (Y'.1 0 17)
    · rw [if_pos q, if_pos q]; rfl
    · rw [if_neg q, if_neg q]; rfl
  by_cases e0 : s'.1 = 0
  · have hQ : Qok s' t' := by
      rcases i7 with q | q
      · exact q
      · exact absurd e0 q.1
    obtain ⟨D', xD, yD, gD⟩ := i8 e0
    have hhi := gD.2.2.2.2.2.2.2.1
    have hlg := gD.2.2.2.2.2.2.2.2.2.2
    have hP := gD.1
    have hWD := gD.2.2.2.2.1.1
    have sT8 : s'.1 < 8 := i3
    have t0 : nI t'.1 = 0 := by rw [hQ.2.1]; rfl
    have c13 : X'.1 3 13 = nI D'.hi := xD.2.2.2.2.2.2.1
    have c14 : X'.1 3 14 = nI D'.lg := xD.2.2.2.2.2.2.2
    have c40 : X'.1 4 0 = nI D'.R.1 := xD.1.1
    have c41 : X'.1 4 1 = nI D'.R.2.1 := xD.1.2.1
    have y12 : Y'.1 0 12 = nI D'.R.1 := yD.1.1
    have y17 : Y'.1 0 17 = nI D'.hi := yD.2.2.2
    have hle : ((Y'.1 0 12) ≤ (Y'.1 0 17)) ↔ ¬ D'.hi < D'.R.1 := by
      rw [y12, y17]
      constructor
      · intro q r
        exact absurd q (nI_ge r (by omega))
      · intro q
        exact nI_le (by omega) (by omega)
    obtain ⟨Y2, d1, d2, d3⟩ := m_needs n (p1 := if (Y'.1 0 12) ≤ (Y'.1 0 17) then 0 else 1) (ok := decide (D'.hi < D'.R.1)) (by
      by_cases q : D'.hi < D'.R.1
      · rw [if_neg (fun r => (hle.mp r) q), decide_eq_true q]; decide
      · rw [if_pos (hle.mpr q), decide_eq_false q]; decide) 6 h8' i6
    have yD2 := yD.mt hWD d3
    have hd := m_held n hWD (by omega) yD2.1.2.1 yD2.1.2.2.2.2.2.2.2.2.1 6 n true (by omega) (by omega)
    rw [Bool.true_and] at hd
    have hd : X_Model_isHeld n Y2 = some (if hc D'.W D'.R.2.1 6 = true then 1 else 0, Y2) := hd
    have t2ok := (ned_okM (ok := decide (D'.hi < D'.R.1)) (f := 6) (by decide) i5)
    obtain ⟨Y3, j1, j2, j3⟩ := m_needs n (p1 := if hc D'.W D'.R.2.1 6 = true then 1 else 0) (ok := hc D'.W D'.R.2.1 6) (by cases hc D'.W D'.R.2.1 6 <;> decide) 7 t2ok.1 d2
    have uy3 : X_Model_text n Mm = (if ((si Y3 0 26 0).1 0 31) ≤ 0 then bd (X_Model_keepDraft n (si Y3 0 26 0)) fun _ M13 => some (nI v', M13) else some ((((-10) : Int32) - ((si Y3 0 26 0).1 0 32)), si Y3 0 26 0)) := by
      rw [uy, eky, i6.1, if_pos t0, show X_Model_needs n (if (Y'.1 0 12) ≤ (Y'.1 0 17) then 0 else 1) 6 Y' = _ from d1, bd_ret, hd, bd_ret, show X_Model_needs n (if hc D'.W D'.R.2.1 6 = true then 1 else 0) 7 Y2 = _ from j1, bd_ret]
    have fY3 := (fY.trans (mt_yd d3)).trans (mt_yd j3)
    have hbad : ∀ f, 0 < f ∧ f < 8 → (rfs true f s' = (f, s'.2)) ∧ ned false f t' = (f, t'.2.2.2.1, t'.2.2) ∧ Qbad (f, s'.2) (f, t'.2.2.2.1, t'.2.2) := fun f hf => ⟨by unfold rfs; rw [if_pos rfl, if_pos e0], by unfold ned; rw [if_neg Bool.false_ne_true, if_pos hQ.2.1], by show f ≠ 0; omega, by show f ≠ 0; omega, hf.2, hf.2, hQ.2.2.2.2.1⟩
    by_cases hA : D'.hi < D'.R.1
    · rw [decide_eq_true hA] at j2
      have j2 : MT Y3 (ned (hc D'.W D'.R.2.1 6) 7 t') := j2
      by_cases hB : D'.lg ≤ D'.R.2.1
      · -- the text is taken
        rw [(held_lg gD).mpr hB] at j2
        have j2 : MT Y3 t' := j2
        have lb : X_Teller_lookBack n X' = some ((), X') := by
          unfold X_Teller_lookBack
          rw [nm_eq, c13, c40, if_pos (nI_lt hA (by omega))]
          dsimp only
          rw [c14, c41, if_pos (nI_le hB (by omega))]
        have e33 : X'.1 3 3 = 0 := by rw [i2.1, e0]; rfl
        have ux3 : X_Teller_tell n Mx = some (nI v', X') := by
          rw [ux, ekx, lb, bd_ret, if_pos e33]
        have fN : Fr (fun c k => c = 1 ∧ k = 1) X' (si X' 1 1 0) := Fr.si ⟨rfl, rfl⟩
        obtain ⟨M5, m1, m2, m3⟩ := x_copy_t n (xD.1.fr fN (fun c k q => by omega)) gD.2.1.1 gD.2.2.1.1 gD.2.2.2.1.1
        have okS := gS_ok hS gD hA
        have oX : Off oL Mx (si X' 1 1 0) := xd_off fX
        have no : ∀ a, ¬ (a = 1 ∨ (3 ≤ a ∧ a ≤ 10)) → a ∉ oL := fun a h q => h (oL_in q)
        generalize hF : si (si (si (cpL M5 9 0 17 0 6) 16 1 ((cpL M5 9 0 17 0 6).1 3 2)) 16 2 0) 0 9 0 = F
        have uxF : X_ShakeHands_text n Mx = some (nI v', F) := by
          unfold X_ShakeHands_text
          rw [ux3, bd_ret, nm_eq, show (si X' 1 1 0).1 3 3 = 0 from e33, if_pos rfl, m1, bd_ret, ← hF]
          unfold gc
          rw [if_neg (show ¬ ((0 : Int32) < 0 ∨ (0 : Int32) < 0 ∨ (6 : Int32) < 0 ∨ 6 < (0 : Int32).toNatClampNeg + (6 : Int32).toNatClampNeg ∨ 6 < (0 : Int32).toNatClampNeg + (6 : Int32).toNatClampNeg) by decide), nm_eq]
          rfl
        have F5 : ∀ a, a ≠ 0 → a ≠ 16 → a ≠ 17 → F.1 a = M5.1 a ∧ F.2 a = M5.2 a := fun a h0 h1 h2 => by
          rw [← hF]
          refine ⟨funext fun k => ?_, ?_⟩
          · rw [si_ne (Or.inl h0), si_ne (Or.inl h1), si_ne (Or.inl h1)]; rfl
          · exact (cpL_off h2).2
        have M5X : ∀ a, a < 11 ∨ 14 < a → M5.1 a = (si X' 1 1 0).1 a ∧ M5.2 a = (si X' 1 1 0).2 a := fun a h => ⟨funext fun k => (m2 a k (by omega)).1, funext fun k => (m2 a k (by omega)).2⟩
        have FM : ∀ a, 18 < a → F.1 a = Mx.1 a ∧ F.2 a = Mx.2 a := fun a h => by
          obtain ⟨p1, p2⟩ := F5 a (by omega) (by omega) (by omega)
          obtain ⟨q1, q2⟩ := M5X a (by omega)
          obtain ⟨r1, r2⟩ := oX a (no a (by omega))
          exact ⟨p1.trans (q1.trans r1), p2.trans (q2.trans r2)⟩
        have xF : XA F (gS S D') := by
          refine ⟨?_, ⟨?_, ?_, fun p hp => ?_, fun p hp h => absurd (show (0 : Nat).testBit p = true from h) (by simp)⟩, fun k hk hb => absurd (show (0 : Nat).testBit k = true from hb) (by simp), ?_, ?_, ?_, fun i x hi => absurd (show ([] : List Nat)[i]? = some x from hi) (by simp), ?_, fun k hk => (hx.sh k hk).off (S := [0, 1, 2, 3, 4, 5, 6, 7, 8, 9, 10, 11, 12, 13, 14, 15, 16, 17, 18]) (fun a ha => FM a (by
            simp only [List.mem_cons, List.not_mem_nil, or_false] at ha
            omega)) (by simp; omega) (by simp; omega)⟩
          · refine m3.off (S := [0, 16, 17]) (fun a ha => F5 a ?_ ?_ ?_) (by decide)
            · intro q; exact ha (by simp [q])
            · intro q; exact ha (by simp [q])
            · intro q; exact ha (by simp [q])
          · show F.1 16 1 = nI D'.gl
            rw [← hF]
            show M5.1 3 2 = nI D'.gl
            rw [(M5X 3 (by omega)).1]
            exact xD.2.2.1
          · show F.1 16 2 = nI 0
            rw [← hF]; rfl
          · show F.2 17 p = enc (D'.W p)
            rw [← hF]
            show (if 17 = 17 ∧ 0 ≤ p ∧ p < 0 + 6 then M5.2 9 (0 + (p - 0)) else _) = _
            rw [if_pos ⟨rfl, by omega, by omega⟩, Nat.zero_add, Nat.sub_zero, (M5X 9 (by omega)).2]
            exact xD.2.1 p hp
          · show F.1 0 9 = nI 0
            rw [← hF]; rfl
          · show F.1 0 10 = nI S.tn
            rw [← hF]
            show M5.1 0 10 = _
            rw [(M5X 0 (by omega)).1, (oX 0 (no 0 (by omega))).1]
            exact hx.tn
          · show F.1 1 1 = nI 0
            rw [(F5 1 (by decide) (by decide) (by decide)).1, (M5X 1 (by omega)).1]
            rfl
          · show F.1 3 3 = nI (0 % 8)
            rw [(F5 3 (by decide) (by decide) (by decide)).1, (M5X 3 (by omega)).1]
            exact e33
        -- the reference
        have f26 : Fr (fun c k => c = 0 ∧ k = 26) Y3 (si Y3 0 26 0) := Fr.si ⟨rfl, rfl⟩
        have yD3 := yD2.mt hWD j3
        have h67 : ∀ h, h < 15 → (si Y3 0 26 0).1 6 h = nI (les h) ∧ (si Y3 0 26 0).1 7 h = nI (gre h) := fun h hh => by
          rw [(f26 6 h (by omega)).1, (f26 7 h (by omega)).1, (fY3 6 h (fun q => by unfold yd at q; omega)).1, (fY3 7 h (fun q => by unfold yd at q; omega)).1]
          exact hm.c.2.2.2.2.2.2.2.2 h hh
        obtain ⟨K, o1, o2, o3, o4, o5, o6⟩ := m_keepDraft n (by omega) (M := si Y3 0 26 0) okS.hR hWD (yD3.1.fr hWD f26 (fun c k q => by omega)) h67
        have fK : Fr (fun c k => yd c k ∨ kd c k ∨ (c = 0 ∧ k = 26)) Mm K := ((fY3.mono (fun c k q => Or.inl q)).trans (f26.mono (fun c k q => Or.inr (Or.inr q)))).trans (o6.mono (fun c k q => Or.inr (Or.inl q)))
        have yK : MA K (gS S D') := by
          refine ⟨o2, o3 _, fun k hk hb => absurd (show (0 : Nat).testBit k = true from hb) (by simp), fun k hk => ?_, ?_, ?_, fun i x hi => absurd (show ([] : List Nat)[i]? = some x from hi) (by simp), ?_, fun k hk => (hm.sh k hk).fr fK (fun a j _ _ q => by unfold yd kd at q; omega)⟩
          · show K.1 2 k = nI (if (0 : Nat).testBit k then 1 else 0)
            rw [Nat.zero_testBit]
            match k, hk with
            | 0, _ => exact o4
            | 1, _ => exact o5
          · rw [(fK 0 54 (fun q => by unfold yd kd at q; omega)).1]; exact hm.tn
          · rw [(o6 0 26 (fun q => by unfold kd at q; omega)).1]; rfl
          · show K.1 0 31 = nI (0 / 8)
            rw [(o6 0 31 (fun q => by unfold kd at q; omega)).1]
            show Y3.1 0 31 = _
            rw [j2.1, hQ.2.1]
        refine ⟨nI v', F, K, uxF, ?_, gS S D', okS, xF, yK⟩
        rw [uy3, show (si Y3 0 26 0).1 0 31 = nI t'.1 from j2.1, t0, if_pos (Int32.le_refl _), o1, bd_ret]
      · have hcF : hc D'.W D'.R.2.1 6 = false := Bool.eq_false_iff.mpr (fun q => hB ((held_lg gD).mp q))
        rw [hcF] at j2
        obtain ⟨r1, r2, r3⟩ := hbad 7 (by decide)
        rw [r2] at j2
        obtain ⟨X2, l1, l2, l3⟩ := x_rfs n 7 (by decide) sT8 i2
        rw [r1] at l2
        have lb : X_Teller_lookBack n X' = some ((), X2) := by
          unfold X_Teller_lookBack
          rw [nm_eq, c13, c40, if_pos (nI_lt hA (by omega))]
          dsimp only
          rw [c14, c41, if_neg (nI_ge (by omega) (by omega)), show X_Teller_refuse n 7 X' = _ from l1, bd_ret]
        exact bad X2 Y3 _ _ r3 l2 j2 (fX.trans (xt_xd l3)) fY3 (by rw [ux, ekx, lb, bd_ret]) uy3
    · obtain ⟨r1, r2, r3⟩ := hbad 6 (by decide)
      rw [decide_eq_false hA, r2] at j2
      rw [ned_bad (show ((6, t'.2.2.2.1, t'.2.2) : Tm).1 ≠ 0 by show 6 ≠ 0; decide)] at j2
      obtain ⟨X2, l1, l2, l3⟩ := x_rfs n 6 (by decide) sT8 i2
      rw [r1] at l2
      have n6 : ¬ X2.1 3 3 = 0 := by rw [l2.1]; show ¬ nI 6 = 0; decide
      have lb : X_Teller_lookBack n X' = some ((), X2) := by
        have rf7 : X_Teller_refuse n 7 X2 = some ((), X2) := if_neg n6
        unfold X_Teller_lookBack
        rw [nm_eq, c13, c40, if_neg (Int32.not_lt.mpr (nI_le (by omega) (by omega))), show X_Teller_refuse n 6 X' = _ from l1, bd_ret]
        dsimp only
        rw [rf7, bd_ret]
        split <;> rfl
      exact bad X2 Y3 _ _ r3 l2 j2 (fX.trans (xt_xd l3)) fY3 (by rw [ux, ekx, lb, bd_ret]) uy3
  · have hB : Qbad s' t' := by
      rcases i7 with q | q
      · exact absurd q.1 e0
      · exact q
    have n1 : ¬ X'.1 3 3 = 0 := fun q => e0 ((i_z (by omega)).mp (i2.1.symm.trans q))
    have lb : X_Teller_lookBack n X' = some ((), X') := by
      have rf : ∀ f, X_Teller_refuse n f X' = some ((), X') := fun f => if_neg n1
      unfold X_Teller_lookBack
      rw [nm_eq, rf, bd_ret]
      dsimp only
      rw [rf, bd_ret]
      split <;> split <;> rfl
    have n2 : ¬ Y'.1 0 31 = 0 := fun q => hB.2.1 ((i_z (by have := hB.2.2.2.1; omega)).mp (i6.1.symm.trans q))
    exact bad X' Y' s' t' hB i2 i6 fX fY (by rw [ux, ekx, lb, bd_ret]) (by rw [uy, eky, if_neg n2])
theorem sim_text : Sm (fun M => X_ShakeHands_text fuel M) (fun M => X_Model_text fuel M) := fun Mx Mm hR => text_n fuel (by decide) Mx Mm hR
end
