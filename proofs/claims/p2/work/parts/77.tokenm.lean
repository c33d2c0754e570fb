/-! THE TEXT: the reference's tokens -/
def MTp (M : Mem) (tp : List Nat) : Prop := M.1 0 26 = nI tp.length ∧ (∀ i x, tp[i]? = some x → M.1 14 i = nI x) ∧ tp.length ≤ 320 ∧ ∀ x ∈ tp, x < 256
theorem MTp.fr {P : Nat → Nat → Prop} {M M' : Mem} {tp : List Nat} (h : MTp M tp) (ho : Fr P M M') (hp : ∀ c k, P c k → c ≠ 14 ∧ ¬ (c = 0 ∧ k = 26)) : MTp M' tp := ⟨by rw [(ho 0 26 (fun q => (hp _ _ q).2 ⟨rfl, rfl⟩)).1]; exact h.1, fun i x hi => by rw [(ho 14 i (fun q => (hp _ _ q).1 rfl)).1]; exact h.2.1 i x hi, h.2.2⟩
def lk (tp : List Nat) (k : Nat) : Int32 := match tp[k]? with
  | some b => nI b
  | none => -1
theorem m_look' (n : Nat) {M : Mem} {tp : List Nat} (hT : MTp M tp) {k : Nat} (hk : k < 2 ^ 31) : X_Model_look n (nI k) M = some (lk tp k, M) := by
  obtain ⟨h1, h2, h3, h4⟩ := hT
  unfold X_Model_look lk
  rw [h1]
  by_cases e : k < tp.length
  · have hx := getD_some e
    rw [if_neg (nI_ge e (by omega)), gd_in (v320 (by omega)), nI_clamp hk, h2 k _ hx, hx]
  · have : tp[k]? = none := List.getElem?_eq_none (by omega)
    rw [if_pos (nI_le (by omega) hk), this]
theorem lk_in {tp : List Nat} (h4 : ∀ x ∈ tp, x < 256) {lo hi k : Nat} (hlo : lo < 256) (hhi : hi < 256) (n : Nat) (M : Mem) : X_Model_in n (lk tp k).toInt64 (nI lo).toInt64 (nI hi).toInt64 M = some (if inr tp lo hi k then 1 else 0, M) := by
  rw [m_in]
  unfold lk inr
  cases e : tp[k]? with
  | none =>
    dsimp only
    rw [if_neg (fun q => absurd q.1 (Int32.not_le.mpr (Int32.lt_of_lt_of_le (by decide : (-1 : Int32) < 0) (Int32.not_lt.mp (nI_pos (by omega)))))), if_neg Bool.false_ne_true]
  | some b =>
    have hb := h4 b (List.mem_of_getElem? e)
    dsimp only
    by_cases q : lo ≤ b ∧ b ≤ hi
    · rw [if_pos ⟨nI_le q.1 (by omega), nI_le q.2 (by omega)⟩, if_pos (by rw [Bool.and_eq_true]; exact ⟨decide_eq_true q.1, decide_eq_true q.2⟩)]
    · rw [if_neg (fun r => q ⟨Nat.not_lt.mp (fun s => absurd r.1 (nI_ge s (by omega))), Nat.not_lt.mp (fun s => absurd r.2 (nI_ge s (by omega)))⟩), if_neg]
      intro c
      rw [Bool.and_eq_true] at c
      exact q ⟨of_decide_eq_true c.1, of_decide_eq_true c.2⟩
theorem lk_eq {tp : List Nat} (h4 : ∀ x ∈ tp, x < 256) {b k : Nat} (hb : b < 256) : (lk tp k = nI b) ↔ inr tp b b k = true := by
  unfold lk inr
  cases e : tp[k]? with
  | none =>
    dsimp only
    constructor
    · intro q
      have : (-1 : Int32) < 0 := by decide
      rw [q] at this
      exact absurd this (nI_pos (by omega))
    · intro q; exact absurd q Bool.false_ne_true
  | some x =>
    have hx := h4 x (List.mem_of_getElem? e)
    dsimp only
    rw [nI_eq (by omega) (by omega), Bool.and_eq_true, decide_eq_true_iff, decide_eq_true_iff]
    omega
theorem lk_0 {tp : List Nat} {k : Nat} (h4 : ∀ x ∈ tp, x < 256) : (0 ≤ lk tp k) ↔ k < tp.length := by
  unfold lk
  by_cases e : k < tp.length
  · have hx := getD_some e
    have hb := h4 _ (getD_mem e)
    rw [hx]
    exact ⟨fun _ => e, fun _ => Int32.not_lt.mp (nI_pos (by omega))⟩
  · have : tp[k]? = none := List.getElem?_eq_none (by omega)
    rw [this]
    exact ⟨fun q => absurd q (by decide), fun q => absurd q e⟩
theorem rn_end {tp : List Nat} {lo hi k p : Nat} (e : ¬ p < tp.length) : rn tp lo hi k p = p := by
  cases k with
  | zero => rfl
  | succ k =>
    unfold rn
    rw [if_neg (fun q => e (inr_lt q))]
theorem m_blanks (n : Nat) (kx : Mem → Option (Unit × Mem)) {tp : List Nat} : ∀ k p f M, p ≤ tp.length → tp.length ≤ p + k → k < f → MTp M tp → M.1 0 27 = nI p → X_Model_next_L8 n kx f M = kx (si M 0 27 (nI (rn tp 32 32 k p)))
  | k, p, f, M, h1, h2, h3, hT, hat => by
    obtain ⟨f, rfl⟩ : ∃ q, f = q + 1 := ⟨f - 1, by omega⟩
    have hl := hT.2.2.1
    show bd (X_Model_look n (M.1 0 27) M) (fun r1 M2 => (if r1 = 32 then X_Model_next_L8 n kx f (si M2 0 27 ((M2.1 0 27) + 1)) else kx M2)) = _
    rw [hat, m_look' n hT (by omega), bd_ret]
    have hq := lk_eq hT.2.2.2 (b := 32) (k := p) (by decide)
    by_cases e : p < tp.length
    · obtain ⟨k, rfl⟩ : ∃ q, k = q + 1 := ⟨k - 1, by omega⟩
      unfold rn
      by_cases ei : inr tp 32 32 p = true
      · rw [if_pos (show lk tp p = 32 from hq.mpr ei), hat, nI_1, if_pos ei, m_blanks n kx k (p + 1) f (si M 0 27 (nI (p + 1))) (by omega) (by omega) (by omega) (hT.fr (P := fun c k => c = 0 ∧ k = 27) (Fr.si ⟨rfl, rfl⟩) (fun c k q => by omega)) (si_at _ _ _ _), si_si]
      · rw [if_neg (show ¬ lk tp p = 32 from fun q => ei (hq.mp q)), if_neg ei, si_self hat]
    · rw [if_neg (show ¬ lk tp p = 32 from fun q => e (inr_lt (hq.mp q))), rn_end e, si_self hat]
theorem m_letters (n : Nat) {tp : List Nat} : ∀ k p f M, p ≤ tp.length → tp.length ≤ p + k → k < f → MTp M tp → M.1 0 27 = nI p → X_Model_next_L82 n f M = some ((), si M 0 27 (nI (rn tp 97 122 k p)))
  | k, p, f, M, h1, h2, h3, hT, hat => by
    obtain ⟨f, rfl⟩ : ∃ q, f = q + 1 := ⟨f - 1, by omega⟩
    have hl := hT.2.2.1
    show bd (X_Model_look n (M.1 0 27) M) (fun r28 M29 => bd (X_Model_in n r28.toInt64 97 122 M29) fun r30 M31 => (if r30 = 0 then some ((), M31) else X_Model_next_L82 n f (si M31 0 27 ((M31.1 0 27) + 1)))) = _
    rw [hat, m_look' n hT (by omega), bd_ret, show X_Model_in n (lk tp p).toInt64 97 122 M = _ from lk_in hT.2.2.2 (lo := 97) (hi := 122) (by decide) (by decide) n M, bd_ret]
    by_cases e : p < tp.length
    · obtain ⟨k, rfl⟩ : ∃ q, k = q + 1 := ⟨k - 1, by omega⟩
      unfold rn
      by_cases ei : inr tp 97 122 p = true
      · rw [if_pos ei, if_neg i10, hat, nI_1, if_pos ei, m_letters n k (p + 1) f (si M 0 27 (nI (p + 1))) (by omega) (by omega) (by omega) (hT.fr (P := fun c k => c = 0 ∧ k = 27) (Fr.si ⟨rfl, rfl⟩) (fun c k q => by omega)) (si_at _ _ _ _), si_si]
      · rw [if_neg ei, if_pos rfl, if_neg ei, si_self hat]
    · rw [if_neg (fun q => e (inr_lt q)), if_pos rfl, rn_end e, si_self hat]
def nm2 (tp : List Nat) (q : Nat) : Nat → Nat → Nat → Nat
  | 0, _, v => v
  | k + 1, p, v => if inr tp 48 57 p then nm2 tp q k (p + 1) (if 2 ≤ p - q then v else 10 * v + tp.getD p 0 - 48) else v
theorem m_figs (n : Nat) (kx : Mem → Option (Unit × Mem)) {tp : List Nat} {q : Nat} : ∀ k p f v M, q ≤ p → p ≤ tp.length → tp.length ≤ p + k → k < f → MTp M tp → M.1 0 27 = nI p → M.1 0 28 = nI q → M.1 0 30 = nI v → X_Model_next_L140 n kx f M = kx (si (si M 0 30 (nI (nm2 tp q k p v))) 0 27 (nI (rn tp 48 57 k p)))
  | k, p, f, v, M, h0, h1, h2, h3, hT, hat, hpl, hv => by
    obtain ⟨f, rfl⟩ : ∃ q, f = q + 1 := ⟨f - 1, by omega⟩
    have hl := hT.2.2.1
    show bd (X_Model_look n (M.1 0 27) M) (fun r15 M16 => bd (X_Model_in n r15.toInt64 48 57 M16) fun r17 M18 => (if r17 = 0 then kx M18 else nm (fun (u19 : Int32) (M20 : Mem) => (nm (si M20 0 30 u19) fun N21 => X_Model_next_L140 n kx f (si N21 0 27 ((N21.1 0 27) + 1)) : Option (Unit × Mem))) fun k201 => (if 2 ≤ ((M18.1 0 27) - (M18.1 0 28)) then k201 (M18.1 0 30) M18 else bd (X_Model_look n (M18.1 0 27) M18) fun r22 M23 => k201 ((((10 : Int32) * (M18.1 0 30)) + r22) - 48) M23))) = _
    rw [hat, m_look' n hT (by omega), bd_ret, show X_Model_in n (lk tp p).toInt64 48 57 M = _ from lk_in hT.2.2.2 (lo := 48) (hi := 57) (by decide) (by decide) n M, bd_ret]
    by_cases e : p < tp.length
    · obtain ⟨k, rfl⟩ : ∃ q, k = q + 1 := ⟨k - 1, by omega⟩
      unfold rn nm2
      by_cases ei : inr tp 48 57 p = true
      · obtain ⟨i1, i2⟩ := inr_p ei
        have el : lk tp p = nI (tp.getD p 0) := by unfold lk; rw [getD_some e]
        have step : ∀ w, X_Model_next_L140 n kx f (si (si M 0 30 (nI w)) 0 27 (nI (p + 1))) = kx (si (si M 0 30 (nI (nm2 tp q k (p + 1) w))) 0 27 (nI (rn tp 48 57 k (p + 1)))) := fun w => by
          rw [m_figs n kx k (p + 1) f w (si (si M 0 30 (nI w)) 0 27 (nI (p + 1))) (by omega) (by omega) (by omega) (by omega) (hT.fr (P := fun c k => c = 0 ∧ (k = 27 ∨ k = 30)) ((Fr.si ⟨rfl, Or.inr rfl⟩).trans (Fr.si ⟨rfl, Or.inl rfl⟩)) (fun c k q => by omega)) (si_at _ _ _ _) hpl rfl]
          congr 1
          rw [si_swap (si M 0 30 (nI w)) (a := 0) (k := 27) (b := 0) (j := 30) _ _ (Or.inr (by decide)), si_si, si_si]
        rw [if_pos ei, if_neg i10, nm_eq, hat, hpl, pk_sub h0, if_pos ei, if_pos ei]
        by_cases e2 : 2 ≤ p - q
        · rw [if_pos (show (2 : Int32) ≤ nI (p - q) from nI_le (a := 2) e2 (by omega)), if_pos e2]
          dsimp only
          rw [nm_eq, hv, si_ne (Or.inr (by decide)), hat, nI_1]
          exact step v
        · rw [if_neg (show ¬ (2 : Int32) ≤ nI (p - q) from nI_ge (b := 2) (by omega) (by decide)), if_neg e2, m_look' n hT (by omega), bd_ret]
          dsimp only
          rw [nm_eq, hv, el, show (10 : Int32) = nI 10 from rfl, pk_mul, nI_add, show (48 : Int32) = nI 48 from rfl, pk_sub (by omega), si_ne (Or.inr (by decide)), hat, nI_1]
          exact step _
      · rw [if_neg ei, if_pos rfl, if_neg ei, if_neg ei, si_self hv, si_self hat]
    · have er : nm2 tp q k p v = v := by
        cases k with
        | zero => rfl
        | succ k => unfold nm2; rw [if_neg (fun q => e (inr_lt q))]
      rw [if_neg (fun q => e (inr_lt q)), if_pos rfl, rn_end e, er, si_self hv, si_self hat]
-- the fault, its place; where, the place, the kind, the value
abbrev Tm : Type := Nat × Nat × Nat × Nat × Nat × Nat
def MT (M : Mem) (s : Tm) : Prop := M.1 0 31 = nI s.1 ∧ M.1 0 32 = nI s.2.1 ∧ M.1 0 27 = nI s.2.2.1 ∧ M.1 0 28 = nI s.2.2.2.1 ∧ M.1 0 29 = nI s.2.2.2.2.1 ∧ M.1 0 30 = nI s.2.2.2.2.2
def mt (c k : Nat) : Prop := c = 0 ∧ 27 ≤ k ∧ k ≤ 32
theorem mt_at {c k : Nat} (h : mt c k) : c = 0 ∧ 27 ≤ k ∧ k ≤ 32 := h
def ned (ok : Bool) (f : Nat) (s : Tm) : Tm := if ok then s else if s.1 = 0 then (f, s.2.2.2.1, s.2.2) else s
theorem m_needs (n : Nat) {p1 : Int32} {ok : Bool} (hok : p1 = 0 ↔ ok = false) (f : Nat) {M : Mem} {s : Tm} (hs : s.1 < 8) (h : MT M s) : ∃ M', X_Model_needs n p1 (nI f) M = some ((), M') ∧ MT M' (ned ok f s) ∧ Fr mt M M' := by
  unfold X_Model_needs ned
  cases ok with
  | true =>
    rw [if_neg (fun q => absurd (hok.mp q) (by decide)), if_pos rfl]
    exact ⟨M, rfl, h, Fr.rf⟩
  | false =>
    rw [if_pos (hok.mpr rfl), h.1, if_neg Bool.false_ne_true]
    by_cases e : s.1 = 0
    · rw [if_pos (by rw [e]; rfl), if_pos e, nm_eq]
      exact ⟨_, rfl, ⟨by rw [si_ne (Or.inr (by decide))]; exact si_at _ _ _ _, by rw [si_at, si_ne (Or.inr (by decide))]; exact h.2.2.2.1, h.2.2.1, h.2.2.2.1, h.2.2.2.2.1, h.2.2.2.2.2⟩, (Fr.si ⟨rfl, by decide⟩).trans (Fr.si ⟨rfl, by decide⟩)⟩
    · rw [if_neg (fun q => e ((i_z (by omega)).mp q)), if_neg e]
      exact ⟨M, rfl, h, Fr.rf⟩
def rdM (tp : List Nat) (s : Tm) : Tm :=
  if s.1 = 0 then
    let q := rn tp 32 32 tp.length s.2.2.1
    if q < tp.length then
      if inr tp 97 122 q then (0, s.2.1, rn tp 97 122 tp.length q, q, 1, s.2.2.2.2.2)
      else if inr tp 48 57 q then ned (decide (rn tp 48 57 tp.length q - q ≤ 2)) 1 (0, s.2.1, rn tp 48 57 tp.length q, q, 2, nm2 tp q tp.length q 0)
      else ((ned (inr tp 59 59 q) 1 (0, s.2.1, q, q, 3, s.2.2.2.2.2)).1, (ned (inr tp 59 59 q) 1 (0, s.2.1, q, q, 3, s.2.2.2.2.2)).2.1, q + 1, q, 3, s.2.2.2.2.2)
    else (0, s.2.1, q, q, 0, s.2.2.2.2.2)
  else s
theorem ned_at {ok : Bool} {f : Nat} {s : Tm} : (ned ok f s).2.2 = s.2.2 := by
  unfold ned
  split
  · rfl
  · split <;> rfl
theorem m_next (n : Nat) (hn : 400 ≤ n) {M : Mem} {tp : List Nat} {s : Tm} (hT : MTp M tp) (hs : s.1 < 8) (hp : s.2.2.1 ≤ tp.length) (h : MT M s) : ∃ M', X_Model_next n M = some ((), M') ∧ MT M' (rdM tp s) ∧ Fr mt M M' := by
  have hl := hT.2.2.1
  unfold X_Model_next rdM
  rw [h.1]
  by_cases e : s.1 = 0
  · rw [if_pos (by rw [e]; exact Int32.le_refl _), if_pos e]
    obtain ⟨q1, q2⟩ := rn_le (tp := tp) (lo := 32) (hi := 32) tp.length s.2.2.1 hp
    rw [m_blanks n _ tp.length s.2.2.1 n M hp (by omega) (by omega) hT h.2.2.1]
    generalize rn tp 32 32 tp.length s.2.2.1 = q at q1 q2
    rw [nm_eq]
    generalize hN : si (si M 0 27 (nI q)) 0 28 ((si M 0 27 (nI q)).1 0 27) = N
    have fN : Fr mt M N := by rw [← hN]; exact (Fr.si ⟨rfl, by decide⟩).trans (Fr.si ⟨rfl, by decide⟩)
    have hTN : MTp N tp := hT.fr fN (fun c k q => by unfold mt at q; omega)
    have n31 : N.1 0 31 = 0 := by rw [← hN, si_ne (Or.inr (by decide)), si_ne (Or.inr (by decide)), h.1, e]; rfl
    have n32 : N.1 0 32 = nI s.2.1 := by rw [← hN, si_ne (Or.inr (by decide)), si_ne (Or.inr (by decide))]; exact h.2.1
    have n27 : N.1 0 27 = nI q := by rw [← hN, si_ne (Or.inr (by decide))]; exact si_at _ _ _ _
    have n28 : N.1 0 28 = nI q := by rw [← hN, si_at]; exact si_at _ _ _ _
    have n30 : N.1 0 30 = nI s.2.2.2.2.2 := by rw [← hN, si_ne (Or.inr (by decide)), si_ne (Or.inr (by decide))]; exact h.2.2.2.2.2
    rw [n27, m_look' n hTN (by omega), bd_ret]
    dsimp only
    have h0 := lk_0 (tp := tp) (k := q) hT.2.2.2
    by_cases eq : q < tp.length
    · rw [if_pos (h0.mpr eq), if_pos eq, show X_Model_in n (lk tp q).toInt64 97 122 N = _ from lk_in hT.2.2.2 (lo := 97) (hi := 122) (by decide) (by decide) n N, bd_ret]
      cases e1 : inr tp 97 122 q with
      | true =>
        rw [if_pos rfl, if_neg i10, if_pos rfl, m_letters n tp.length q n (si N 0 29 1) q2 (by omega) (by omega) (hTN.fr (P := mt) (Fr.si ⟨rfl, by decide⟩) (fun c k q => by unfold mt at q; omega)) n27]
        exact ⟨_, rfl, ⟨n31, n32, si_at _ _ _ _, n28, rfl, n30⟩, fN.trans ((Fr.si ⟨rfl, by decide⟩).trans (Fr.si ⟨rfl, by decide⟩))⟩
      | false =>
        rw [if_neg Bool.false_ne_true, if_pos rfl, if_neg Bool.false_ne_true, show X_Model_in n (lk tp q).toInt64 48 57 N = _ from lk_in hT.2.2.2 (lo := 48) (hi := 57) (by decide) (by decide) n N, bd_ret]
        cases e2 : inr tp 48 57 q with
        | true =>
          have hr := rn_le (tp := tp) (lo := 48) (hi := 57) tp.length q q2
          rw [if_pos rfl, if_neg i10, if_pos rfl, m_figs n _ tp.length q n 0 (si (si N 0 29 2) 0 30 0) (Nat.le_refl q) q2 (by omega) (by omega) (hTN.fr (P := mt) ((Fr.si ⟨rfl, by decide⟩).trans (Fr.si ⟨rfl, by decide⟩)) (fun c k q => by unfold mt at q; omega)) n27 n28 rfl]
          generalize rn tp 48 57 tp.length q = a at hr
          generalize nm2 tp q tp.length q 0 = v
          generalize hA : si (si (si (si N 0 29 2) 0 30 0) 0 30 (nI v)) 0 27 (nI a) = A
          have a27 : A.1 0 27 = nI a := by rw [← hA]; exact si_at _ _ _ _
          have a28 : A.1 0 28 = nI q := by rw [← hA]; exact n28
          have a31 : A.1 0 31 = nI 0 := by rw [← hA]; exact n31
          have a32 : A.1 0 32 = nI s.2.1 := by rw [← hA]; exact n32
          have a29 : A.1 0 29 = nI 2 := by rw [← hA]; rfl
          have a30 : A.1 0 30 = nI v := by rw [← hA]; rfl
          have fA : Fr mt N A := by rw [← hA]; exact (((Fr.si ⟨rfl, by decide⟩).trans (Fr.si ⟨rfl, by decide⟩)).trans (Fr.si ⟨rfl, by decide⟩)).trans (Fr.si ⟨rfl, by decide⟩)
          rw [a27, a28, pk_sub hr.1, nm_eq]
          have hA6 : MT A (0, s.2.1, a, q, 2, v) := ⟨a31, a32, a27, a28, a29, a30⟩
          by_cases e3 : a - q ≤ 2
          · rw [if_neg (show ¬ (2 : Int32) < nI (a - q) from Int32.not_lt.mpr (nI_le (b := 2) e3 (by decide)))]
            obtain ⟨M', b1, b2, b3⟩ := m_needs n (p1 := 1) (ok := decide (a - q ≤ 2)) (by rw [decide_eq_true e3]; decide) 1 (show (0, s.2.1, a, q, 2, v).1 < 8 by show 0 < 8; decide) hA6
            dsimp only
            rw [show X_Model_needs n 1 1 A = _ from b1, bd_ret]
            exact ⟨M', rfl, b2, (fN.trans fA).trans b3⟩
          · rw [if_pos (show (2 : Int32) < nI (a - q) from nI_lt (a := 2) (by omega) (by omega))]
            obtain ⟨M', b1, b2, b3⟩ := m_needs n (p1 := 0) (ok := decide (a - q ≤ 2)) (by rw [decide_eq_false e3]; decide) 1 (show (0, s.2.1, a, q, 2, v).1 < 8 by show 0 < 8; decide) hA6
            dsimp only
            rw [show X_Model_needs n 0 1 A = _ from b1, bd_ret]
            exact ⟨M', rfl, b2, (fN.trans fA).trans b3⟩
        | false =>
          rw [if_neg Bool.false_ne_true, if_pos rfl, if_neg Bool.false_ne_true, nm_eq, nm_eq]
          have hB6 : MT (si N 0 29 3) (0, s.2.1, q, q, 3, s.2.2.2.2.2) := ⟨n31, n32, n27, n28, rfl, n30⟩
          have fB : Fr mt N (si N 0 29 3) := Fr.si ⟨rfl, by decide⟩
          have h59 := lk_eq hT.2.2.2 (b := 59) (k := q) (by decide)
          have fin : ∀ (p1 : Int32), (p1 = 0 ↔ inr tp 59 59 q = false) → ∃ M', (bd (X_Model_needs n p1 1 (si N 0 29 3)) fun _ M14 => some ((), si M14 0 27 ((M14.1 0 27) + 1))) = some ((), M') ∧ MT M' ((ned (inr tp 59 59 q) 1 (0, s.2.1, q, q, 3, s.2.2.2.2.2)).1, (ned (inr tp 59 59 q) 1 (0, s.2.1, q, q, 3, s.2.2.2.2.2)).2.1, q + 1, q, 3, s.2.2.2.2.2) ∧ Fr mt M M' := by
            intro p1 hp1
            obtain ⟨M', b1, b2, b3⟩ := m_needs n hp1 1 (show (0, s.2.1, q, q, 3, s.2.2.2.2.2).1 < 8 by show 0 < 8; decide) hB6
            obtain ⟨d1, d2, d3, d4, d5, d6⟩ := b2
            rw [ned_at] at d3 d4 d5 d6
            rw [show X_Model_needs n p1 1 (si N 0 29 3) = _ from b1, bd_ret, d3]
            refine ⟨_, rfl, ⟨d1, d2, by rw [si_at, nI_1], d4, d5, d6⟩, ((fN.trans fB).trans b3).trans (Fr.si ⟨rfl, by decide⟩)⟩
          by_cases e3 : inr tp 59 59 q = true
          · rw [if_pos (show lk tp q = 59 from h59.mpr e3)]
            exact fin 1 (by rw [e3]; decide)
          · rw [if_neg (show ¬ lk tp q = 59 from fun r => e3 (h59.mp r))]
            exact fin 0 (by rw [Bool.eq_false_iff.mpr e3]; decide)
    · rw [if_neg (fun r => eq (h0.mp r)), if_neg eq]
      exact ⟨_, rfl, ⟨n31, n32, n27, n28, rfl, n30⟩, fN.trans (Fr.si ⟨rfl, by decide⟩)⟩
  · rw [if_neg (show ¬ nI s.1 ≤ 0 from nI_ge (a := 0) (by omega) (by omega)), if_neg e]
    exact ⟨M, rfl, h, Fr.rf⟩
