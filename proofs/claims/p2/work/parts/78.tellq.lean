/-! THE TEXT: both sides' tokens alike -/
theorem nv_lt {tp : List Nat} : ∀ k p v, nv tp k p v + 1 ≤ (v + 1) * 10 ^ (rn tp 48 57 k p - p)
  | 0, p, v => by show v + 1 ≤ (v + 1) * 10 ^ (p - p); rw [Nat.sub_self]; omega
  | k + 1, p, v => by
    unfold nv rn
    by_cases e : inr tp 48 57 p = true
    · rw [if_pos e, if_pos e]
      obtain ⟨i1, i2⟩ := inr_p e
      have ih := nv_lt (tp := tp) k (p + 1) (10 * v + tp.getD p 0 - 48)
      have hr := rn_le (tp := tp) (lo := 48) (hi := 57) k (p + 1) (inr_lt e)
      generalize rn tp 48 57 k (p + 1) = a at ih hr
      rw [show a - p = (a - (p + 1)) + 1 by omega, Nat.pow_succ]
      refine Nat.le_trans ih ?_
      rw [show (v + 1) * (10 ^ (a - (p + 1)) * 10) = ((v + 1) * 10) * 10 ^ (a - (p + 1)) by rw [Nat.mul_assoc, Nat.mul_comm 10]]
      exact Nat.mul_le_mul_right _ (by omega)
    · rw [if_neg e, if_neg e, Nat.sub_self]; omega
theorem nm2_nv {tp : List Nat} {q : Nat} : ∀ k p v, rn tp 48 57 k p - q ≤ 2 → nm2 tp q k p v = nv tp k p v
  | 0, p, v, _ => rfl
  | k + 1, p, v, h => by
    unfold nm2 nv
    by_cases e : inr tp 48 57 p = true
    · unfold rn at h
      rw [if_pos e] at h
      have hr := rn_le (tp := tp) (lo := 48) (hi := 57) k (p + 1) (inr_lt e)
      rw [if_pos e, if_pos e, if_neg (by omega)]
      exact nm2_nv k (p + 1) _ h
    · rw [if_neg e, if_neg e]
theorem rn_two {tp : List Nat} {q k : Nat} (h : rn tp 48 57 k q - q ≤ 2) : nv tp k q 0 < 100 := by
  have := nv_lt (tp := tp) k q 0
  have h2 : 10 ^ (rn tp 48 57 k q - q) ≤ 10 ^ 2 := Nat.pow_le_pow_right (by decide) h
  omega
def OkT (tp : List Nat) (s : Tk) : Prop := s.1 < 8 ∧ s.2.1 ≤ tp.length ∧ (s.1 = 0 → s.2.2.1 = 2 → s.2.2.2.2 < 100) ∧ s.2.2.1 < 4
theorem rdX_ok {tp : List Nat} {s : Tk} (h : OkT tp s) : OkT tp (rdX tp s) := by
  unfold rdX
  by_cases e : s.1 = 0
  · rw [if_pos e]
    obtain ⟨q1, q2⟩ := rn_le (tp := tp) (lo := 32) (hi := 32) tp.length s.2.1 h.2.1
    generalize rn tp 32 32 tp.length s.2.1 = q at q1 q2
    dsimp only
    by_cases eq : q < tp.length
    · rw [if_pos eq]
      by_cases e1 : inr tp 97 122 q = true
      · rw [if_pos e1]
        exact ⟨by show 0 < 8; decide, (rn_le _ _ q2).2, fun _ (q : 1 = 2) => absurd q (by decide), by show 1 < 4; decide⟩
      · rw [if_neg e1]
        by_cases e2 : inr tp 48 57 q = true
        · rw [if_pos e2]
          refine ⟨?_, (rn_le _ _ q2).2, fun a _ => ?_, by show 2 < 4; decide⟩
          · show (if rn tp 48 57 tp.length q - q ≤ 2 then 0 else 1) < 8
            split <;> decide
          · have a : (if rn tp 48 57 tp.length q - q ≤ 2 then 0 else 1) = 0 := a
            split at a
            · rename_i c; exact rn_two c
            · exact absurd a (by decide)
        · rw [if_neg e2]
          by_cases e3 : inr tp 59 59 q = true
          · rw [if_pos e3]
            exact ⟨by show 0 < 8; decide, eq, fun _ (q : 3 = 2) => absurd q (by decide), by show 3 < 4; decide⟩
          · rw [if_neg e3]
            exact ⟨by show 1 < 8; decide, q2, fun (a : 1 = 0) => absurd a (by decide), h.2.2.2⟩
    · rw [if_neg eq]
      exact ⟨by show 0 < 8; decide, q2, fun _ (q : 0 = 2) => absurd q (by decide), by show 0 < 4; decide⟩
  · rw [if_neg e]; exact h
-- both have read the same token, or both met a fault at one place
def Qok (s : Tk) (t : Tm) : Prop := s.1 = 0 ∧ t.1 = 0 ∧ s.2.1 = t.2.2.1 ∧ s.2.2.1 = t.2.2.2.2.1 ∧ s.2.2.2.1 = t.2.2.2.1 ∧ (s.2.2.1 = 2 → s.2.2.2.2 = t.2.2.2.2.2)
def Qbad (s : Tk) (t : Tm) : Prop := s.1 ≠ 0 ∧ t.1 ≠ 0 ∧ s.1 < 8 ∧ t.1 < 8 ∧ s.2.2.2.1 = t.2.1
def QT (s : Tk) (t : Tm) : Prop := Qok s t ∨ Qbad s t
theorem tok_Q {tp : List Nat} {s : Tk} {t : Tm} (h1 : s.1 = 0) (h2 : t.1 = 0) (h3 : s.2.1 = t.2.2.1) : QT (rdX tp s) (rdM tp t) := by
  unfold rdX rdM
  rw [if_pos h1, if_pos h2, h3]
  generalize rn tp 32 32 tp.length t.2.2.1 = q
  dsimp only
  by_cases eq : q < tp.length
  · rw [if_pos eq, if_pos eq]
    by_cases e1 : inr tp 97 122 q = true
    · rw [if_pos e1, if_pos e1]
      exact Or.inl ⟨rfl, rfl, rfl, rfl, rfl, fun (q : 1 = 2) => absurd q (by decide)⟩
    · rw [if_neg e1, if_neg e1]
      by_cases e2 : inr tp 48 57 q = true
      · rw [if_pos e2, if_pos e2]
        by_cases e3 : rn tp 48 57 tp.length q - q ≤ 2
        · rw [if_pos e3, decide_eq_true e3]
          exact Or.inl ⟨rfl, rfl, rfl, rfl, rfl, fun _ => (nm2_nv _ _ _ e3).symm⟩
        · rw [if_neg e3, decide_eq_false e3]
          exact Or.inr ⟨by show 1 ≠ 0; decide, by show 1 ≠ 0; decide, by show 1 < 8; decide, by show 1 < 8; decide, rfl⟩
      · rw [if_neg e2, if_neg e2]
        by_cases e3 : inr tp 59 59 q = true
        · rw [if_pos e3, e3]
          exact Or.inl ⟨rfl, rfl, rfl, rfl, rfl, fun (q : 3 = 2) => absurd q (by decide)⟩
        · rw [if_neg e3, Bool.eq_false_iff.mpr e3]
          exact Or.inr ⟨by show 1 ≠ 0; decide, by show 1 ≠ 0; decide, by show 1 < 8; decide, by show 1 < 8; decide, rfl⟩
  · rw [if_neg eq, if_neg eq]
    exact Or.inl ⟨rfl, rfl, rfl, rfl, rfl, fun (q : 0 = 2) => absurd q (by decide)⟩
def rfs (c : Bool) (f : Nat) (s : Tk) : Tk := if c then (if s.1 = 0 then (f, s.2) else s) else s
theorem next_Q {tp : List Nat} {s : Tk} {t : Tm} (h : QT s t) : QT (rdX tp s) (rdM tp t) := by
  rcases h with h | h
  · exact tok_Q h.1 h.2.1 h.2.2.1
  · unfold rdX rdM
    rw [if_neg h.1, if_neg h.2.1]
    exact Or.inr h
theorem ref_Q {s : Tk} {t : Tm} (h : QT s t) {f f' : Nat} (hf : 0 < f ∧ f < 8) (hf' : 0 < f' ∧ f' < 8) {c ok : Bool} (hc : c = !ok) : QT (rfs c f s) (ned ok f' t) := by
  unfold rfs ned
  cases ok with
  | true =>
    rw [hc]
    exact h
  | false =>
    rw [hc]
    rcases h with h | h
    · rw [if_pos (show (!false) = true from rfl), if_pos h.1, if_neg Bool.false_ne_true, if_pos h.2.1]
      exact Or.inr ⟨by show f ≠ 0; omega, by show f' ≠ 0; omega, hf.2, hf'.2, h.2.2.2.2.1⟩
    · rw [if_pos (show (!false) = true from rfl), if_neg h.1, if_neg Bool.false_ne_true, if_neg h.2.1]
      exact Or.inr h
def oob (lo hi v : Nat) : Bool := decide (v < lo ∨ hi < v)
def tkN (tp : List Nat) (lo hi : Nat) (s : Tk) : Tk := let s2 := rfs (decide ((rdX tp s).2.2.1 ≠ 2)) 2 (rdX tp s); rfs (oob lo hi s2.2.2.2.2) 3 s2
def vaN (lo : Nat) (s : Tk) : Nat := if s.1 = 0 then s.2.2.2.2 else lo
def tkS (tp : List Nat) (s : Tk) : Tk := rfs (decide ((rdX tp s).2.2.1 ≠ 3)) 2 (rdX tp s)
def lkN (lo hi : Nat) (t : Tm) : Tm := let t2 := ned (decide (t.2.2.2.2.1 = 2)) 2 t; ned (!oob lo hi t2.2.2.2.2.2) 3 t2
def vaM (t : Tm) : Nat := if t.1 = 0 then t.2.2.2.2.2 else 0
theorem rfs_ok {tp : List Nat} {s : Tk} {c : Bool} {f : Nat} (hf : 0 < f ∧ f < 8) (h : OkT tp s) : OkT tp (rfs c f s) := by
  unfold rfs
  split
  · split
    · exact ⟨hf.2, h.2.1, fun (a : f = 0) => by omega, h.2.2.2⟩
    · exact h
  · exact h
theorem tkN_ok {tp : List Nat} {lo hi : Nat} {s : Tk} (h : OkT tp s) : OkT tp (tkN tp lo hi s) := rfs_ok (by decide) (rfs_ok (by decide) (rdX_ok h))
theorem tkS_ok {tp : List Nat} {s : Tk} (h : OkT tp s) : OkT tp (tkS tp s) := rfs_ok (by decide) (rdX_ok h)
theorem rfs_0 {c : Bool} {f : Nat} {s : Tk} (hf : 0 < f) (h : (rfs c f s).1 = 0) : s.1 = 0 ∧ c = false ∧ rfs c f s = s := by
  unfold rfs at h ⊢
  cases c with
  | false => exact ⟨h, rfl, rfl⟩
  | true =>
    rw [if_pos rfl] at h
    split at h
    · have h : f = 0 := h
      omega
    · exact absurd h ‹_›
theorem ned_0 {ok : Bool} {f : Nat} {t : Tm} (hf : 0 < f) (h : (ned ok f t).1 = 0) : t.1 = 0 ∧ ok = true ∧ ned ok f t = t := by
  unfold ned at h ⊢
  cases ok with
  | true => exact ⟨h, rfl, rfl⟩
  | false =>
    rw [if_neg Bool.false_ne_true] at h
    split at h
    · have h : f = 0 := h
      omega
    · exact absurd h ‹_›
theorem tkN_0 {tp : List Nat} {lo hi : Nat} {s : Tk} (h : (tkN tp lo hi s).1 = 0) : (rdX tp s).1 = 0 ∧ (rdX tp s).2.2.1 = 2 ∧ tkN tp lo hi s = rdX tp s ∧ lo ≤ (rdX tp s).2.2.2.2 ∧ (rdX tp s).2.2.2.2 ≤ hi := by
  unfold tkN at h
  obtain ⟨a1, a2, a3⟩ := rfs_0 (by decide) h
  obtain ⟨b1, b2, b3⟩ := rfs_0 (by decide) a1
  have b2 := of_decide_eq_false b2
  have a2 := of_decide_eq_false a2
  rw [b3] at a2
  refine ⟨b1, by omega, ?_, by omega, by omega⟩
  unfold tkN
  dsimp only at a3 ⊢
  rw [a3, b3]
theorem vaN_le {tp : List Nat} {lo hi : Nat} {s : Tk} (hl : lo ≤ hi) : lo ≤ vaN lo (tkN tp lo hi s) ∧ vaN lo (tkN tp lo hi s) ≤ hi := by
  unfold vaN
  by_cases e : (tkN tp lo hi s).1 = 0
  · obtain ⟨a1, a2, a3, a4, a5⟩ := tkN_0 e
    rw [if_pos e, a3]
    exact ⟨a4, a5⟩
  · rw [if_neg e]; exact ⟨Nat.le_refl _, hl⟩
theorem num_Q {tp : List Nat} {s : Tk} {t : Tm} (lo hi : Nat) (h : QT (rdX tp s) t) : QT (tkN tp lo hi s) (lkN lo hi t) ∧ ((tkN tp lo hi s).1 = 0 → vaN lo (tkN tp lo hi s) = vaM (lkN lo hi t)) := by
  generalize ha : rdX tp s = a at h
  have h1 : QT (rfs (decide (a.2.2.1 ≠ 2)) 2 a) (ned (decide (t.2.2.2.2.1 = 2)) 2 t) := by
    rcases h with h | h
    · exact ref_Q (Or.inl h) (by decide) (by decide) (by rw [h.2.2.2.1]; by_cases q : t.2.2.2.2.1 = 2 <;> simp [q])
    · have e1 : rfs (decide (a.2.2.1 ≠ 2)) 2 a = a := by unfold rfs; rw [if_neg h.1]; split <;> rfl
      have e2 : ned (decide (t.2.2.2.2.1 = 2)) 2 t = t := by unfold ned; rw [if_neg h.2.1]; split <;> rfl
      rw [e1, e2]
      exact Or.inr h
  have hk : (rfs (decide (a.2.2.1 ≠ 2)) 2 a).1 = 0 → a.2.2.1 = 2 := fun q => by
    have := of_decide_eq_false (rfs_0 (by decide) q).2.1
    omega
  have ek : rfs (decide (a.2.2.1 ≠ 2)) 2 a = rfs (decide ((rdX tp s).2.2.1 ≠ 2)) 2 (rdX tp s) := by rw [ha]
  have et : tkN tp lo hi s = rfs (oob lo hi (rfs (decide (a.2.2.1 ≠ 2)) 2 a).2.2.2.2) 3 (rfs (decide (a.2.2.1 ≠ 2)) 2 a) := by rw [ek]; rfl
  have em : lkN lo hi t = ned (!oob lo hi (ned (decide (t.2.2.2.2.1 = 2)) 2 t).2.2.2.2.2) 3 (ned (decide (t.2.2.2.2.1 = 2)) 2 t) := rfl
  have ea : rfs (decide (a.2.2.1 ≠ 2)) 2 a |>.2.2.1 = a.2.2.1 := by
    unfold rfs
    split
    · split <;> rfl
    · rfl
  rw [et, em]
  generalize rfs (decide (a.2.2.1 ≠ 2)) 2 a = b at h1 hk ea
  generalize ned (decide (t.2.2.2.2.1 = 2)) 2 t = c at h1
  rcases h1 with h1 | h1
  · have hv := h1.2.2.2.2.2 (by rw [ea]; exact hk h1.1)
    have hq := ref_Q (Or.inl h1) (f := 3) (f' := 3) (by decide) (by decide) (c := oob lo hi b.2.2.2.2) (ok := !oob lo hi c.2.2.2.2.2) (by rw [hv, Bool.not_not])
    refine ⟨hq, fun q => ?_⟩
    obtain ⟨r1, r2, r3⟩ := rfs_0 (by decide) q
    rw [r3]
    unfold vaN vaM
    rw [hv] at r2
    rw [r2, if_pos h1.1]
    show _ = if c.1 = 0 then c.2.2.2.2.2 else 0
    rw [if_pos h1.2.1, hv]
  · have e1 : rfs (oob lo hi b.2.2.2.2) 3 b = b := by unfold rfs; rw [if_neg h1.1]; split <;> rfl
    have e2 : ned (!oob lo hi c.2.2.2.2.2) 3 c = c := by unfold ned; rw [if_neg h1.2.1]; split <;> rfl
    rw [e1, e2]
    exact ⟨Or.inr h1, fun q => absurd q h1.1⟩
theorem sign_Q {tp : List Nat} {s : Tk} {t : Tm} (h : QT (rdX tp s) t) : QT (tkS tp s) (ned (decide (t.2.2.2.2.1 = 3)) 2 t) := by
  unfold tkS
  rcases h with h | h
  · exact ref_Q (Or.inl h) (by decide) (by decide) (by rw [h.2.2.2.1]; by_cases q : t.2.2.2.2.1 = 3 <;> simp [q])
  · have e1 : rfs (decide ((rdX tp s).2.2.1 ≠ 3)) 2 (rdX tp s) = rdX tp s := by unfold rfs; rw [if_neg h.1]; split <;> rfl
    have e2 : ned (decide (t.2.2.2.2.1 = 3)) 2 t = t := by unfold ned; rw [if_neg h.2.1]; split <;> rfl
    rw [e1, e2]
    exact Or.inr h
