/-! RULES: joins, hands; the class's Circle -/
abbrev Jn : Type := Nat × Nat × Nat
abbrev Rl : Type := Nat × Nat × List Jn × List Nat × List Nat
def jOk (q : Jn) : Prop := q.1 < 16 ∧ q.2.1 < 16 ∧ q.2.2 < 16 ∧ q.1 ≠ q.2.1 ∧ q.1 ≠ q.2.2 ∧ q.2.1 ≠ q.2.2
def les (h : Nat) : Nat := [0, 0, 1, 0, 1, 2, 0, 1, 2, 3, 0, 1, 2, 3, 4].getD h 0
def gre (h : Nat) : Nat := [1, 2, 2, 3, 3, 3, 4, 4, 4, 4, 5, 5, 5, 5, 5].getD h 0
theorem les_gre : ∀ h, h < 15 → les h < gre h ∧ gre h < 6 ∧ lsr h = nI (les h) ∧ grt h = nI (gre h) ∧ gre h * (gre h - 1) / 2 + les h = h := by decide +kernel
def OkR (R : Rl) : Prop := 2 ≤ R.1 ∧ R.1 ≤ 6 ∧ 1 ≤ R.2.1 ∧ R.2.1 ≤ 9 ∧ R.2.2.1.length ≤ 4 ∧ (∀ q ∈ R.2.2.1, jOk q) ∧ R.2.2.2.1.length ≤ 16 ∧ (∀ h ∈ R.2.2.2.1, h < 15 ∧ gre h < R.1) ∧ R.2.2.2.2.length ≤ 8 ∧ (∀ h ∈ R.2.2.2.2, h < 15 ∧ gre h < R.1)
def jIn (l : List Nat) (q : Jn) : Bool := decide (q.1 ∈ l) && decide (q.2.1 ∈ l)
def joinT (l : List Nat) (q : Jn) : List Nat := addT ((l.erase q.1).erase q.2.1) q.2.2
def settleN (js : List Jn) : Nat → List Nat → List Nat
  | 0, l => l
  | k + 1, l => match js.find? (jIn l) with
    | none => l
    | some q => settleN js k (joinT l q)
theorem settleN_s (js : List Jn) (k : Nat) (l : List Nat) : settleN js (k + 1) l = (match js.find? (jIn l) with | none => l | some q => settleN js k (joinT l q)) := rfl
def settle (R : Rl) (l : List Nat) : List Nat := cutT R.2.1 (settleN R.2.2.1 16 l)
def handF (R : Rl) (gl h : Nat) (W : Nat → List Nat) : Nat → List Nat :=
  if gl.testBit (les h) || gl.testBit (gre h) then W else fun p => if p = les h ∨ p = gre h then settle R (mergeT (W (les h)) (W (gre h))) else W p
theorem Ro.erase {l : List Nat} (h : Ro l) (t : Nat) : Ro (l.erase t) := ⟨h.1.erase t, fun x hx => h.2 x (List.mem_of_mem_erase hx)⟩
theorem Ro.join {l : List Nat} (h : Ro l) {q : Jn} (hq : jOk q) : Ro (joinT l q) := ((h.erase _).erase _).addT hq.2.2.1
theorem addT_len (l : List Nat) (t : Nat) : (addT l t).length ≤ l.length + 1 := by
  unfold addT
  split
  · omega
  · simp
theorem join_len {l : List Nat} {q : Jn} (hq : jOk q) (hi : jIn l q = true) : (joinT l q).length < l.length := by
  unfold jIn at hi
  simp only [Bool.and_eq_true, decide_eq_true_eq] at hi
  have h1 := List.length_erase_of_mem hi.1
  have hm : q.2.1 ∈ l.erase q.1 := (List.mem_erase_of_ne (fun e => hq.2.2.2.1 e.symm)).mpr hi.2
  have h2 := List.length_erase_of_mem hm
  have h3 := addT_len ((l.erase q.1).erase q.2.1) q.2.2
  have h4 : 0 < (l.erase q.1).length := List.length_pos_of_mem hm
  unfold joinT
  omega
theorem find_ok {js : List Jn} {l : List Nat} {q : Jn} (hj : ∀ q ∈ js, jOk q) (h : js.find? (jIn l) = some q) : jOk q ∧ jIn l q = true := ⟨hj q (List.mem_of_find?_eq_some h), List.find?_some h⟩
theorem Ro.settleN {js : List Jn} (hj : ∀ q ∈ js, jOk q) : ∀ (k : Nat) {l : List Nat}, Ro l → Ro (settleN js k l)
  | 0, l, h => h
  | k + 1, l, h => by
    rw [settleN_s]
    split
    · exact h
    · next q hq => exact Ro.settleN hj k (h.join (find_ok hj hq).1)
theorem Ro.drop {l : List Nat} (h : Ro l) (k : Nat) : Ro (l.drop k) := ⟨(List.drop_sublist k l).nodup h.1, fun x hx => h.2 x (List.mem_of_mem_drop hx)⟩
theorem Ro.settle {R : Rl} (hR : OkR R) {l : List Nat} (h : Ro l) : Ro (settle R l) := (h.settleN hR.2.2.2.2.2.1 16).drop _
theorem settle_len (R : Rl) (l : List Nat) : (settle R l).length ≤ R.2.1 := by
  unfold settle cutT
  rw [List.length_drop]
  omega
-- the class's circle
def XC (M : Mem) (R : Rl) : Prop := M.1 11 0 = nI R.1 ∧ M.1 11 1 = nI R.2.1 ∧ M.1 11 3 = nI R.2.2.1.length ∧ M.1 11 5 = nI R.2.2.2.1.length ∧ M.1 11 7 = nI R.2.2.2.2.length ∧
  (∀ j q, R.2.2.1[j]? = some q → M.1 12 (3 * j) = nI q.1 ∧ M.1 12 (3 * j + 1) = nI q.2.1 ∧ M.1 12 (3 * j + 2) = nI q.2.2) ∧ (∀ i h, R.2.2.2.1[i]? = some h → M.1 13 i = nI h) ∧ (∀ i h, R.2.2.2.2[i]? = some h → M.1 14 i = nI h)
def Off (S : List Nat) (M M' : Mem) : Prop := ∀ a, a ∉ S → M'.1 a = M.1 a ∧ M'.2 a = M.2 a
theorem Off.rf {S : List Nat} {M : Mem} : Off S M M := fun _ _ => ⟨rfl, rfl⟩
theorem Off.trans {S : List Nat} {M M' M2 : Mem} (h : Off S M M') (h2 : Off S M' M2) : Off S M M2 := fun a ha => ⟨(h2 a ha).1.trans (h a ha).1, (h2 a ha).2.trans (h a ha).2⟩
theorem Off.mono {S S' : List Nat} {M M' : Mem} (h : Off S M M') (hs : ∀ a ∈ S, a ∈ S') : Off S' M M' := fun a ha => h a (fun q => ha (hs a q))
theorem Off.stR {S : List Nat} {M : Mem} {o : Nat} {l : List Nat} (h : o ∈ S) : Off S M (stR M o l) := fun a ha => stR_off (fun e => ha (e ▸ h))
theorem Off.si {S : List Nat} {M : Mem} {o k : Nat} {v : Int32} (h : o ∈ S) : Off S M (si M o k v) := fun a ha => si_off (fun e => ha (e ▸ h))
theorem Off.sl {S : List Nat} {M : Mem} {o k : Nat} {v : Int64} (h : o ∈ S) : Off S M (sl M o k v) := fun a ha => sl_off (fun e => ha (e ▸ h))
theorem Off.cpL {S : List Nat} {M : Mem} {a sp b dp n : Nat} (h : b ∈ S) : Off S M (cpL M a sp b dp n) := fun x hx => cpL_off (fun e => hx (e ▸ h))
theorem Off.cpI {S : List Nat} {M : Mem} {a sp b dp n : Nat} (h : b ∈ S) : Off S M (cpI M a sp b dp n) := fun x hx => cpI_off (fun e => hx (e ▸ h))
theorem XC.off {S : List Nat} {M M' : Mem} {R : Rl} (h : XC M R) (ho : Off S M M') (h1 : (11 ∉ S ∧ 12 ∉ S ∧ 13 ∉ S ∧ 14 ∉ S)) : XC M' R := by
  obtain ⟨a1, a2, a3, a4, a5, a6, a7, a8⟩ := h
  have e1 := (ho 11 h1.1).1
  have e2 := (ho 12 h1.2.1).1
  have e3 := (ho 13 h1.2.2.1).1
  have e4 := (ho 14 h1.2.2.2).1
  unfold XC
  rw [e1, e2, e3, e4]
  exact ⟨a1, a2, a3, a4, a5, a6, a7, a8⟩
def jRes (l : List Nat) : List Jn → Nat → Int32
  | [], _ => -1
  | q :: qs, j => if jIn l q then nI (3 * j) else jRes l qs (j + 1)
theorem jRes_spec (l : List Nat) : ∀ (js : List Jn) (j0 : Nat), (jRes l js j0 = -1 ∧ js.find? (jIn l) = none) ∨ ∃ j q, js[j]? = some q ∧ jRes l js j0 = nI (3 * (j0 + j)) ∧ js.find? (jIn l) = some q
  | [], j0 => Or.inl ⟨rfl, rfl⟩
  | q :: qs, j0 => by
    unfold jRes
    by_cases h : jIn l q = true
    · exact Or.inr ⟨0, q, rfl, by rw [if_pos h]; rfl, by rw [List.find?_cons_of_pos h]⟩
    · rw [if_neg h, List.find?_cons_of_neg h]
      rcases jRes_spec l qs (j0 + 1) with ⟨h1, h2⟩ | ⟨j, q2, h1, h2, h3⟩
      · exact Or.inl ⟨h1, h2⟩
      · exact Or.inr ⟨j + 1, q2, h1, by rw [h2, show j0 + 1 + j = j0 + (j + 1) by omega], h3⟩
theorem gd_in {α : Type} {i : Int32} {n : Nat} (h : vp_in i n) (F : Option α) : gd i n F = F := if_neg h
theorem bd_ret {α β : Type} {r : α} {M : Mem} {f : α → Mem → Option β} : bd (some (r, M)) f = f r M := rfl
theorem nI_clampE {k : Nat} (h : k < 2 ^ 31) : (nI k).toNatClampNeg = k := nI_clamp h
theorem i_b2 (a b : Bool) : ((if a then 1 else 0 : Nat) &&& (if b then 1 else 0 : Nat)) = if a && b then 1 else 0 := by cases a <;> cases b <;> rfl
theorem circ_firstJoin (n : Nat) (hn : 5 ≤ n) {M : Mem} {R : Rl} {l : List Nat} (hC : XC M R) (hR : OkR R) (hM : RowAt M 15 l) (h : Ro l) : X_Circle_firstJoin n M = some (jRes l R.2.2.1 0, M) := by
  obtain ⟨a1, a2, a3, a4, a5, a6, a7, a8⟩ := hC
  obtain ⟨r1, r2, r3, r4, r5, r6, -⟩ := hR
  have hk := knN_lt h.2
  have key : ∀ (d j f : Nat), R.2.2.1.length - j = d → j ≤ R.2.2.1.length → d < f → X_Circle_firstJoin_L2 n M f (nI j) = some (jRes l (R.2.2.1.drop j) j, M) := by
    intro d
    induction d with
    | zero =>
      intro j f h1 h2 h3
      obtain ⟨f, rfl⟩ : ∃ g, f = g + 1 := ⟨f - 1, by omega⟩
      have e : j = R.2.2.1.length := by omega
      subst e
      show (if M.1 11 3 ≤ nI R.2.2.1.length then some ((-1), M) else _) = _
      rw [a3, if_pos (nI_le (Nat.le_refl _) (by omega)), List.drop_length]
      rfl
    | succ d ih =>
      intro j f h1 h2 h3
      obtain ⟨f, rfl⟩ : ∃ g, f = g + 1 := ⟨f - 1, by omega⟩
      have hj : j < R.2.2.1.length := by omega
      obtain ⟨b1, b2, b3⟩ := a6 j _ (List.getElem?_eq_getElem hj)
      have hq := r6 _ (List.getElem_mem hj)
      generalize hqe : R.2.2.1[j] = q at b1 b2 b3 hq
      show (if M.1 11 3 ≤ nI j then some ((-1), M) else _) = _
      rw [a3, if_neg (nI_ge hj (by omega)), show (3 : Int32) = nI 3 from rfl, pk_mul, nI_1]
      unfold gd
      rw [if_neg (vp_in_nI (by omega) (by omega)), if_neg (vp_in_nI (by omega) (by omega)), nI_clamp (by omega), nI_clamp (by omega), b1, b2, hM.2, i_ushr (by omega) (by have := hq.1; omega), i_ushr (by omega) (by have := hq.2.1; omega), show (1 : Int32) = nI 1 from rfl, i_and, i_and, and1]
      have e : (knN l / 2 ^ q.1 &&& knN l / 2 ^ q.2.1) % 2 = if jIn l q then 1 else 0 := by
        have e0 := Nat.and_mod_two_pow (a := knN l / 2 ^ q.1) (b := knN l / 2 ^ q.2.1) (n := 1)
        simp only [Nat.pow_one] at e0
        rw [e0, bitv, bitv, knN_bit, knN_bit, i_b2]
        rfl
      have hcons : R.2.2.1.drop j = R.2.2.1[j] :: R.2.2.1.drop (j + 1) := List.drop_eq_getElem_cons hj
      rw [e, hcons, hqe]
      unfold jRes
      by_cases hin : jIn l q = true
      · rw [if_pos hin, if_pos hin, if_neg (by decide)]
      · rw [if_neg hin, if_neg hin, if_pos (by decide), nI_add]
        exact ih (j + 1) f (by omega) (by omega) (by omega)
  exact key _ 0 n rfl (Nat.zero_le _) (by omega)
theorem settleN_fix {js : List Jn} {l : List Nat} (h : js.find? (jIn l) = none) : ∀ k, settleN js k l = l
  | 0 => rfl
  | k + 1 => by
    unfold settleN
    rw [h]
theorem circ_settle_L (n : Nat) (hn : 17 ≤ n) {R : Rl} (hR : OkR R) (kx : Mem → Option (Unit × Mem)) : ∀ (d v f : Nat) (M : Mem) (l : List Nat), v + d = 16 → d < f → XC M R → RowAt M 15 l → Ro l → X_Circle_settle_L7 n kx f (jRes l R.2.2.1 0) (nI v) M = kx (stR M 15 (settleN R.2.2.1 d l)) := by
  intro d
  induction d with
  | zero =>
    intro v f M l h1 h2 hC hM h
    obtain ⟨f, rfl⟩ : ∃ g, f = g + 1 := ⟨f - 1, by omega⟩
    have e : v = 16 := by omega
    subst e
    show (if (16 : Int32) ≤ nI 16 then kx M else _) = _
    rw [if_pos (by decide)]
    show kx M = kx (stR M 15 l)
    rw [stR_id hM]
  | succ d ih =>
    intro v f M l h1 h2 hC hM h
    obtain ⟨f, rfl⟩ : ∃ g, f = g + 1 := ⟨f - 1, by omega⟩
    show (if (16 : Int32) ≤ nI v then kx M else if jRes l R.2.2.1 0 < 0 then kx M else _) = _
    rw [if_neg (show ¬ (16 : Int32) ≤ nI v from nI_ge (a := v) (b := 16) (by omega) (by decide))]
    rcases jRes_spec l R.2.2.1 0 with ⟨e1, e2⟩ | ⟨j, q, e1, e2, e3⟩
    · rw [e1, if_pos (by decide), settleN_fix e2, stR_id hM]
    · have hj : j < R.2.2.1.length := (List.getElem?_eq_some_iff.mp e1).1
      have hj4 := hR.2.2.2.2.1
      obtain ⟨hq, hqi⟩ := find_ok hR.2.2.2.2.2.1 e3
      obtain ⟨b1, b2, b3⟩ := hC.2.2.2.2.2.1 j q e1
      have hqi' := hqi
      unfold jIn at hqi'
      simp only [Bool.and_eq_true, decide_eq_true_eq] at hqi'
      rw [e2, Nat.zero_add, if_neg (nI_pos (by omega)), nI_1, show (2 : Int32) = nI 2 from rfl, nI_add]
      have v0 : vp_in (nI (3 * j)) 12 := vp_in_nI (by omega) (by omega)
      have v1 : vp_in (nI (3 * j + 1)) 12 := vp_in_nI (by omega) (by omega)
      have v2 : vp_in (nI (3 * j + 2)) 12 := vp_in_nI (by omega) (by omega)
      simp only [gd_in v0, gd_in v1, gd_in v2]
      rw [nI_clamp (show 3 * j < 2 ^ 31 by omega), nI_clamp (show 3 * j + 1 < 2 ^ 31 by omega), nI_clamp (show 3 * j + 2 < 2 ^ 31 by omega), b1, row_drop n hn hM h hqi'.1]
      rw [bd_ret, (stR_off (by decide) : (stR M 15 (l.erase q.1)).1 12 = M.1 12 ∧ _).1, b2, row_drop n hn (stR_at M 15 (l.erase q.1)) (h.erase _) ((List.mem_erase_of_ne (fun e => hq.2.2.2.1 e.symm)).mpr hqi'.2), stR_stR]
      rw [bd_ret, (stR_off (by decide) : (stR M 15 ((l.erase q.1).erase q.2.1)).1 12 = M.1 12 ∧ _).1, b3, row_add n (stR_at M 15 _) ((h.erase _).erase _) hq.2.2.1, stR_stR]
      rw [bd_ret]
      have hC2 : XC (stR M 15 (joinT l q)) R := hC.off (Off.stR (S := [15]) (by decide)) (by decide)
      rw [show addT ((l.erase q.1).erase q.2.1) q.2.2 = joinT l q from rfl, circ_firstJoin n (by omega) hC2 hR (stR_at _ _ _) (h.join hq), bd_ret, nI_1, ih (v + 1) f _ _ (by omega) (by omega) hC2 (stR_at _ _ _) (h.join hq), stR_stR]
      have es : settleN R.2.2.1 (d + 1) l = settleN R.2.2.1 d (joinT l q) := by
        show (match R.2.2.1.find? (jIn l) with | none => l | some q => settleN R.2.2.1 d (joinT l q)) = _
        rw [e3]
      rw [es]
theorem circ_settle (n : Nat) (hn : 17 ≤ n) {M : Mem} {R : Rl} (hR : OkR R) {l : List Nat} (hC : XC M R) (hM : RowAt M 15 l) (h : Ro l) : X_Circle_settle n M = some ((), stR M 15 (settle R l)) := by
  unfold X_Circle_settle
  rw [circ_firstJoin n (by omega) hC hR hM h]
  show X_Circle_settle_L7 n _ n (jRes l R.2.2.1 0) (nI 0) M = _
  rw [circ_settle_L n hn hR _ 16 0 n M l (by omega) (by omega) hC hM h]
  have hC2 : XC (stR M 15 (settleN R.2.2.1 16 l)) R := hC.off (Off.stR (S := [15]) (by decide)) (by decide)
  have hh := hR.2.2.2.1
  rw [hC2.2.1, row_shorten n hn (stR_at _ _ _) (h.settleN hR.2.2.2.2.2.1 16) (by omega), stR_stR]
  rfl
theorem encN_inj {l m : List Nat} (hl : Ro l) (hm : Ro m) (h1 : l.length ≤ 9) (h2 : m.length ≤ 9) (h : encN l = encN m) : l = m := by
  have a1 := pk36 hl h1
  have a2 := pk36 hm h2
  unfold encN at h
  have e1 : pkN l = pkN m := by omega
  have e2 : knN l = knN m := by omega
  have e3 : l.length = m.length := by rw [← pop_knN hl, ← pop_knN hm, e2]
  refine List.ext_getElem e3 (fun i g1 g2 => ?_)
  rw [← pkN_get hl.2 g1, ← pkN_get hm.2 g2, e1]
theorem enc_inj {l m : List Nat} (hl : Ro l) (hm : Ro m) (h1 : l.length ≤ 9) (h2 : m.length ≤ 9) : enc l = enc m ↔ l = m := by
  constructor
  · intro h
    have a1 := encN_lt hl h1
    have a2 := encN_lt hm h2
    exact encN_inj hl hm h1 h2 ((l_eq (by omega) (by omega)).mp h)
  · intro h; rw [h]
def OkW (W : Nat → List Nat) : Prop := ∀ p, Ro (W p) ∧ (W p).length ≤ 9
def rowsAt (M : Mem) (rows : Nat) (W : Nat → List Nat) : Prop := ∀ p, p < 6 → M.2 rows p = enc (W p)
theorem settle_le9 {R : Rl} (hR : OkR R) (l : List Nat) : (settle R l).length ≤ 9 := Nat.le_trans (settle_len R l) hR.2.2.2.1
theorem OkW.hand {R : Rl} (hR : OkR R) {W : Nat → List Nat} (h : OkW W) (gl x : Nat) : OkW (handF R gl x W) := by
  intro p
  unfold handF
  split
  · exact h p
  · dsimp only
    split
    · exact ⟨((h _).1.merge (h _).1.2).settle hR, settle_le9 hR _⟩
    · exact h p
theorem rowsAt.off {S : List Nat} {M M' : Mem} {rows : Nat} {W : Nat → List Nat} (h : rowsAt M rows W) (ho : Off S M M') (hs : rows ∉ S) : rowsAt M' rows W := fun p hp => by rw [(ho rows hs).2]; exact h p hp
theorem circ_taught (n : Nat) (hn : 17 ≤ n) {M : Mem} {R : Rl} (hR : OkR R) (hC : XC M R) {l : List Nat} (h : Ro l) (hl : l.length ≤ 9) {t : Nat} (ht : t < 16) : X_Circle_taught n (enc l) (nI t) M = some (enc (settle R (addT l t)), stR M 15 (settle R (addT l t))) := by
  unfold X_Circle_taught
  have hC2 : XC (stR M 15 (addT l t)) R := hC.off (Off.stR (S := [15]) (by decide)) (by decide)
  rw [row_take n h hl, bd_ret, row_add n (stR_at _ _ _) h ht, bd_ret, stR_stR, circ_settle n hn hR hC2 (stR_at _ _ _) (h.addT ht), bd_ret, stR_stR, row_atRest n (stR_at _ _ _) ((h.addT ht).settle hR) (settle_le9 hR _)]
  rfl
theorem circ_without (n : Nat) (hn : 17 ≤ n) {M : Mem} {l : List Nat} (h : Ro l) (hl : l.length ≤ 9) {t : Nat} (ht : t ∈ l) : X_Circle_without n (enc l) (nI t) M = some (enc (l.erase t), stR M 15 (l.erase t)) := by
  unfold X_Circle_without
  have hl2 : (l.erase t).length ≤ 9 := Nat.le_trans (List.length_erase_le) hl
  rw [row_take n h hl, bd_ret, row_drop n hn (stR_at _ _ _) h ht, bd_ret, stR_stR, row_atRest n (stR_at _ _ _) (h.erase t) hl2]
  rfl
theorem bit_or2 {gl a b : Nat} (hg : gl < 2 ^ 31) (ha : a < 32) (hb : b < 32) : ((((nI gl).toUInt32 >>> ((nI a).toUInt32 &&& Int32.toUInt32 31)).toInt32 ||| ((nI gl).toUInt32 >>> ((nI b).toUInt32 &&& Int32.toUInt32 31)).toInt32) &&& 1) = if gl.testBit a || gl.testBit b then 1 else 0 := by
  rw [i_ushr (by omega) ha, i_ushr (by omega) hb, i_or, show (1 : Int32) = nI 1 from rfl, i_and, and1]
  have e := Nat.or_mod_two_pow (a := gl / 2 ^ a) (b := gl / 2 ^ b) (n := 1)
  simp only [Nat.pow_one] at e
  rw [e, bitv, bitv]
  cases gl.testBit a <;> cases gl.testBit b <;> rfl
theorem circ_meet (n : Nat) (hn : 17 ≤ n) {M : Mem} {R : Rl} (hR : OkR R) (hC : XC M R) {rows : Nat} (hr : rows ≠ 11 ∧ rows ≠ 12 ∧ rows ≠ 13 ∧ rows ≠ 14 ∧ rows ≠ 15) {W : Nat → List Nat} (hW : OkW W) (hM : rowsAt M rows W) {gl x : Nat} (hg : gl < 2 ^ 31) (hx : x < 15) :
    ∃ r M', X_Circle_meet n rows (nI gl) (nI x) M = some (r, M') ∧ Off [15, rows] M M' ∧ rowsAt M' rows (handF R gl x W) ∧ ((r = 0 ∧ ∀ p, p < 6 → handF R gl x W p = W p) ∨ (r = 1 ∧ ∃ p, p < 6 ∧ handF R gl x W p ≠ W p)) := by
  obtain ⟨p1, p2, p3, p4, p5⟩ := les_gre x hx
  have v15 : vp_in (nI x) 15 := vp_in_nI hx (by decide)
  have va : vp_in (nI (les x)) 6 := vp_in_nI (by omega) (by decide)
  have vb : vp_in (nI (gre x)) 6 := vp_in_nI (by omega) (by decide)
  have ea : (nI (les x)).toNatClampNeg = les x := nI_clamp (by omega)
  have eb : (nI (gre x)).toNatClampNeg = gre x := nI_clamp (by omega)
  have ex : (nI x).toNatClampNeg = x := nI_clamp (by omega)
  simp only [X_Circle_meet, nm, gd_in v15, ex, p3, p4, gd_in va, gd_in vb, ea, eb]
  rw [if_neg (nI_pos (by omega)), if_pos (show nI x < 15 from nI_lt (b := 15) hx (by decide)), bit_or2 hg (by omega) (by omega)]
  have hun : handF R gl x W = if gl.testBit (les x) || gl.testBit (gre x) then W else fun p => if p = les x ∨ p = gre x then settle R (mergeT (W (les x)) (W (gre x))) else W p := rfl
  generalize les x = a at *
  generalize gre x = b at *
  by_cases hgl : (gl.testBit a || gl.testBit b) = true
  · rw [if_pos hgl] at hun
    rw [if_pos hgl, if_neg (by decide)]
    refine ⟨0, M, rfl, Off.rf, by rw [hun]; exact hM, Or.inl ⟨rfl, fun p hp => by rw [hun]⟩⟩
  · rw [if_neg hgl] at hun
    rw [if_neg hgl, if_pos rfl]
    have hr15 : (15 : Nat) ≠ rows := fun e => hr.2.2.2.2 e.symm
    have kr : ∀ l, (stR M 15 l).2 rows = M.2 rows := fun l => (stR_off hr.2.2.2.2).2
    have hA := hW a
    have hB := hW b
    have hl : Ro (settle R (mergeT (W a) (W b))) := (hA.1.merge hB.1.2).settle hR
    have hl9 := settle_le9 hR (mergeT (W a) (W b))
    have hC2 : XC (stR M 15 (mergeT (W a) (W b))) R := hC.off (Off.stR (S := [15]) (by decide)) (by decide)
    rw [hM a (by omega), row_take n hA.1 hA.2, bd_ret, kr, hM b (by omega), row_addAll n (by omega) (stR_at _ _ _) hA.1 hB.1 hB.2, stR_stR, bd_ret, circ_settle n hn hR hC2 (stR_at _ _ _) (hA.1.merge hB.1.2), stR_stR, bd_ret, row_atRest n (stR_at _ _ _) hl hl9, bd_ret, kr, hM a (by omega), hM b (by omega)]
    generalize settle R (mergeT (W a) (W b)) = l at *
    have key : ∀ u : Int32, (u = 0 ∨ u = 1) → ((u = 0 ∧ ∀ p, p < 6 → handF R gl x W p = W p) ∨ (u = 1 ∧ ∃ p, p < 6 ∧ handF R gl x W p ≠ W p)) → ∃ r M', zr u (sl (sl (stR M 15 l) rows a (enc l)) rows b (enc l)) = some (r, M') ∧ Off [15, rows] M M' ∧ rowsAt M' rows (handF R gl x W) ∧ ((r = 0 ∧ ∀ p, p < 6 → handF R gl x W p = W p) ∨ (r = 1 ∧ ∃ p, p < 6 ∧ handF R gl x W p ≠ W p)) := by
      intro u hu hu2
      refine ⟨u, _, if_pos hu, ?_, ?_, hu2⟩
      · exact ((Off.stR (S := [15, rows]) (by simp)).trans (Off.sl (by simp))).trans (Off.sl (by simp))
      · intro p hp
        rw [hun]
        show (if rows = rows ∧ p = b then enc l else if rows = rows ∧ p = a then enc l else (stR M 15 l).2 rows p) = enc (if p = a ∨ p = b then l else W p)
        rw [kr, hM p hp]
        by_cases e1 : p = b
        · simp [e1]
        · by_cases e2 : p = a
          · simp [e1, e2]
          · simp [e1, e2]
    have hne : ∀ q, q = a ∨ q = b → l ≠ W q → ∃ p, p < 6 ∧ handF R gl x W p ≠ W p := by
      intro q hq hlq
      refine ⟨q, by rcases hq with e | e <;> omega, ?_⟩
      rw [hun]
      dsimp only
      rw [if_pos hq]
      exact hlq
    by_cases e1 : l = W a
    · rw [if_pos (by rw [l_cmp0, e1])]
      by_cases e2 : l = W b
      · rw [if_pos (by rw [l_cmp0, e2])]
        refine key 0 (Or.inl rfl) (Or.inl ⟨rfl, fun p hp => ?_⟩)
        rw [hun]
        dsimp only
        split
        · next h => rcases h with h | h
                    · rw [h, e1]
                    · rw [h, e2]
        · rfl
      · rw [if_neg (by rw [l_cmp0, enc_inj hl hB.1 hl9 hB.2]; exact e2)]
        exact key 1 (Or.inr rfl) (Or.inr ⟨rfl, hne b (Or.inr rfl) e2⟩)
    · rw [if_neg (by rw [l_cmp0, enc_inj hl hA.1 hl9 hA.2]; exact e1)]
      exact key 1 (Or.inr rfl) (Or.inr ⟨rfl, hne a (Or.inl rfl) e1⟩)
def feastF (R : Rl) (gl : Nat) (hs : List Nat) (W : Nat → List Nat) : Nat → List Nat := hs.foldl (fun W h => handF R gl h W) W
theorem OkW.feast {R : Rl} (hR : OkR R) {gl : Nat} : ∀ (hs : List Nat) {W : Nat → List Nat}, OkW W → OkW (feastF R gl hs W)
  | [], _, h => h
  | x :: hs, W, h => OkW.feast hR hs (h.hand hR gl x)
theorem circ_celebrate (n : Nat) (hn : 17 ≤ n) {R : Rl} (hR : OkR R) {rows : Nat} (hr : rows ≠ 11 ∧ rows ≠ 12 ∧ rows ≠ 13 ∧ rows ≠ 14 ∧ rows ≠ 15) {gl : Nat} (hg : gl < 2 ^ 31) {k : Nat} (hk : k ≤ R.2.2.2.1.length) {M : Mem} (hC : XC M R) {W : Nat → List Nat} (hW : OkW W) (hM : rowsAt M rows W) :
    ∃ M', X_Circle_celebrate n rows (nI gl) (nI k) M = some ((), M') ∧ Off [15, rows] M M' ∧ rowsAt M' rows (feastF R gl (R.2.2.2.1.take k) W) := by
  have hl16 := hR.2.2.2.2.2.2.1
  have key : ∀ (d i f : Nat) (M : Mem) (W : Nat → List Nat), k - i = d → i ≤ k → d < f → XC M R → OkW W → rowsAt M rows W → ∃ M', X_Circle_celebrate_L3 n rows (nI gl) (nI k) f (nI i) M = some ((), M') ∧ Off [15, rows] M M' ∧ rowsAt M' rows (feastF R gl ((R.2.2.2.1.take k).drop i) W) := by
    intro d
    induction d with
    | zero =>
      intro i f M W h1 h2 h3 hC hW hM
      obtain ⟨f, rfl⟩ : ∃ g, f = g + 1 := ⟨f - 1, by omega⟩
      have e : i = k := by omega
      subst e
      refine ⟨M, ?_, Off.rf, ?_⟩
      · show (if nI i ≤ nI i then some ((), M) else _) = _
        rw [if_pos (nI_le (Nat.le_refl _) (by omega))]
      · rw [List.drop_eq_nil_of_le (by rw [List.length_take]; omega)]
        exact hM
    | succ d ih =>
      intro i f M W h1 h2 h3 hC hW hM
      obtain ⟨f, rfl⟩ : ∃ g, f = g + 1 := ⟨f - 1, by omega⟩
      have hi : i < R.2.2.2.1.length := by omega
      have e1 := hC.2.2.2.1
      have e2 := hC.2.2.2.2.2.2.1 i _ (List.getElem?_eq_getElem hi)
      have hx := hR.2.2.2.2.2.2.2.1 _ (List.getElem_mem hi)
      obtain ⟨r, M1, g1, g2, g3, -⟩ := circ_meet n hn hR hC hr hW hM hg hx.1
      have hC1 : XC M1 R := hC.off g2 (by simp; omega)
      obtain ⟨M2, q1, q2, q3⟩ := ih (i + 1) f M1 _ (by omega) (by omega) (by omega) hC1 (hW.hand hR gl _) g3
      refine ⟨M2, ?_, g2.trans q2, ?_⟩
      · show (if nI k ≤ nI i then some ((), M) else if M.1 11 5 ≤ nI i then some ((), M) else gd (nI i) 16 (bd (X_Circle_meet n rows (nI gl) (M.1 13 (nI i).toNatClampNeg) M) fun r1 M2 => X_Circle_celebrate_L3 n rows (nI gl) (nI k) f (nI i + 1) M2)) = _
        rw [if_neg (nI_ge (by omega) (by omega)), e1, if_neg (nI_ge hi (by omega)), gd_in (vp_in_nI (by omega) (by decide)), nI_clamp (by omega), e2, g1, bd_ret, nI_1]
        exact q1
      · have hd : (R.2.2.2.1.take k).drop i = R.2.2.2.1[i] :: (R.2.2.2.1.take k).drop (i + 1) := by
          rw [List.drop_eq_getElem_cons (by rw [List.length_take]; omega)]
          simp
        rw [hd]
        exact q3
  obtain ⟨M2, q1, q2, q3⟩ := key k 0 n M W rfl (Nat.zero_le _) (by omega) hC hW hM
  exact ⟨M2, q1, q2, q3⟩
theorem circ_liveDay (n : Nat) (hn : 17 ≤ n) {R : Rl} (hR : OkR R) {rows : Nat} (hr : rows ≠ 11 ∧ rows ≠ 12 ∧ rows ≠ 13 ∧ rows ≠ 14 ∧ rows ≠ 15) {gl : Nat} (hg : gl < 2 ^ 31) {M : Mem} (hC : XC M R) {W : Nat → List Nat} (hW : OkW W) (hM : rowsAt M rows W) :
    ∃ M', X_Circle_liveDay n rows (nI gl) M = some ((), M') ∧ Off [15, rows] M M' ∧ rowsAt M' rows (feastF R gl R.2.2.2.2 W) := by
  have hl8 := hR.2.2.2.2.2.2.2.2.1
  have key : ∀ (d i f : Nat) (M : Mem) (W : Nat → List Nat), R.2.2.2.2.length - i = d → i ≤ R.2.2.2.2.length → d < f → XC M R → OkW W → rowsAt M rows W → ∃ M', X_Circle_liveDay_L2 n rows (nI gl) f (nI i) M = some ((), M') ∧ Off [15, rows] M M' ∧ rowsAt M' rows (feastF R gl (R.2.2.2.2.drop i) W) := by
    intro d
    induction d with
    | zero =>
      intro i f M W h1 h2 h3 hC hW hM
      obtain ⟨f, rfl⟩ : ∃ g, f = g + 1 := ⟨f - 1, by omega⟩
      have e : i = R.2.2.2.2.length := by omega
      subst e
      refine ⟨M, ?_, Off.rf, ?_⟩
      · show (if M.1 11 7 ≤ nI R.2.2.2.2.length then some ((), M) else _) = _
        rw [hC.2.2.2.2.1, if_pos (nI_le (Nat.le_refl _) (by omega))]
      · rw [List.drop_length]
        exact hM
    | succ d ih =>
      intro i f M W h1 h2 h3 hC hW hM
      obtain ⟨f, rfl⟩ : ∃ g, f = g + 1 := ⟨f - 1, by omega⟩
      have hi : i < R.2.2.2.2.length := by omega
      have e1 := hC.2.2.2.2.1
      have e2 := hC.2.2.2.2.2.2.2 i _ (List.getElem?_eq_getElem hi)
      have hx := hR.2.2.2.2.2.2.2.2.2 _ (List.getElem_mem hi)
      obtain ⟨r, M1, g1, g2, g3, -⟩ := circ_meet n hn hR hC hr hW hM hg hx.1
      have hC1 : XC M1 R := hC.off g2 (by simp; omega)
      obtain ⟨M2, q1, q2, q3⟩ := ih (i + 1) f M1 _ (by omega) (by omega) (by omega) hC1 (hW.hand hR gl _) g3
      refine ⟨M2, ?_, g2.trans q2, ?_⟩
      · show (if M.1 11 7 ≤ nI i then some ((), M) else gd (nI i) 8 (bd (X_Circle_meet n rows (nI gl) (M.1 14 (nI i).toNatClampNeg) M) fun r1 M2 => X_Circle_liveDay_L2 n rows (nI gl) f (nI i + 1) M2)) = _
        rw [e1, if_neg (nI_ge hi (by omega)), gd_in (vp_in_nI (by omega) (by decide)), nI_clamp (by omega), e2, g1, bd_ret, nI_1]
        exact q1
      · rw [List.drop_eq_getElem_cons hi]
        exact q3
  obtain ⟨M2, q1, q2, q3⟩ := key _ 0 n M W rfl (Nat.zero_le _) (by omega) hC hW hM
  exact ⟨M2, q1, q2, q3⟩
-- who knows a thing, what anybody knows: bits of the first k people
def whoN (W : Nat → List Nat) (t : Nat) : Nat → Nat
  | 0 => 0
  | k + 1 => whoN W t k ||| (if t ∈ W k then 2 ^ k else 0)
def anyN (W : Nat → List Nat) : Nat → Nat
  | 0 => 0
  | k + 1 => anyN W k ||| knN (W k)
theorem whoN_bit (W : Nat → List Nat) (t p : Nat) : ∀ k, (whoN W t k).testBit p = decide (p < k ∧ t ∈ W p)
  | 0 => by simp [whoN]
  | k + 1 => by
    show (whoN W t k ||| (if t ∈ W k then 2 ^ k else 0)).testBit p = _
    rw [Nat.testBit_or, whoN_bit W t p k]
    by_cases e : p = k
    · subst e
      by_cases h : t ∈ W p <;> simp [h]
    · have e2 : ¬ k = p := fun q => e q.symm
      by_cases h : t ∈ W k
      · simp only [h, if_true, Nat.testBit_two_pow, e2, decide_false, Bool.or_false]
        congr 1
        exact propext ⟨fun q => ⟨by omega, q.2⟩, fun q => ⟨by omega, q.2⟩⟩
      · simp only [h, if_false, Nat.zero_testBit, Bool.or_false]
        congr 1
        exact propext ⟨fun q => ⟨by omega, q.2⟩, fun q => ⟨by omega, q.2⟩⟩
theorem whoN_lt (W : Nat → List Nat) (t k : Nat) : whoN W t k < 2 ^ k := Nat.lt_pow_two_of_testBit _ (fun i hi => by
  rw [whoN_bit]
  simp
  omega)
theorem minds_knowers (n : Nat) (hn : 7 ≤ n) {M : Mem} {rows : Nat} {W : Nat → List Nat} (hW : OkW W) (hM : rowsAt M rows W) {t : Nat} (ht : t < 16) : X_Minds_knowers n rows (nI t) M = some (nI (whoN W t 6), M) := by
  have key : ∀ (d i f : Nat), 6 - i = d → i ≤ 6 → d < f → X_Minds_knowers_L4 n rows (nI t) M f (nI (whoN W t i)) (nI i) = some (nI (whoN W t 6), M) := by
    intro d
    induction d with
    | zero =>
      intro i f h1 h2 h3
      obtain ⟨f, rfl⟩ : ∃ g, f = g + 1 := ⟨f - 1, by omega⟩
      have e : i = 6 := by omega
      subst e
      show (if (6 : Int32) ≤ nI 6 then _ else _) = _
      rw [if_pos (by decide)]
    | succ d ih =>
      intro i f h1 h2 h3
      obtain ⟨f, rfl⟩ : ∃ g, f = g + 1 := ⟨f - 1, by omega⟩
      have hi : i < 6 := by omega
      show (if (6 : Int32) ≤ nI i then _ else gd (nI i) 6 (X_Minds_knowers_L4 n rows (nI t) M f (nI (whoN W t i) ||| ((((M.2 rows (nI i).toNatClampNeg).toUInt64 >>> (((36 : Int32) + nI t).toInt64.toUInt64 &&& Int64.toUInt64 63)).toInt64 &&& 1 : Int64).toInt32 <<< (nI i &&& 31))) (nI i + 1))) = _
      rw [if_neg (show ¬ (6 : Int32) ≤ nI i from nI_ge (b := 6) hi (by decide)), gd_in (vp_in_nI hi (by decide)), nI_clamp (by omega), hM i hi, enc_bit (hW i).1 (hW i).2 ht, l_to, nI_1]
      have e : nI (if t ∈ W i then 1 else 0) <<< (nI i &&& 31) = nI (if t ∈ W i then 2 ^ i else 0) := by
        by_cases h : t ∈ W i
        · rw [if_pos h, if_pos h]
          exact i_shl1 (by omega)
        · rw [if_neg h, if_neg h, i_shl (by omega) (by omega), Nat.zero_mul]
      rw [e, i_or]
      exact ih (i + 1) f (by omega) (by omega) (by omega)
  exact key 6 0 n rfl (by decide) (by omega)
theorem or_div (a b k : Nat) : (a ||| b) / 2 ^ k = a / 2 ^ k ||| b / 2 ^ k := by
  rw [← Nat.shiftRight_eq_div_pow, ← Nat.shiftRight_eq_div_pow, ← Nat.shiftRight_eq_div_pow, Nat.shiftRight_or_distrib]
