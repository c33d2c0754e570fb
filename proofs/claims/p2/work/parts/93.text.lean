/-! CALLS: text -/
def D0 : Dr := (R0, fun _ => [], 0, 0, 0, 0, 0, 0)
theorem D0_ok : GD D0 := ⟨⟨by decide, by decide, by decide, by decide⟩, ⟨by decide, fun q h => absurd h List.not_mem_nil⟩, ⟨by decide, fun q h => absurd h List.not_mem_nil⟩, ⟨by decide, fun q h => absurd h List.not_mem_nil⟩, ⟨fun p => ⟨⟨List.nodup_nil, fun t h => absurd h List.not_mem_nil⟩, Nat.zero_le _⟩, fun _ _ => rfl, fun _ => Nat.le_refl _, Or.inl rfl⟩, ⟨by decide, fun p h => absurd (show (0 : Nat).testBit p = true from h) (by simp)⟩, ⟨by decide, fun p h => absurd (show (0 : Nat).testBit p = true from h) (by simp)⟩, by decide, by decide, by decide, by decide⟩
theorem any_nI (x : Int32) : ∃ k, x = nI k := ⟨x.toBitVec.toNat, i32_ext (by rw [nI_bv]; simp)⟩
theorem x_begin9 (n : Nat) (kx : Mem → Option (Unit × Mem)) : ∀ d i f M, i + d = 6 → d < f → (∀ p, p < i → M.2 9 p = 0) → ∃ M', X_Teller_begin_L9 n kx f (nI i) M = kx M' ∧ Fr (fun c _ => c = 9) M M' ∧ ∀ p, p < 6 → M'.2 9 p = 0
  | 0, i, f, M, h1, h2, h3 => by
    obtain ⟨f, rfl⟩ : ∃ q, f = q + 1 := ⟨f - 1, by omega⟩
    have : i = 6 := by omega
    subst this
    refine ⟨M, ?_, Fr.rf, h3⟩
    show (if (6 : Int32) ≤ nI 6 then kx M else _) = _
    rw [if_pos (by decide)]
  | d + 1, i, f, M, h1, h2, h3 => by
    obtain ⟨f, rfl⟩ : ∃ q, f = q + 1 := ⟨f - 1, by omega⟩
    obtain ⟨M', a1, a2, a3⟩ := x_begin9 n kx d (i + 1) f (sl M 9 i 0) (by omega) (by omega) (fun p hp => by
      show (if 9 = 9 ∧ p = i then (0 : Int64) else M.2 9 p) = 0
      split
      · rfl
      · rename_i e
        exact h3 p (by omega))
    refine ⟨M', ?_, (Fr.sl (P := fun c _ => c = 9) rfl).trans a2, a3⟩
    rw [← a1]
    show (if (6 : Int32) ≤ nI i then kx M else gd (nI i) 6 (X_Teller_begin_L9 n kx f (nI i + 1) (sl M 9 ((nI i).toNatClampNeg) 0))) = _
    rw [if_neg (show ¬ (6 : Int32) ≤ nI i from nI_ge (b := 6) (by omega) (by decide)), gd_in (vp_in_nI (n := i) (by omega) (by decide)), nI_clamp (by omega), nI_1]
theorem x_begin_t (n : Nat) (hn : 20 ≤ n) (M : Mem) : ∃ M', X_Teller_begin n M = some ((), M') ∧ Fr xd M M' ∧ XD M' D0 ∧ M'.1 3 3 = 0 ∧ M'.1 3 6 = 0 := by
  generalize hN : si (si (si (si (si M 4 0 3) 4 1 9) 4 3 0) 4 5 0) 4 7 0 = N
  have f1 : Fr xd M N := by
    rw [← hN]
    exact ((((Fr.si (by unfold xd; omega)).trans (Fr.si (by unfold xd; omega))).trans (Fr.si (by unfold xd; omega))).trans (Fr.si (by unfold xd; omega))).trans (Fr.si (by unfold xd; omega))
  obtain ⟨K, a1, a2, a3⟩ := x_begin9 n (fun M3 => some ((), si (si (si (si (si (si (si (si M3 3 2 0) 3 3 0) 3 6 0) 3 10 0) 3 11 0) 3 12 0) 3 13 0) 3 14 0)) 6 0 n N rfl (by omega) (fun p hp => absurd hp (Nat.not_lt_zero p))
  have eK : ∀ k, K.1 4 k = N.1 4 k := fun k => (a2 4 k (by decide : ¬ 4 = 9)).1
  have f2 : Fr xd K (si (si (si (si (si (si (si (si K 3 2 0) 3 3 0) 3 6 0) 3 10 0) 3 11 0) 3 12 0) 3 13 0) 3 14 0) := (((((((Fr.si (by unfold xd; omega)).trans (Fr.si (by unfold xd; omega))).trans (Fr.si (by unfold xd; omega))).trans (Fr.si (by unfold xd; omega))).trans (Fr.si (by unfold xd; omega))).trans (Fr.si (by unfold xd; omega))).trans (Fr.si (by unfold xd; omega))).trans (Fr.si (by unfold xd; omega))
  refine ⟨_, ?_, (f1.trans (a2.mono (fun c k q => by unfold xd; omega))).trans f2, ⟨⟨?_, ?_, ?_, ?_, ?_, fun j q h => absurd h (by simp [D0, R0]), fun i h hi => absurd hi (by simp [D0, R0]), fun i h hi => absurd hi (by simp [D0, R0])⟩, fun p hp => ?_, ⟨rfl, rfl, rfl, rfl, rfl, rfl⟩⟩, rfl, rfl⟩
  · unfold X_Teller_begin X_Circle_beAsAtFirst
    rw [bd_ret, hN]
    exact a1
  · show K.1 4 0 = nI 3
    rw [eK, ← hN]; rfl
  · show K.1 4 1 = nI 9
    rw [eK, ← hN]; rfl
  · show K.1 4 3 = nI 0
    rw [eK, ← hN]; rfl
  · show K.1 4 5 = nI 0
    rw [eK, ← hN]; rfl
  · show K.1 4 7 = nI 0
    rw [eK, ← hN]; rfl
  · show K.2 9 p = enc []
    rw [enc_nil]
    exact a3 p hp
def hc (W : WW) (H : Nat) : Nat → Bool
  | 0 => true
  | d + 1 => decide ((W (6 - (d + 1))).length ≤ H) && hc W H d
theorem hc_iff (W : WW) (H : Nat) : ∀ d, d ≤ 6 → (hc W H d = true ↔ ∀ p, 6 - d ≤ p → p < 6 → (W p).length ≤ H)
  | 0, _ => ⟨fun _ p h1 h2 => by omega, fun _ => rfl⟩
  | d + 1, hd => by
    unfold hc
    rw [Bool.and_eq_true, decide_eq_true_iff, hc_iff W H d (by omega)]
    constructor
    · intro ⟨a, b⟩ p h1 h2
      by_cases e : p = 6 - (d + 1)
      · rw [e]; exact a
      · exact b p (by omega) h2
    · intro h
      exact ⟨h _ (Nat.le_refl _) (by omega), fun p h1 h2 => h p (by omega) h2⟩
theorem m_held (n : Nat) {M : Mem} {W : WW} {H : Nat} (hW : OkW W) (hH : H < 100) (h13 : M.1 0 13 = nI H) (hL : LyM M 11 0 W) : ∀ d f b, d ≤ 6 → d < f → X_Model_isHeld_L4 n M f (if b = true then 1 else 0) (nI (6 - d)) = some (if (b && hc W H d) = true then 1 else 0, M)
  | 0, f, b, h1, h2 => by
    obtain ⟨f, rfl⟩ : ∃ q, f = q + 1 := ⟨f - 1, by omega⟩
    show (if (6 : Int32) ≤ nI 6 then zr (if b = true then 1 else 0) M else _) = _
    rw [if_pos (by decide), zr_b]
    cases b <;> rfl
  | d + 1, f, b, h1, h2 => by
    obtain ⟨f, rfl⟩ : ∃ q, f = q + 1 := ⟨f - 1, by omega⟩
    have hp : 6 - (d + 1) < 6 := by omega
    have hl := (hL (6 - (d + 1)) hp).1
    have h9 := (hW (6 - (d + 1))).2
    rw [show 0 + 10 * (6 - (d + 1)) = 10 * (6 - (d + 1)) by omega] at hl
    have e6 : nI (6 - (d + 1)) + 1 = nI (6 - d) := by rw [nI_1, show 6 - (d + 1) + 1 = 6 - d by omega]
    show (if (6 : Int32) ≤ nI (6 - (d + 1)) then zr (if b = true then 1 else 0) M else nm (fun (u1 : Int32) => (X_Model_isHeld_L4 n M f u1 (nI (6 - (d + 1)) + 1) : Option (Int32 × Mem))) fun k35 => (if (if b = true then (1 : Int32) else 0) = 0 then k35 0 else gd ((10 : Int32) * nI (6 - (d + 1))) 60 (if (M.1 0 13) < (M.1 11 ((10 : Int32) * nI (6 - (d + 1))).toNatClampNeg) then k35 0 else k35 1))) = _
    rw [if_neg (show ¬ (6 : Int32) ≤ nI (6 - (d + 1)) from nI_ge (b := 6) hp (by decide)), nm_eq, e6]
    dsimp only
    unfold hc
    have k0 := m_held n hW hH h13 hL d f false (by omega) (by omega)
    have k1 := m_held n hW hH h13 hL d f true (by omega) (by omega)
    cases b with
    | false =>
      rw [if_pos (show (if false = true then (1 : Int32) else 0) = 0 from rfl), Bool.false_and]
      exact k0
    | true =>
      rw [if_neg (show ¬ (if true = true then (1 : Int32) else 0) = 0 by decide), show (10 : Int32) = nI 10 from rfl, pk_mul, gd_in (vp_in_nI (n := 10 * (6 - (d + 1))) (by omega) (by decide)), nI_clamp (by omega), hl, h13, Bool.true_and]
      by_cases e : (W (6 - (d + 1))).length ≤ H
      · rw [if_neg (Int32.not_lt.mpr (nI_le e (by omega))), decide_eq_true e]
        exact k1
      · rw [if_pos (nI_lt (by omega) (by omega)), decide_eq_false e, Bool.false_and]
        exact k0
theorem held_lg {D : Dr} (h : GD D) : hc D.W D.R.2.1 6 = true ↔ D.lg ≤ D.R.2.1 := by
  rw [hc_iff _ _ 6 (by omega)]
  constructor
  · intro a
    rcases h.2.2.2.2.1.2.2.2 with e | ⟨p, e⟩
    · omega
    · by_cases hp : p < 6
      · have := a p (by omega) hp
        omega
      · have h7 := h.2.2.2.2.2.2.1
        have : D.W p = [] := h.2.2.2.2.1.2.1 p (by
          cases q : D.kn.testBit p with
          | false => rfl
          | true => have := h7.2 p q; have := h.2.2.2.2.2.2.2.1; omega)
        rw [this, List.length_nil] at e
        omega
  · intro a p _ _
    have := h.2.2.2.2.1.2.2.1 p
    omega
theorem x_copy_t (n : Nat) {M : Mem} {R : Rl} (h : XD4 M R) (h1 : R.2.2.1.length ≤ 4) (h2 : R.2.2.2.1.length ≤ 16) (h3 : R.2.2.2.2.length ≤ 8) : ∃ M', X_Circle_copy n M = some ((), M') ∧ Fr (fun c _ => 11 ≤ c ∧ c ≤ 14) M M' ∧ XC M' R := by
  obtain ⟨a1, a2, a3, a4, a5, a6, a7, a8⟩ := h
  generalize hN : si (si (si (si (si M 11 0 (M.1 4 0)) 11 1 (M.1 4 1)) 11 3 (M.1 4 3)) 11 5 (M.1 4 5)) 11 7 (M.1 4 7) = N
  have fN : Fr (fun c _ => c = 11) M N := by
    rw [← hN]
    exact ((((Fr.si (P := fun c _ => c = 11) rfl).trans (Fr.si (P := fun c _ => c = 11) rfl)).trans (Fr.si (P := fun c _ => c = 11) rfl)).trans (Fr.si (P := fun c _ => c = 11) rfl)).trans (Fr.si (P := fun c _ => c = 11) rfl)
  have un : X_Circle_copy n M = some ((), cpI (cpI (cpI N 5 0 12 0 12) 6 0 13 0 16) 7 0 14 0 8) := by
    rw [← hN]
    rfl
  have f3 : Fr (fun c _ => 11 ≤ c ∧ c ≤ 14) M (cpI (cpI (cpI N 5 0 12 0 12) 6 0 13 0 16) 7 0 14 0 8) := (((fN.mono (fun c k q => by omega)).trans (Fr.cpI (fun _ _ _ => ⟨by decide, by decide⟩))).trans (Fr.cpI (fun _ _ _ => ⟨by decide, by decide⟩))).trans (Fr.cpI (fun _ _ _ => ⟨by decide, by decide⟩))
  have e12 : ∀ k, k < 12 → (cpI (cpI (cpI N 5 0 12 0 12) 6 0 13 0 16) 7 0 14 0 8).1 12 k = M.1 5 k := fun k hk => by
    show (cpI N 5 0 12 0 12).1 12 k = _
    have := cpI_at (M := N) (a := 5) (sp := 0) (b := 12) (dp := 0) hk
    rw [Nat.zero_add] at this
    rw [this, (fN 5 k (by decide : ¬ 5 = 11)).1]
  have e13 : ∀ k, k < 16 → (cpI (cpI (cpI N 5 0 12 0 12) 6 0 13 0 16) 7 0 14 0 8).1 13 k = M.1 6 k := fun k hk => by
    show (cpI (cpI N 5 0 12 0 12) 6 0 13 0 16).1 13 k = _
    have := cpI_at (M := cpI N 5 0 12 0 12) (a := 6) (sp := 0) (b := 13) (dp := 0) hk
    rw [Nat.zero_add] at this
    rw [this]
    show N.1 6 k = _
    rw [(fN 6 k (by decide : ¬ 6 = 11)).1]
  have e14 : ∀ k, k < 8 → (cpI (cpI (cpI N 5 0 12 0 12) 6 0 13 0 16) 7 0 14 0 8).1 14 k = M.1 7 k := fun k hk => by
    have := cpI_at (M := cpI (cpI N 5 0 12 0 12) 6 0 13 0 16) (a := 7) (sp := 0) (b := 14) (dp := 0) hk
    rw [Nat.zero_add] at this
    rw [this]
    show N.1 7 k = _
    rw [(fN 7 k (by decide : ¬ 7 = 11)).1]
  refine ⟨_, un, f3, ?_, ?_, ?_, ?_, ?_, fun j q hq => ?_, fun i x hi => ?_, fun i x hi => ?_⟩
  · show N.1 11 0 = _
    rw [← hN]; exact a1
  · show N.1 11 1 = _
    rw [← hN]; exact a2
  · show N.1 11 3 = _
    rw [← hN]; exact a3
  · show N.1 11 5 = _
    rw [← hN]; exact a4
  · show N.1 11 7 = _
    rw [← hN]; exact a5
  · have := (List.getElem?_eq_some_iff.mp hq).1
    rw [e12 _ (by omega), e12 _ (by omega), e12 _ (by omega)]
    exact a6 j q hq
  · have := (List.getElem?_eq_some_iff.mp hi).1
    rw [e13 _ (by omega)]
    exact a7 i x hi
  · have := (List.getElem?_eq_some_iff.mp hi).1
    rw [e14 _ (by omega)]
    exact a8 i x hi
theorem sT (f : Nat) (hf : f < 8) (f' : Nat) (hf' : f' < 8) : (f + 8 * f') % 8 = f ∧ (f + 8 * f') / 8 = f' ∧ f + 8 * f' < 64 := by omega
def tS (S : Ab) (f f' : Nat) : Ab := (S.R, S.A, S.I, S.kp, [], f + 8 * f', S.tn, S.sh, S.ce)
theorem tS_ok {S : Ab} (h : Ok S) {f f' : Nat} (hf : f < 8) (hf' : f' < 8) : Ok (tS S f f') := ⟨h.hR, h.hA, h.hI, h.hk, by show (0 : Nat) ≤ 320; decide, fun x hx => absurd hx List.not_mem_nil, (sT f hf f' hf').2.2, h.hn, h.hs⟩
def oL : List Nat := [1, 3, 4, 5, 6, 7, 8, 9, 10]
theorem oL_in {a : Nat} (h : a ∈ oL) : a = 1 ∨ (3 ≤ a ∧ a ≤ 10) := by
  simp only [oL, List.mem_cons, List.not_mem_nil, or_false] at h
  omega
theorem oL_of {a : Nat} (h : a = 1 ∨ (3 ≤ a ∧ a ≤ 10)) : a ∈ oL := by
  simp only [oL, List.mem_cons, List.not_mem_nil, or_false]
  omega
theorem xd_off {M M' : Mem} (h : Fr xd M M') : Off oL M (si M' 1 1 0) := fun a ha => by
  have hx : ∀ k, ¬ xd a k := fun k q => ha (oL_of (by unfold xd at q; omega))
  refine ⟨funext fun k => ?_, funext fun k => (h a k (hx k)).2⟩
  rw [si_ne (Or.inl (fun q => ha (oL_of (Or.inl q)))), (h a k (hx k)).1]
theorem tS_x {M N : Mem} {S : Ab} (hM : XA M S) (ho : Off oL M N) (h1 : N.1 1 1 = 0) {f f' : Nat} (hf : f < 8) (hf' : f' < 8) (h3 : N.1 3 3 = nI f) : XA N (tS S f f') := by
  have no : ∀ a, ¬ (a = 1 ∨ (3 ≤ a ∧ a ≤ 10)) → a ∉ oL := fun a h q => h (oL_in q)
  refine ⟨hM.c.off ho ⟨no _ (by omega), no _ (by omega), no _ (by omega), no _ (by omega)⟩, hM.a.off ho (no _ (by omega)) (no _ (by omega)) (no _ (by omega)), fun k hk hb => (hM.i k hk hb).off ho (no _ (by omega)) (no _ (by omega)) (no _ (by omega)), ?_, ?_, h1, fun i x hi => absurd (show ([] : List Nat)[i]? = some x from hi) (by simp), ?_, fun k hk => (hM.sh k hk).off ho (no _ (by omega)) (no _ (by omega))⟩
  · exact (congrFun (ho 0 (no _ (by omega))).1 9).trans hM.kp
  · exact (congrFun (ho 0 (no _ (by omega))).1 10).trans hM.tn
  · show N.1 3 3 = nI ((f + 8 * f') % 8)
    rw [(sT f hf f' hf').1]
    exact h3
theorem tS_m {M N : Mem} {S : Ab} (hS : Ok S) (hM : MA M S) (ho : Fr yd M N) {f f' : Nat} (hf : f < 8) (hf' : f' < 8) (h3 : N.1 0 31 = nI f') : MA (si N 0 26 0) (tS S f f') := by
  have f1 : Fr (fun c k => yd c k ∨ (c = 0 ∧ k = 26)) M (si N 0 26 0) := (ho.mono (fun c k q => Or.inl q)).trans (Fr.si (Or.inr ⟨rfl, rfl⟩))
  refine ⟨hM.c.fr f1 (fun k hk q => by simp only [List.mem_cons, List.not_mem_nil, or_false] at hk; unfold yd at q; omega) (fun a k ha q => by simp only [List.mem_cons, List.not_mem_nil, or_false] at ha; unfold yd at q; omega), hM.a.fr hS.hA.1 f1 (fun k _ _ q => by unfold yd at q; omega), fun k hk hb => (hM.i k hk hb).fr (hS.hI k hk hb).1 f1 (fun j _ _ q => by unfold yd at q; omega), fun k hk => ?_, ?_, rfl, fun i x hi => absurd (show ([] : List Nat)[i]? = some x from hi) (by simp), ?_, fun k hk => (hM.sh k hk).fr f1 (fun a j _ _ q => by unfold yd at q; omega)⟩
  · rw [(f1 2 k (fun q => by unfold yd at q; omega)).1]; exact hM.kp k hk
  · rw [(f1 0 54 (fun q => by unfold yd at q; omega)).1]; exact hM.tn
  · show N.1 0 31 = nI ((f + 8 * f') / 8)
    rw [(sT f hf f' hf').2.1]
    exact h3
def gS (S : Ab) (D : Dr) : Ab := (D.R, (D.W, D.gl, 0, fun _ => 0), S.I, 0, [], 0, S.tn, S.sh, S.ce)
theorem gS_ok {S : Ab} (h : Ok S) {D : Dr} (hG : GD D) (hh : D.hi < D.R.1) : Ok (gS S D) := by
  obtain ⟨a1, a2, a3, a4, a5, a6, a7, a8, a9, a10, a11⟩ := hG
  refine ⟨⟨a1.1, a1.2.1, a1.2.2.1, a1.2.2.2, a2.1, a2.2, a3.1, fun x hx => ⟨(a3.2 x hx).1, by have := (a3.2 x hx).2; show gre x < D.R.1; omega⟩, a4.1, fun x hx => ⟨(a4.2 x hx).1, by have := (a4.2 x hx).2; show gre x < D.R.1; omega⟩⟩, ⟨a5.1, fun p hp => a5.2.1 p ?_, lt_bits (fun i hi => ?_), Nat.two_pow_pos _, fun _ => by show 0 < 65536; decide⟩, fun k hk hb => absurd (show (0 : Nat).testBit k = true from hb) (by simp), by show 0 < 4; decide, by show 0 ≤ 320; decide, fun x hx => absurd hx List.not_mem_nil, by show 0 < 64; decide, h.hn, h.hs⟩
  · have hp : D.R.1 ≤ p := hp
    cases q : D.kn.testBit p with
    | false => rfl
    | true => have := a7.2 p q; omega
  · have hi : D.R.1 ≤ i := hi
    cases q : D.gl.testBit i with
    | false => exact q
    | true => have := a6.2 i q; omega
theorem text_n (n : Nat) (hn : 400 ≤ n) (Mx Mm : Mem) (hR : Rel Mx Mm) : ∃ r Mx2 Mm2, X_ShakeHands_text n Mx = some (r, Mx2) ∧ X_Model_text n Mm = some (r, Mm2) ∧ Rel Mx2 Mm2 := by
  obtain ⟨S, hS, hx, hm⟩ := hR
  have hL := hS.ht
  -- both begin
  obtain ⟨X0, a1, a2, a3, a4, a5⟩ := x_begin_t n (by omega) Mx
  obtain ⟨k7, e7⟩ := any_nI (X0.1 3 7)
  obtain ⟨k8, e8⟩ := any_nI (X0.1 3 8)
  obtain ⟨k9, e9⟩ := any_nI (X0.1 3 9)
  have xT0 : XTp X0 S.tp := XTp.dr ⟨hx.tl, hx.tb, hL, hS.hb⟩ a2
  have xS0 : XT X0 (0, 0, k7, k8, k9) := ⟨a4, a5, e7, e8, e9⟩
  generalize hN1 : si (si Mm 0 31 0) 0 27 0 = N1
  have f1 : Fr yd Mm N1 := by
    rw [← hN1]
    exact (Fr.si (by unfold yd; omega)).trans (Fr.si (by unfold yd; omega))
  obtain ⟨N3, b1, b2, b3, b4, b5, b6, b7⟩ := m_firstDraft n (by omega) N1
  have f3 : Fr yd N1 N3 := b7.mono (fun c k q => by unfold fd at q; unfold yd; omega)
  have f13 := f1.trans f3
  have mT3 : MTp N3 S.tp := MTp.fr ⟨hm.tl, hm.tb, hL, hS.hb⟩ f13 (fun c k q => by unfold yd at q; omega)
  obtain ⟨j32, i32⟩ := any_nI (N3.1 0 32)
  obtain ⟨j28, i28⟩ := any_nI (N3.1 0 28)
  obtain ⟨j29, i29⟩ := any_nI (N3.1 0 29)
  obtain ⟨j30, i30⟩ := any_nI (N3.1 0 30)
  have mS3 : MT N3 (0, j32, 0, j28, j29, j30) := ⟨by rw [(b7 0 31 (by unfold fd; omega)).1, ← hN1]; rfl, i32, by rw [(b7 0 27 (by unfold fd; omega)).1, ← hN1]; rfl, i28, i29, i30⟩
  have w0 : OkW (fun _ : Nat => ([] : List Nat)) := fun p => ⟨⟨List.nodup_nil, fun t h => absurd h List.not_mem_nil⟩, Nat.zero_le _⟩
  have y3 : YD N3 D0 := ⟨b2, fun p hp => by rw [b5 p hp]; show (0 : Int32) = nI (if (0 : Nat).testBit p then 1 else 0); rw [Nat.zero_testBit]; rfl, b4, b3⟩
  obtain ⟨N5, c1, c2, c3⟩ := m_next n hn mT3 (by show 0 < 8; decide) (Nat.zero_le _) mS3
  have hQ0 : QT (rdX S.tp (0, 0, k7, k8, k9)) (rdM S.tp (0, j32, 0, j28, j29, j30)) := tok_Q rfl rfl rfl
  have yW5 : YW N5 S.tp (rdM S.tp (0, j32, 0, j28, j29, j30)) D0 := ⟨mT3.fr c3 (fun c k q => by unfold mt at q; omega), rdM_ok0 rfl (Nat.zero_le _), c2, fun _ => ⟨y3.mt w0 c3, w0⟩⟩
  generalize hkx : (fun (y7 : Int32) (M8 : Mem) => bd (X_Teller_lookBack n M8) fun _ M10 => (if (M10.1 3 3) = 0 then some (y7, M10) else some ((((-10) : Int32) - (M10.1 3 8)), M10))) = kx
  generalize hky : (fun (y8 : Int32) (M9 : Mem) => nm (fun (M10 : Mem) => (nm (si M10 0 26 0) fun N11 => (if (N11.1 0 31) ≤ 0 then bd (X_Model_keepDraft n N11) fun _ M13 => some (y8, M13) else some ((((-10) : Int32) - (N11.1 0 32)), N11)) : Option (Int32 × Mem))) fun k83 => (if (M9.1 0 31) = 0 then nm (fun (u14 : Int32) => (bd (X_Model_needs n u14 6 M9) fun _ M16 => bd (X_Model_isHeld n M16) fun r17 M18 => bd (X_Model_needs n r17 7 M18) fun _ M20 => k83 M20 : Option (Int32 × Mem))) fun k68 => (if (M9.1 0 12) ≤ (M9.1 0 17) then k68 0 else k68 1) else k83 M9)) = ky
  obtain ⟨X', Y', s', t', v', g1, g2, i1, i2, i3, i4, i5, i6, i7, i8, i9, i10'⟩ := text_loop n hn kx ky hL S.tp.length 0 n n X0 N5 (0, 0, k7, k8, k9) (rdM S.tp (0, j32, 0, j28, j29, j30)) D0 (by omega) (by omega) (by omega) (Nat.zero_le _) rfl ⟨xT0, Nat.zero_le _, xS0, a3⟩ D0_ok yW5 hQ0
  have ux : X_Teller_tell n Mx = kx (nI v') X' := by
    unfold X_Teller_tell
    rw [a1, bd_ret, hkx]
    exact g1
  have uy : X_Model_text n Mm = ky (nI v') Y' := by
    unfold X_Model_text
    rw [nm_eq, hN1, b1, bd_ret, c1, bd_ret, hky]
    exact g2
  have fX := a2.trans i9
  have fY := (f13.trans (mt_yd c3)).trans i10'
  have h8' := i5.1
  -- where both stop
  have bad : ∀ (X2 Y2 : Mem) (s2 : Tk) (t2 : Tm), Qbad s2 t2 → XT X2 s2 → MT Y2 t2 → Fr xd Mx X2 → Fr yd Mm Y2 → (X_Teller_tell n Mx = (if (X2.1 3 3) = 0 then some (nI v', X2) else some ((((-10) : Int32) - (X2.1 3 8)), X2))) → (X_Model_text n Mm = (if ((si Y2 0 26 0).1 0 31) ≤ 0 then bd (X_Model_keepDraft n (si Y2 0 26 0)) fun _ M13 => some (nI v', M13) else some ((((-10) : Int32) - ((si Y2 0 26 0).1 0 32)), si Y2 0 26 0))) → ∃ r Mx2 Mm2, X_ShakeHands_text n Mx = some (r, Mx2) ∧ X_Model_text n Mm = some (r, Mm2) ∧ Rel Mx2 Mm2 := by
    intro X2 Y2 s2 t2 q1 q2 q3 q4 q5 q6 q7
    have n1 : ¬ nI s2.1 = 0 := fun q => q1.1 ((i_z (by have := q1.2.2.1; omega)).mp q)
    have n2 : ¬ nI t2.1 ≤ 0 := nI_ge (a := 0) (by have := q1.2.1; omega) (by have := q1.2.2.2.1; omega)
    rw [q2.1, if_neg n1, q2.2.2.2.1] at q6
    have e31 : (si Y2 0 26 0).1 0 31 = nI t2.1 := q3.1
    have e32 : (si Y2 0 26 0).1 0 32 = nI t2.2.1 := q3.2.1
    rw [e31, if_neg n2, e32] at q7
    refine ⟨_, si X2 1 1 0, si Y2 0 26 0, ?_, by rw [q7, ← q1.2.2.2.2], tS S s2.1 t2.1, tS_ok hS q1.2.2.1 q1.2.2.2.1, tS_x hx (xd_off q4) (si_at _ _ _ _) q1.2.2.1 q1.2.2.2.1 q2.1, tS_m hS hm q5 q1.2.2.1 q1.2.2.2.1 q3.1⟩
    unfold X_ShakeHands_text
    rw [q6, bd_ret, nm_eq, show (si X2 1 1 0).1 3 3 = nI s2.1 from q2.1, if_neg n1]
  have ekx : kx (nI v') X' = bd (X_Teller_lookBack n X') fun _ M10 => (if (M10.1 3 3) = 0 then some (nI v', M10) else some ((((-10) : Int32) - (M10.1 3 8)), M10)) := by rw [← hkx]
  have eky : ky (nI v') Y' = (if (Y'.1 0 31) = 0 then (bd (X_Model_needs n (if (Y'.1 0 12) ≤ (Y'.1 0 17) then 0 else 1) 6 Y') fun _ M16 => bd (X_Model_isHeld n M16) fun r17 M18 => bd (X_Model_needs n r17 7 M18) fun _ M20 => (if ((si M20 0 26 0).1 0 31) ≤ 0 then bd (X_Model_keepDraft n (si M20 0 26 0)) fun _ M13 => some (nI v', M13) else some ((((-10) : Int32) - ((si M20 0 26 0).1 0 32)), si M20 0 26 0))) else (if ((si Y' 0 26 0).1 0 31) ≤ 0 then bd (X_Model_keepDraft n (si Y' 0 26 0)) fun _ M13 => some (nI v', M13) else some ((((-10) : Int32) - ((si Y' 0 26 0).1 0 32)), si Y' 0 26 0))) := by
    rw [← hky]
    dsimp only
    rw [nm_eq, nm_eq]
    by_cases q : (Y'.1 0 12) ≤ (Y'.1 0 17)
    · rw [if_pos q, if_pos q]; rfl
    · rw [if_neg q, if_neg q]; rfl
  by_cases e0 : s'.1 = 0
  · have hQ : Qok s' t' := by
      rcases i7 with q | q
      · exact q
      · exact absurd e0 q.1
    obtain ⟨D', xD, yD, gD⟩ := i8 e0
    have hhi := gD.2.2.2.2.2.2.2.1
    have hlg := gD.2.2.2.2.2.2.2.2.2.2
    have hP := gD.1
    have hWD := gD.2.2.2.2.1.1
    have sT8 : s'.1 < 8 := i3
    have t0 : nI t'.1 = 0 := by rw [hQ.2.1]; rfl
    have c13 : X'.1 3 13 = nI D'.hi := xD.2.2.2.2.2.2.1
    have c14 : X'.1 3 14 = nI D'.lg := xD.2.2.2.2.2.2.2
    have c40 : X'.1 4 0 = nI D'.R.1 := xD.1.1
    have c41 : X'.1 4 1 = nI D'.R.2.1 := xD.1.2.1
    have y12 : Y'.1 0 12 = nI D'.R.1 := yD.1.1
    have y17 : Y'.1 0 17 = nI D'.hi := yD.2.2.2
    have hle : ((Y'.1 0 12) ≤ (Y'.1 0 17)) ↔ ¬ D'.hi < D'.R.1 := by
      rw [y12, y17]
      constructor
      · intro q r
        exact absurd q (nI_ge r (by omega))
      · intro q
        exact nI_le (by omega) (by omega)
    obtain ⟨Y2, d1, d2, d3⟩ := m_needs n (p1 := if (Y'.1 0 12) ≤ (Y'.1 0 17) then 0 else 1) (ok := decide (D'.hi < D'.R.1)) (by
      by_cases q : D'.hi < D'.R.1
      · rw [if_neg (fun r => (hle.mp r) q), decide_eq_true q]; decide
      · rw [if_pos (hle.mpr q), decide_eq_false q]; decide) 6 h8' i6
    have yD2 := yD.mt hWD d3
    have hd := m_held n hWD (by omega) yD2.1.2.1 yD2.1.2.2.2.2.2.2.2.2.1 6 n true (by omega) (by omega)
    rw [Bool.true_and] at hd
    have hd : X_Model_isHeld n Y2 = some (if hc D'.W D'.R.2.1 6 = true then 1 else 0, Y2) := hd
    have t2ok := (ned_okM (ok := decide (D'.hi < D'.R.1)) (f := 6) (by decide) i5)
    obtain ⟨Y3, j1, j2, j3⟩ := m_needs n (p1 := if hc D'.W D'.R.2.1 6 = true then 1 else 0) (ok := hc D'.W D'.R.2.1 6) (by cases hc D'.W D'.R.2.1 6 <;> decide) 7 t2ok.1 d2
    have uy3 : X_Model_text n Mm = (if ((si Y3 0 26 0).1 0 31) ≤ 0 then bd (X_Model_keepDraft n (si Y3 0 26 0)) fun _ M13 => some (nI v', M13) else some ((((-10) : Int32) - ((si Y3 0 26 0).1 0 32)), si Y3 0 26 0)) := by
      rw [uy, eky, i6.1, if_pos t0, show X_Model_needs n (if (Y'.1 0 12) ≤ (Y'.1 0 17) then 0 else 1) 6 Y' = _ from d1, bd_ret, hd, bd_ret, show X_Model_needs n (if hc D'.W D'.R.2.1 6 = true then 1 else 0) 7 Y2 = _ from j1, bd_ret]
    have fY3 := (fY.trans (mt_yd d3)).trans (mt_yd j3)
    have hbad : ∀ f, 0 < f ∧ f < 8 → (rfs true f s' = (f, s'.2)) ∧ ned false f t' = (f, t'.2.2.2.1, t'.2.2) ∧ Qbad (f, s'.2) (f, t'.2.2.2.1, t'.2.2) := fun f hf => ⟨by unfold rfs; rw [if_pos rfl, if_pos e0], by unfold ned; rw [if_neg Bool.false_ne_true, if_pos hQ.2.1], by show f ≠ 0; omega, by show f ≠ 0; omega, hf.2, hf.2, hQ.2.2.2.2.1⟩
    by_cases hA : D'.hi < D'.R.1
    · rw [decide_eq_true hA] at j2
      have j2 : MT Y3 (ned (hc D'.W D'.R.2.1 6) 7 t') := j2
      by_cases hB : D'.lg ≤ D'.R.2.1
      · -- the text is taken
        rw [(held_lg gD).mpr hB] at j2
        have j2 : MT Y3 t' := j2
        have lb : X_Teller_lookBack n X' = some ((), X') := by
          unfold X_Teller_lookBack
          rw [nm_eq, c13, c40, if_pos (nI_lt hA (by omega))]
          dsimp only
          rw [c14, c41, if_pos (nI_le hB (by omega))]
        have e33 : X'.1 3 3 = 0 := by rw [i2.1, e0]; rfl
        have ux3 : X_Teller_tell n Mx = some (nI v', X') := by
          rw [ux, ekx, lb, bd_ret, if_pos e33]
        have fN : Fr (fun c k => c = 1 ∧ k = 1) X' (si X' 1 1 0) := Fr.si ⟨rfl, rfl⟩
        obtain ⟨M5, m1, m2, m3⟩ := x_copy_t n (xD.1.fr fN (fun c k q => by omega)) gD.2.1.1 gD.2.2.1.1 gD.2.2.2.1.1
        have okS := gS_ok hS gD hA
        have oX : Off oL Mx (si X' 1 1 0) := xd_off fX
        have no : ∀ a, ¬ (a = 1 ∨ (3 ≤ a ∧ a ≤ 10)) → a ∉ oL := fun a h q => h (oL_in q)
        generalize hF : si (si (si (cpL M5 9 0 17 0 6) 16 1 ((cpL M5 9 0 17 0 6).1 3 2)) 16 2 0) 0 9 0 = F
        have uxF : X_ShakeHands_text n Mx = some (nI v', F) := by
          unfold X_ShakeHands_text
          rw [ux3, bd_ret, nm_eq, show (si X' 1 1 0).1 3 3 = 0 from e33, if_pos rfl, m1, bd_ret, ← hF]
          unfold gc
          rw [if_neg (show ¬ ((0 : Int32) < 0 ∨ (0 : Int32) < 0 ∨ (6 : Int32) < 0 ∨ 6 < (0 : Int32).toNatClampNeg + (6 : Int32).toNatClampNeg ∨ 6 < (0 : Int32).toNatClampNeg + (6 : Int32).toNatClampNeg) by decide), nm_eq]
          rfl
        have F5 : ∀ a, a ≠ 0 → a ≠ 16 → a ≠ 17 → F.1 a = M5.1 a ∧ F.2 a = M5.2 a := fun a h0 h1 h2 => by
          rw [← hF]
          refine ⟨funext fun k => ?_, ?_⟩
          · rw [si_ne (Or.inl h0), si_ne (Or.inl h1), si_ne (Or.inl h1)]; rfl
          · exact (cpL_off h2).2
        have M5X : ∀ a, a < 11 ∨ 14 < a → M5.1 a = (si X' 1 1 0).1 a ∧ M5.2 a = (si X' 1 1 0).2 a := fun a h => ⟨funext fun k => (m2 a k (by omega)).1, funext fun k => (m2 a k (by omega)).2⟩
        have FM : ∀ a, 18 < a → F.1 a = Mx.1 a ∧ F.2 a = Mx.2 a := fun a h => by
          obtain ⟨p1, p2⟩ := F5 a (by omega) (by omega) (by omega)
          obtain ⟨q1, q2⟩ := M5X a (by omega)
          obtain ⟨r1, r2⟩ := oX a (no a (by omega))
          exact ⟨p1.trans (q1.trans r1), p2.trans (q2.trans r2)⟩
        have xF : XA F (gS S D') := by
          refine ⟨?_, ⟨?_, ?_, fun p hp => ?_, fun p hp h => absurd (show (0 : Nat).testBit p = true from h) (by simp)⟩, fun k hk hb => absurd (show (0 : Nat).testBit k = true from hb) (by simp), ?_, ?_, ?_, fun i x hi => absurd (show ([] : List Nat)[i]? = some x from hi) (by simp), ?_, fun k hk => (hx.sh k hk).off (S := [0, 1, 2, 3, 4, 5, 6, 7, 8, 9, 10, 11, 12, 13, 14, 15, 16, 17, 18]) (fun a ha => FM a (by
            simp only [List.mem_cons, List.not_mem_nil, or_false] at ha
            omega)) (by simp; omega) (by simp; omega)⟩
          · refine m3.off (S := [0, 16, 17]) (fun a ha => F5 a ?_ ?_ ?_) (by decide)
            · intro q; exact ha (by simp [q])
            · intro q; exact ha (by simp [q])
            · intro q; exact ha (by simp [q])
          · show F.1 16 1 = nI D'.gl
            rw [← hF]
            show M5.1 3 2 = nI D'.gl
            rw [(M5X 3 (by omega)).1]
            exact xD.2.2.1
          · show F.1 16 2 = nI 0
            rw [← hF]; rfl
          · show F.2 17 p = enc (D'.W p)
            rw [← hF]
            show (if 17 = 17 ∧ 0 ≤ p ∧ p < 0 + 6 then M5.2 9 (0 + (p - 0)) else _) = _
            rw [if_pos ⟨rfl, by omega, by omega⟩, Nat.zero_add, Nat.sub_zero, (M5X 9 (by omega)).2]
            exact xD.2.1 p hp
          · show F.1 0 9 = nI 0
            rw [← hF]; rfl
          · show F.1 0 10 = nI S.tn
            rw [← hF]
            show M5.1 0 10 = _
            rw [(M5X 0 (by omega)).1, (oX 0 (no 0 (by omega))).1]
            exact hx.tn
          · show F.1 1 1 = nI 0
            rw [(F5 1 (by decide) (by decide) (by decide)).1, (M5X 1 (by omega)).1]
            rfl
          · show F.1 3 3 = nI (0 % 8)
            rw [(F5 3 (by decide) (by decide) (by decide)).1, (M5X 3 (by omega)).1]
            exact e33
        -- the reference
        have f26 : Fr (fun c k => c = 0 ∧ k = 26) Y3 (si Y3 0 26 0) := Fr.si ⟨rfl, rfl⟩
        have yD3 := yD2.mt hWD j3
        have h67 : ∀ h, h < 15 → (si Y3 0 26 0).1 6 h = nI (les h) ∧ (si Y3 0 26 0).1 7 h = nI (gre h) := fun h hh => by
          rw [(f26 6 h (by omega)).1, (f26 7 h (by omega)).1, (fY3 6 h (fun q => by unfold yd at q; omega)).1, (fY3 7 h (fun q => by unfold yd at q; omega)).1]
          exact hm.c.2.2.2.2.2.2.2.2 h hh
        obtain ⟨K, o1, o2, o3, o4, o5, o6⟩ := m_keepDraft n (by omega) (M := si Y3 0 26 0) okS.hR hWD (yD3.1.fr hWD f26 (fun c k q => by omega)) h67
        have fK : Fr (fun c k => yd c k ∨ kd c k ∨ (c = 0 ∧ k = 26)) Mm K := ((fY3.mono (fun c k q => Or.inl q)).trans (f26.mono (fun c k q => Or.inr (Or.inr q)))).trans (o6.mono (fun c k q => Or.inr (Or.inl q)))
        have yK : MA K (gS S D') := by
          refine ⟨o2, o3 _, fun k hk hb => absurd (show (0 : Nat).testBit k = true from hb) (by simp), fun k hk => ?_, ?_, ?_, fun i x hi => absurd (show ([] : List Nat)[i]? = some x from hi) (by simp), ?_, fun k hk => (hm.sh k hk).fr fK (fun a j _ _ q => by unfold yd kd at q; omega)⟩
          · show K.1 2 k = nI (if (0 : Nat).testBit k then 1 else 0)
            rw [Nat.zero_testBit]
            match k, hk with
            | 0, _ => exact o4
            | 1, _ => exact o5
          · rw [(fK 0 54 (fun q => by unfold yd kd at q; omega)).1]; exact hm.tn
          · rw [(o6 0 26 (fun q => by unfold kd at q; omega)).1]; rfl
          · show K.1 0 31 = nI (0 / 8)
            rw [(o6 0 31 (fun q => by unfold kd at q; omega)).1]
            show Y3.1 0 31 = _
            rw [j2.1, hQ.2.1]
        refine ⟨nI v', F, K, uxF, ?_, gS S D', okS, xF, yK⟩
        rw [uy3, show (si Y3 0 26 0).1 0 31 = nI t'.1 from j2.1, t0, if_pos (Int32.le_refl _), o1, bd_ret]
      · have hcF : hc D'.W D'.R.2.1 6 = false := Bool.eq_false_iff.mpr (fun q => hB ((held_lg gD).mp q))
        rw [hcF] at j2
        obtain ⟨r1, r2, r3⟩ := hbad 7 (by decide)
        rw [r2] at j2
        obtain ⟨X2, l1, l2, l3⟩ := x_rfs n 7 (by decide) sT8 i2
        rw [r1] at l2
        have lb : X_Teller_lookBack n X' = some ((), X2) := by
          unfold X_Teller_lookBack
          rw [nm_eq, c13, c40, if_pos (nI_lt hA (by omega))]
          dsimp only
          rw [c14, c41, if_neg (nI_ge (by omega) (by omega)), show X_Teller_refuse n 7 X' = _ from l1, bd_ret]
        exact bad X2 Y3 _ _ r3 l2 j2 (fX.trans (xt_xd l3)) fY3 (by rw [ux, ekx, lb, bd_ret]) uy3
    · obtain ⟨r1, r2, r3⟩ := hbad 6 (by decide)
      rw [decide_eq_false hA, r2] at j2
      rw [ned_bad (show ((6, t'.2.2.2.1, t'.2.2) : Tm).1 ≠ 0 by show 6 ≠ 0; decide)] at j2
      obtain ⟨X2, l1, l2, l3⟩ := x_rfs n 6 (by decide) sT8 i2
      rw [r1] at l2
      have n6 : ¬ X2.1 3 3 = 0 := by rw [l2.1]; show ¬ nI 6 = 0; decide
      have lb : X_Teller_lookBack n X' = some ((), X2) := by
        have rf7 : X_Teller_refuse n 7 X2 = some ((), X2) := if_neg n6
        unfold X_Teller_lookBack
        rw [nm_eq, c13, c40, if_neg (Int32.not_lt.mpr (nI_le (by omega) (by omega))), show X_Teller_refuse n 6 X' = _ from l1, bd_ret]
        dsimp only
        rw [rf7, bd_ret]
        split <;> rfl
      exact bad X2 Y3 _ _ r3 l2 j2 (fX.trans (xt_xd l3)) fY3 (by rw [ux, ekx, lb, bd_ret]) uy3
  · have hB : Qbad s' t' := by
      rcases i7 with q | q
      · exact absurd q.1 e0
      · exact q
    have n1 : ¬ X'.1 3 3 = 0 := fun q => e0 ((i_z (by omega)).mp (i2.1.symm.trans q))
    have lb : X_Teller_lookBack n X' = some ((), X') := by
      have rf : ∀ f, X_Teller_refuse n f X' = some ((), X') := fun f => if_neg n1
      unfold X_Teller_lookBack
      rw [nm_eq, rf, bd_ret]
      dsimp only
      rw [rf, bd_ret]
      split <;> split <;> rfl
    have n2 : ¬ Y'.1 0 31 = 0 := fun q => hB.2.1 ((i_z (by have := hB.2.2.2.1; omega)).mp (i6.1.symm.trans q))
    exact bad X' Y' s' t' hB i2 i6 fX fY (by rw [ux, ekx, lb, bd_ret]) (by rw [uy, eky, if_neg n2])
theorem sim_text : Sm (fun M => X_ShakeHands_text fuel M) (fun M => X_Model_text fuel M) := fun Mx Mm hR => text_n fuel (by decide) Mx Mm hR
