/-! CALLS: rounds -/
def QQ (st : WW → Bool) (am : WW → Nat) (W : WW) : Prop := st W = true ∧ am W = 0
theorem m_L111 (n : Nat) (hn : 61 ≤ n) {S : Ab} (hS : Ok S) {v : Nat → Int32} {am : WW → Nat} {st : WW → Bool} (hG : gdH n S v am) (hT : stH n S v st) (a5 : Int32) (kx : Int32 → Mem → Option (Int32 × Mem)) {V : List Nat} (hV : ∀ m ∈ V, vld S.R.1 S.A.gl m = true ∧ m < 2 ^ 15) (hl : V.length ≤ 75) {W1 : WW} (hW : OkW W1) : ∀ (suf pre : List Nat) (f : Nat) (v4 : Bool) (M : Mem), V = pre ++ suf → suf.length < f → Kr S v M → Vr M V → LyM M 15 (60 * 1) W1 → ∃ M' b, X_Model_rounds_L111 n a5 kx f (nI (if v4 = true then 1 else 0)) (nI pre.length) M = kx (nI (if b = true then 1 else 0)) M' ∧ Fr (mh 2) M M' ∧ (b = true ↔ (v4 = true ∨ ∃ m, m ∈ suf ∧ QQ st am (ap S.R S.A.gl m 15 W1)))
  | [], pre, f, v4, M, e, hf, hK, hVr, hL => by
    obtain ⟨f, rfl⟩ : ∃ q, f = q + 1 := ⟨f - 1, by omega⟩
    rw [List.append_nil] at e
    refine ⟨M, v4, ?_, Fr.rf, ⟨Or.inl, fun h => h.elim id (fun ⟨m, h, _⟩ => absurd h List.not_mem_nil)⟩⟩
    show (if M.1 0 47 ≤ nI pre.length then _ else _) = _
    rw [hVr.1, e, if_pos (nI_le (Nat.le_refl _) (by rw [← e]; omega))]
  | m :: suf, pre, f, v4, M, e, hf, hK, hVr, hL => by
    rw [List.length_cons] at hf
    obtain ⟨f, rfl⟩ : ∃ q, f = q + 1 := ⟨f - 1, by omega⟩
    have hlen : pre.length < V.length := by rw [e, List.length_append, List.length_cons]; omega
    have em : V[pre.length]? = some m := by rw [e, List.getElem?_append_right (Nat.le_refl _), Nat.sub_self]; rfl
    have hm := hV m (by rw [e]; exact List.mem_append_right _ List.mem_cons_self)
    cases ev : v4 with
    | true =>
      refine ⟨M, true, ?_, Fr.rf, ⟨fun _ => Or.inl rfl, fun _ => rfl⟩⟩
      show (if M.1 0 47 ≤ nI pre.length then _ else (if nI 1 = 0 then _ else _)) = _
      rw [hVr.1, if_neg (nI_ge hlen (by omega)), if_neg (show ¬ nI 1 = 0 by decide)]
    | false =>
      obtain ⟨M2, g1, g2, g3⟩ := m_goes n hn hS hK.1 (L := 1) (by omega) hm.1 hm.2 hW hL
      have hK2 : Kr S v M2 := hK.fr hS (fun c k q => ⟨mh_mS q, fun r => by unfold mh mk rg at q; omega⟩) g2
      have hW2 : OkW (ap S.R S.A.gl m 15 W1) := ap_ok hS.hR 15 _ hW
      have hVr2 : Vr M2 V := hVr.fr g2 (fun q => by unfold mh mk rg at q; omega) (fun k q => by unfold mh mk rg at q; omega)
      have hL2 : LyM M2 15 (60 * 1) W1 := hL.fr hW g2 (fun k h1 h2 q => by unfold mh mk rg at q; omega)
      have un : X_Model_rounds_L111 n a5 kx (f + 1) (nI (if false = true then 1 else 0)) (nI pre.length) M = X_Model_rounds_L111 n a5 kx f (nI (if (st (ap S.R S.A.gl m 15 W1) && decide (am (ap S.R S.A.gl m 15 W1) = 0)) = true then 1 else 0)) (nI (pre.length + 1)) M2 := by
        show (if M.1 0 47 ≤ nI pre.length then _ else (if nI 0 = 0 then gd (nI pre.length) 80 (bd (X_Model_goesRound n 2 (M.1 19 (nI pre.length).toNatClampNeg) M) fun _ M26 => bd (X_Model_isStill n 2 M26) fun r27 M28 => nm (fun (u29 : Int32) (M30 : Mem) => (X_Model_rounds_L111 n a5 kx f u29 (nI pre.length + 1) M30 : Option (Int32 × Mem))) fun k158 => (if r27 = 0 then k158 0 M28 else bd (X_Model_isGood n 2 M28) fun r31 M32 => (if r31 = 0 then k158 0 M32 else k158 1 M32))) else _)) = _
        simp only [nm]
        rw [hVr.1, if_neg (nI_ge hlen (by omega)), if_pos (show nI 0 = 0 from rfl), gd_in (vp_in_nI (n := pre.length) (by omega) (by decide)), nI_clamp (by omega), hVr.2 _ _ em, show X_Model_goesRound n 2 (nI m) M = _ from g1, bd_ret, show X_Model_isStill n 2 M2 = _ from hT M2 _ 2 (by omega) hK2 hW2 g3, bd_ret, nI_1]
        cases es : st (ap S.R S.A.gl m 15 W1) with
        | false => rfl
        | true =>
          rw [if_neg (show ¬ (if true = true then (1 : Int32) else 0) = 0 by decide), show X_Model_isGood n 2 M2 = _ from hG M2 _ 2 (by omega) hK2 hW2 g3, bd_ret]
          by_cases ea : am (ap S.R S.A.gl m 15 W1) = 0
          · rw [if_pos ea, if_neg i10, decide_eq_true ea]
            rfl
          · rw [if_neg ea, if_pos rfl, decide_eq_false ea]
            rfl
      obtain ⟨M', b, c1, c2, c3⟩ := m_L111 n hn hS hG hT a5 kx hV hl hW suf (pre ++ [m]) f (st (ap S.R S.A.gl m 15 W1) && decide (am (ap S.R S.A.gl m 15 W1) = 0)) M2 (by rw [e, List.append_assoc]; rfl) (by omega) hK2 hVr2 hL2
      rw [List.length_append, List.length_singleton] at c1
      refine ⟨M', b, by rw [un]; exact c1, g2.trans c2, ?_⟩
      rw [c3, Bool.and_eq_true, decide_eq_true_iff]
      constructor
      · intro h
        rcases h with h | ⟨m', h1, h2⟩
        · exact Or.inr ⟨m, List.mem_cons_self, h⟩
        · exact Or.inr ⟨m', List.mem_cons_of_mem _ h1, h2⟩
      · intro h
        rcases h with h | ⟨m', h1, h2⟩
        · exact absurd h Bool.false_ne_true
        · rcases List.mem_cons.mp h1 with q | q
          · rw [q] at h2; exact Or.inl h2
          · exact Or.inr ⟨m', q, h2⟩
theorem m_L69 (n : Nat) (hn : 100 ≤ n) {S : Ab} (hS : Ok S) {v : Nat → Int32} {am : WW → Nat} {st : WW → Bool} (hG : gdH n S v am) (hT : stH n S v st) (kx : Int32 → Mem → Option (Int32 × Mem)) {V : List Nat} (hV : ∀ m ∈ V, vld S.R.1 S.A.gl m = true ∧ m < 2 ^ 15) (hl : V.length ≤ 75) {W : WW} (hW : OkW W) : ∀ (suf pre : List Nat) (f : Nat) (v4 : Bool) (M : Mem), V = pre ++ suf → suf.length < f → Kr S v M → Vr M V → LyM M 15 (60 * 0) W → ((∃ m, m ∈ suf ∧ QQ st am (ap S.R S.A.gl m 15 W)) ∧ ∃ M', X_Model_rounds_L69 n kx f (nI (if v4 = true then 1 else 0)) (nI pre.length) M = some (1, M') ∧ MA M' S) ∨ ((¬ ∃ m, m ∈ suf ∧ QQ st am (ap S.R S.A.gl m 15 W)) ∧ ∃ M' b, X_Model_rounds_L69 n kx f (nI (if v4 = true then 1 else 0)) (nI pre.length) M = kx (nI (if b = true then 1 else 0)) M' ∧ MA M' S ∧ (b = true ↔ (v4 = true ∨ ∃ m, m ∈ suf ∧ st (ap S.R S.A.gl m 15 W) = true ∧ ∃ m', m' ∈ V ∧ QQ st am (ap S.R S.A.gl m' 15 (ap S.R S.A.gl m 15 W)))))
  | [], pre, f, v4, M, e, hf, hK, hVr, hL => by
    obtain ⟨f, rfl⟩ : ∃ q, f = q + 1 := ⟨f - 1, by omega⟩
    rw [List.append_nil] at e
    refine Or.inr ⟨fun ⟨m, h, _⟩ => absurd h List.not_mem_nil, M, v4, ?_, hK.1, ⟨Or.inl, fun h => h.elim id (fun ⟨m, h, _⟩ => absurd h List.not_mem_nil)⟩⟩
    show (if M.1 0 47 ≤ nI pre.length then _ else _) = _
    rw [hVr.1, e, if_pos (nI_le (Nat.le_refl _) (by rw [← e]; omega))]
  | m :: suf, pre, f, v4, M, e, hf, hK, hVr, hL => by
    rw [List.length_cons] at hf
    obtain ⟨f, rfl⟩ : ∃ q, f = q + 1 := ⟨f - 1, by omega⟩
    have hlen : pre.length < V.length := by rw [e, List.length_append, List.length_cons]; omega
    have em : V[pre.length]? = some m := by rw [e, List.getElem?_append_right (Nat.le_refl _), Nat.sub_self]; rfl
    have hm := hV m (by rw [e]; exact List.mem_append_right _ List.mem_cons_self)
    have e2 : V = (pre ++ [m]) ++ suf := by rw [e, List.append_assoc]; rfl
    obtain ⟨M2, g1, g2, g3⟩ := m_goes n (by omega) hS hK.1 (L := 0) (by omega) hm.1 hm.2 hW hL
    have hK2 : Kr S v M2 := hK.fr hS (fun c k q => ⟨mh_mS q, fun r => by unfold mh mk rg at q; omega⟩) g2
    have hW2 : OkW (ap S.R S.A.gl m 15 W) := ap_ok hS.hR 15 _ hW
    have hVr2 : Vr M2 V := hVr.fr g2 (fun q => by unfold mh mk rg at q; omega) (fun k q => by unfold mh mk rg at q; omega)
    have hL2 : LyM M2 15 (60 * 0) W := hL.fr hW g2 (fun k h1 h2 q => by unfold mh mk rg at q; omega)
    have un : X_Model_rounds_L69 n kx (f + 1) (nI (if v4 = true then 1 else 0)) (nI pre.length) M = if st (ap S.R S.A.gl m 15 W) then (if am (ap S.R S.A.gl m 15 W) = 0 then some (1, M2) else X_Model_rounds_L111 n (nI pre.length) (fun y33 M34 => X_Model_rounds_L69 n kx f y33 (nI (pre.length + 1)) M34) n (nI (if v4 = true then 1 else 0)) 0 M2) else X_Model_rounds_L69 n kx f (nI (if v4 = true then 1 else 0)) (nI (pre.length + 1)) M2 := by
      show (if M.1 0 47 ≤ nI pre.length then _ else gd (nI pre.length) 80 (bd (X_Model_goesRound n 1 (M.1 19 (nI pre.length).toNatClampNeg) M) fun _ M18 => bd (X_Model_isStill n 1 M18) fun r19 M20 => nm (fun (z21 : Int32) (M22 : Mem) => (X_Model_rounds_L69 n kx f z21 (nI pre.length + 1) M22 : Option (Int32 × Mem))) fun k166 => (if r19 = 0 then k166 (nI (if v4 = true then 1 else 0)) M20 else bd (X_Model_isGood n 1 M20) fun r23 M24 => (if r23 = 0 then X_Model_rounds_L111 n (nI pre.length) (fun y33 M34 => k166 y33 M34) n (nI (if v4 = true then 1 else 0)) 0 M24 else some (1, M24))))) = _
      simp only [nm]
      rw [hVr.1, if_neg (nI_ge hlen (by omega)), gd_in (vp_in_nI (n := pre.length) (by omega) (by decide)), nI_clamp (by omega), hVr.2 _ _ em, show X_Model_goesRound n 1 (nI m) M = _ from g1, bd_ret, show X_Model_isStill n 1 M2 = _ from hT M2 _ 1 (by omega) hK2 hW2 g3, bd_ret, nI_1]
      cases es : st (ap S.R S.A.gl m 15 W) with
      | false => rfl
      | true =>
        rw [if_neg (show ¬ (if true = true then (1 : Int32) else 0) = 0 by decide), show X_Model_isGood n 1 M2 = _ from hG M2 _ 1 (by omega) hK2 hW2 g3, bd_ret, if_pos rfl]
        by_cases ea : am (ap S.R S.A.gl m 15 W) = 0
        · rw [if_pos ea, if_neg i10, if_pos ea]
        · rw [if_neg ea, if_pos rfl, if_neg ea]
    rw [un]
    have elen : (pre ++ [m]).length = pre.length + 1 := by rw [List.length_append, List.length_singleton]
    cases es : st (ap S.R S.A.gl m 15 W) with
    | false =>
      rw [if_neg Bool.false_ne_true]
      have nq : ¬ QQ st am (ap S.R S.A.gl m 15 W) := fun q => by have := q.1; rw [es] at this; exact absurd this Bool.false_ne_true
      rcases m_L69 n hn hS hG hT kx hV hl hW suf (pre ++ [m]) f v4 M2 e2 (by omega) hK2 hVr2 hL2 with ⟨⟨m', h1, h2⟩, M', c1, c2⟩ | ⟨h1, M', b, c1, c2, c3⟩
      · rw [elen] at c1
        exact Or.inl ⟨⟨m', List.mem_cons_of_mem _ h1, h2⟩, M', c1, c2⟩
      · rw [elen] at c1
        refine Or.inr ⟨fun ⟨m', q1, q2⟩ => ?_, M', b, c1, c2, ?_⟩
        · rcases List.mem_cons.mp q1 with q | q
          · rw [q] at q2; exact nq q2
          · exact h1 ⟨m', q, q2⟩
        · rw [c3]
          constructor
          · intro h
            rcases h with h | ⟨m', q1, q2⟩
            · exact Or.inl h
            · exact Or.inr ⟨m', List.mem_cons_of_mem _ q1, q2⟩
          · intro h
            rcases h with h | ⟨m', q1, q2⟩
            · exact Or.inl h
            · rcases List.mem_cons.mp q1 with q | q
              · rw [q, es] at q2; exact absurd q2.1 Bool.false_ne_true
              · exact Or.inr ⟨m', q, q2⟩
    | true =>
      rw [if_pos rfl]
      by_cases ea : am (ap S.R S.A.gl m 15 W) = 0
      · rw [if_pos ea]
        exact Or.inl ⟨⟨m, List.mem_cons_self, es, ea⟩, M2, rfl, hK2.1⟩
      · rw [if_neg ea]
        have nq : ¬ QQ st am (ap S.R S.A.gl m 15 W) := fun q => ea q.2
        obtain ⟨M3, b0, d1, d2, d3⟩ := m_L111 n (by omega) hS hG hT (nI pre.length) (fun y33 M34 => X_Model_rounds_L69 n kx f y33 (nI (pre.length + 1)) M34) hV hl hW2 V [] n v4 M2 rfl (by omega) hK2 hVr2 g3
        have hK3 : Kr S v M3 := hK2.fr hS (fun c k q => ⟨mh_mS q, fun r => by unfold mh mk rg at q; omega⟩) d2
        have hVr3 : Vr M3 V := hVr2.fr d2 (fun q => by unfold mh mk rg at q; omega) (fun k q => by unfold mh mk rg at q; omega)
        have hL3 : LyM M3 15 (60 * 0) W := hL2.fr hW d2 (fun k h1 h2 q => by unfold mh mk rg at q; omega)
        rw [show X_Model_rounds_L111 n (nI pre.length) (fun y33 M34 => X_Model_rounds_L69 n kx f y33 (nI (pre.length + 1)) M34) n (nI (if v4 = true then 1 else 0)) 0 M2 = _ from d1]
        rcases m_L69 n hn hS hG hT kx hV hl hW suf (pre ++ [m]) f b0 M3 e2 (by omega) hK3 hVr3 hL3 with ⟨⟨m', h1, h2⟩, M', c1, c2⟩ | ⟨h1, M', b, c1, c2, c3⟩
        · rw [elen] at c1
          exact Or.inl ⟨⟨m', List.mem_cons_of_mem _ h1, h2⟩, M', c1, c2⟩
        · rw [elen] at c1
          refine Or.inr ⟨fun ⟨m', q1, q2⟩ => ?_, M', b, c1, c2, ?_⟩
          · rcases List.mem_cons.mp q1 with q | q
            · rw [q] at q2; exact nq q2
            · exact h1 ⟨m', q, q2⟩
          · rw [c3, d3]
            constructor
            · intro h
              rcases h with (h | h) | ⟨m', q1, q2⟩
              · exact Or.inl h
              · exact Or.inr ⟨m, List.mem_cons_self, es, h⟩
              · exact Or.inr ⟨m', List.mem_cons_of_mem _ q1, q2⟩
            · intro h
              rcases h with h | ⟨m', q1, q2⟩
              · exact Or.inl (Or.inl h)
              · rcases List.mem_cons.mp q1 with q | q
                · rw [q] at q2; exact Or.inl (Or.inr q2.2)
                · exact Or.inr ⟨m', q, q2⟩
theorem gd_w0 (n : Nat) (hn : 20 ≤ n) {S : Ab} (hS : Ok S) {t so : Nat} {ot : Int32} (ht : t < 16) (hs : so < 64) {M : Mem} {W : WW} {L : Nat} (hL : L < 10) (hM : MA M S) (hv : Sl (vK 0 (nI t) (nI so) ot) M) (hW : OkW W) (hl : LyM M 15 (60 * L) W) : X_Model_isGood n (nI L) M = some (if amF S.R.1 t so 0 W = 0 then 1 else 0, M) := by
  have e39 : M.1 0 39 = 0 := hv 39 (by omega) (by omega)
  have e40 : M.1 0 40 = nI t := hv 40 (by omega) (by omega)
  have e41 : M.1 0 41 = nI so := hv 41 (by omega) (by omega)
  have hw := wlt hS.p6 W t
  unfold X_Model_isGood
  rw [e39, e40, if_neg (by decide), m_whoIn n hn hM.c.1 hS.p6 hL ht hW hl, bd_ret, e39, if_neg (by decide), e41, i_and]
  have : _ ↔ amF S.R.1 t so 0 W = 0 := am_so _ hw so hs
  by_cases e : whoN W t S.R.1 &&& so = so
  · rw [if_pos (by rw [e]), if_pos (this.mp e)]
  · rw [if_neg (fun q => e ((nI_eq (Nat.lt_of_le_of_lt Nat.and_le_right (by omega)) (by omega)).mp q)), if_neg (fun q => e (this.mpr q))]
theorem st_w0 (n : Nat) (hn : 20 ≤ n) {S : Ab} (hS : Ok S) {t ot : Nat} {so : Int32} (ht : t < 16) {M : Mem} {W : WW} {L : Nat} (hL : L < 10) (hM : MA M S) (hv : Sl (vK 0 (nI t) so (nI ot)) M) (hW : OkW W) (hl : LyM M 15 (60 * L) W) : X_Model_isStill n (nI L) M = some (if stF S.R.1 t ot W then 1 else 0, M) := by
  have e39 : M.1 0 39 = 0 := hv 39 (by omega) (by omega)
  have e40 : M.1 0 40 = nI t := hv 40 (by omega) (by omega)
  have e42 : M.1 0 42 = nI ot := hv 42 (by omega) (by omega)
  have hw := wlt hS.p6 W t
  unfold X_Model_isStill stF
  rw [e39, e40, if_pos rfl, m_whoIn n hn hM.c.1 hS.p6 hL ht hW hl, bd_ret, e42]
  by_cases e : whoN W t S.R.1 &&& ot = 0
  · rw [if_pos ((and_i0 hw).mpr e), decide_eq_true e]; rfl
  · rw [if_neg (fun q => e ((and_i0 hw).mp q)), decide_eq_false e]; rfl
theorem TT_1 {R : Rl} {g : Nat} {st : WW → Bool} {am : WW → Nat} (W : WW) : TT R g st am 1 15 0 W ↔ (QQ st am W ∨ ∃ m, m ∈ vls R.1 g 32768 ∧ QQ st am (ap R g m 15 W)) := by
  refine (TK_mask 15 (Nat.le_refl _) 0 W).trans ?_
  constructor
  · intro ⟨m, h1, h2, h3⟩
    by_cases e : m = 0
    · rw [e, ap_0] at h3
      exact Or.inl h3
    · exact Or.inr ⟨m, (vls_mem _).mpr ⟨h1, by unfold vld; rw [decide_eq_true e, h2]; rfl⟩, h3⟩
  · intro h
    rcases h with h | ⟨m, h1, h2⟩
    · exact ⟨0, by decide, isRd_0 _ _ _ _, by rw [ap_0]; exact h⟩
    · obtain ⟨q1, q2⟩ := (vls_mem _).mp h1
      unfold vld at q2
      rw [Bool.and_eq_true] at q2
      exact ⟨m, q1, q2.2, h2⟩
theorem TT_2 {R : Rl} {g : Nat} {st : WW → Bool} {am : WW → Nat} {W : WW} (h1 : ¬ TT R g st am 1 15 0 W) : TT R g st am 2 15 0 W ↔ ∃ m, m ∈ vls R.1 g 32768 ∧ st (ap R g m 15 W) = true ∧ ∃ m', m' ∈ vls R.1 g 32768 ∧ QQ st am (ap R g m' 15 (ap R g m 15 W)) := by
  have h1' := fun q => h1 ((TT_1 W).mpr q)
  refine (TK_mask 15 (Nat.le_refl _) 0 W).trans ?_
  constructor
  · intro ⟨m, q1, q2, q3, q4⟩
    by_cases e : m = 0
    · rw [e, ap_0] at q4
      exact absurd q4 h1
    · have hm : m ∈ vls R.1 g 32768 := (vls_mem _).mpr ⟨q1, by unfold vld; rw [decide_eq_true e, q2]; rfl⟩
      rcases (TT_1 _).mp q4 with q | q
      · exact absurd (Or.inr ⟨m, hm, q⟩) h1'
      · exact ⟨m, hm, q3, q⟩
  · intro ⟨m, q1, q2, q3⟩
    obtain ⟨r1, r2⟩ := (vls_mem _).mp q1
    unfold vld at r2
    rw [Bool.and_eq_true] at r2
    exact ⟨m, r1, r2.2, q2, (TT_1 _).mpr (Or.inr q3)⟩
theorem sim_rounds (a0' a1' a2' : Int32) : Sm (fun M => X_ShakeHands_rounds fuel a0' a1' a2' M) (fun M => X_Model_rounds fuel a0' a1' a2' M) := by
  intro Mx Mm hR
  have hR0 := hR
  obtain ⟨S, hS, hx, hm⟩ := hR
  have h6 := hS.p6
  have hpw := pw6 h6
  show ∃ r Mx2 Mm2, X_ShakeHands_rounds fuel a0' a1' a2' Mx = some (r, Mx2) ∧ X_Model_rounds fuel a0' a1' a2' Mm = some (r, Mm2) ∧ Rel Mx2 Mm2
  unfold X_ShakeHands_rounds X_Model_rounds
  rw [x_isThing, m_isThing, bd_ret, bd_ret]
  cases ev0 : vN a0' 16 with
  | false => exact ⟨_, _, _, rfl, rfl, hR0⟩
  | true =>
    rw [if_neg (show ¬ (if true = true then (1 : Int32) else 0) = 0 by decide), if_neg (show ¬ (if true = true then (1 : Int32) else 0) = 0 by decide), x_areP h6 hx.c.1, m_areP fuel h6 hm.c.1, bd_ret, bd_ret]
    cases ev1 : vN a1' (2 ^ S.R.1) with
    | false => exact ⟨_, _, _, rfl, rfl, hR0⟩
    | true =>
      rw [if_neg (show ¬ (if true = true then (1 : Int32) else 0) = 0 by decide), if_neg (show ¬ (if true = true then (1 : Int32) else 0) = 0 by decide), x_areP h6 hx.c.1, m_areP fuel h6 hm.c.1, bd_ret, bd_ret]
      cases ev2 : vN a2' (2 ^ S.R.1) with
      | false => exact ⟨_, _, _, rfl, rfl, hR0⟩
      | true =>
        obtain ⟨b1, b2⟩ := vN_y (by decide) ev0
        obtain ⟨c1, c2⟩ := vN_y (by omega) ev1
        obtain ⟨d1, d2⟩ := vN_y (by omega) ev2
        rw [if_neg (show ¬ (if true = true then (1 : Int32) else 0) = 0 by decide), if_neg (show ¬ (if true = true then (1 : Int32) else 0) = 0 by decide)]
        generalize pN a0' = t at b1 b2
        generalize pN a1' = so at c1 c2
        generalize pN a2' = ot at d1 d2
        subst b2 c2 d2
        have hso : so < 64 := by omega
        have hA : OkA (amF S.R.1 t so 0) := amF_ok hso (by decide)
        have hma : amH fuel S (uK (nI t) (nI so) (nI 0) (nI ot)) (amF S.R.1 t so 0) := am_k fuel (by decide) hS b1
        have hba : baH fuel S (uK (nI t) (nI so) (nI 0) (nI ot)) (stF S.R.1 t ot) := ba_k fuel (by decide) hS b1
        have hG : gdH fuel S (vK 0 (nI t) (nI so) (nI ot)) (amF S.R.1 t so 0) := gd_k0 fuel (by decide) hS b1 hso
        have hT : stH fuel S (vK 0 (nI t) (nI so) (nI ot)) (stF S.R.1 t ot) := st_k0 fuel (by decide) hS b1
        have hlt := hA.1 S.A.W
        obtain ⟨M9, f1, f2, f3, f4⟩ := x_begin hS hx
        have hM9 : XA M9 S := hx.off (f2.mono (fun a ha => xQ_S (xQ_of (by simp at ha; omega))))
        obtain ⟨M11, k1, k2, hK⟩ := x_aim fuel (nI t) (nI so) (nI 0) (nI ot) hM9 f3
        have hr : rowsAt M11 (30 + 0) S.A.W := f4.off k2 (by simp)
        obtain ⟨N8, g1, g2, g3⟩ := m_asks fuel 0 (nI t) (nI so) (nI ot) hS hm
        have l0 : LyM (m0 N8) 15 (60 * 0) S.A.W := m0_ly hS g2
        have g4 : MA (m0 N8) S := g2.fr hS (mh_S (m0_fr N8))
        have g5 : Sl (vK 0 (nI t) (nI so) (nI ot)) (m0 N8) := g3
        have hW := hS.hA.1
        have he := hS.hA.2.1
        have es0 := st_w0 fuel (by decide) hS (L := 0) (so := nI so) b1 (by decide) g4 g5 hW l0
        have eg0 := gd_w0 fuel (by decide) hS (L := 0) (ot := nI ot) b1 hso (by decide) g4 g5 hW l0
        generalize amF S.R.1 t so 0 = am at hA hma hG hlt eg0
        generalize stF S.R.1 t ot = st at hba hT es0
        have hb0 := hba M11 S.A.W 0 (by decide) hK hW he hr
        have ha0 := hma M11 S.A.W 0 (by decide) hK hW he hr
        have ux : X_Search_fewestRounds fuel M11 = if st S.A.W then (if am S.A.W = 0 then some (0, M11) else X_Search_fewestRounds_L33 fuel fuel (nI 1) M11) else some (-4, M11) := by
          unfold X_Search_fewestRounds
          rw [gd_in v07, show X_Search_isBarred fuel (([30, 31, 32, 33, 34, 35, 36] : List Nat).getD (0 : Int32).toNatClampNeg 0) M11 = _ from hb0, bd_ret]
          cases es : st S.A.W with
          | false => rfl
          | true =>
            rw [if_pos (show (if true = true then (0 : Int32) else 1) = 0 from rfl), gd_in v07, show X_Search_amiss fuel (([30, 31, 32, 33, 34, 35, 36] : List Nat).getD (0 : Int32).toNatClampNeg 0) M11 = _ from ha0, bd_ret, if_pos rfl]
            by_cases ea : am S.A.W = 0
            · rw [ea, if_pos (show nI 0 = 0 from rfl), if_pos rfl]
            · rw [if_neg (fun q => ea ((i_z (show am S.A.W < 2 ^ 31 by omega)).mp q)), if_neg ea]
              rfl
        rw [f1, bd_ret, show X_Search_aim fuel (nI t) (nI so) 0 (nI ot) M9 = _ from k1, bd_ret, ux, g1, bd_ret, show X_Model_begins fuel 0 N8 = _ from m0_b N8, bd_ret, show X_Model_isStill fuel 0 (m0 N8) = _ from es0, bd_ret]
        have hX11 : XA M11 S := hK.1
        cases es : st S.A.W with
        | false => exact ⟨_, _, _, rfl, rfl, ⟨S, hS, hX11, g4⟩⟩
        | true =>
          rw [if_pos rfl, if_neg (show ¬ (if true = true then (1 : Int32) else 0) = 0 by decide), show X_Model_isGood fuel 0 (m0 N8) = _ from eg0, bd_ret]
          by_cases ea : am S.A.W = 0
          · rw [if_pos ea, if_pos ea, if_neg i10]
            exact ⟨_, _, _, rfl, rfl, ⟨S, hS, hX11, g4⟩⟩
          · rw [if_neg ea, if_neg ea, if_pos rfl]
            -- the class's loop
            have hx33 : ∀ f, 3 ≤ f → ∃ r M', X_Search_fewestRounds_L33 fuel f (nI 1) M11 = some (r, M') ∧ XA M' S ∧ ((r = 1 ∧ TT S.R S.A.gl st am 1 15 0 S.A.W) ∨ (¬ TT S.R S.A.gl st am 1 15 0 S.A.W ∧ ((r = 2 ∧ TT S.R S.A.gl st am 2 15 0 S.A.W) ∨ (r = -4 ∧ ¬ TT S.R S.A.gl st am 2 15 0 S.A.W)))) := by
              intro f hf
              obtain ⟨f, rfl⟩ : ∃ q, f = q + 3 := ⟨f - 3, by omega⟩
              have e0 : popN 16 0 = 0 := by decide
              have s1 : ∀ f v M, v < 3 → X_Search_fewestRounds_L33 fuel (f + 1) (nI v) M = bd (X_Search_turns fuel 12 (nI 0) (nI 0) (nI (15 - 15)) (nI v) M) fun r7 M8 => (if r7 = 0 then X_Search_fewestRounds_L33 fuel f (nI (v + 1)) M8 else some (nI v, M8)) := fun f v M hv => by
                show (if (2 : Int32) < nI v then _ else bd (X_Search_turns fuel 12 0 0 0 (nI v) M) fun r7 M8 => (if r7 = 0 then X_Search_fewestRounds_L33 fuel f (nI v + 1) M8 else some (nI v, M8))) = _
                rw [if_neg (show ¬ (2 : Int32) < nI v from Int32.not_lt.mpr (nI_le (b := 2) (by omega) (by decide))), nI_1]
                rfl
              obtain ⟨r1, M1, t1, t2, t3⟩ := x_turns fuel (by decide) hS hA hma hba 1 (by decide) 3 12 0 15 0 M11 S.A.W (by decide) (by decide) (Or.inr ⟨by decide, by omega, by decide⟩) (by decide) hK hW he hr
              rw [s1 _ 1 _ (by decide), t1, bd_ret]
              rcases t3 with ⟨t3, t4⟩ | ⟨t3, t4⟩
              · rw [t3, if_neg i10]
                exact ⟨_, M1, rfl, (hK.fr t2).1, Or.inl ⟨rfl, t4⟩⟩
              · rw [t3, if_pos rfl]
                obtain ⟨r2, M2, u1, u2, u3⟩ := x_turns fuel (by decide) hS hA hma hba 2 (by decide) 3 12 0 15 0 M1 S.A.W (by decide) (by decide) (Or.inr ⟨by decide, by omega, by decide⟩) (by decide) (hK.fr t2) hW he (rows_fr hr t2)
                rw [s1 _ 2 _ (by decide), u1, bd_ret]
                have hX2 := ((hK.fr t2).fr u2).1
                rcases u3 with ⟨u3, u4⟩ | ⟨u3, u4⟩
                · rw [u3, if_neg i10]
                  exact ⟨_, M2, rfl, hX2, Or.inr ⟨t4, Or.inl ⟨rfl, u4⟩⟩⟩
                · rw [u3, if_pos rfl]
                  refine ⟨-4, M2, ?_, hX2, Or.inr ⟨t4, Or.inr ⟨rfl, u4⟩⟩⟩
                  show (if (2 : Int32) < nI 3 then _ else _) = _
                  rw [if_pos (by decide)]
            obtain ⟨r, M', v1, v2, v3⟩ := hx33 fuel (by decide)
            -- the reference's rounds
            have hgl := hS.gl
            have ew : X_Model_worn fuel (m0 N8) = some (nI S.A.gl, m0 N8) := m_worn fuel (by decide) g4.c.1 h6 hS.hA.2.2.1 g4.a.2.1
            have f38 : Fr (fun c k => c = 0 ∧ (k = 38 ∨ k = 47)) (m0 N8) (si (si (m0 N8) 0 38 (nI S.A.gl)) 0 47 0) := (Fr.si ⟨rfl, Or.inl rfl⟩).trans (Fr.si ⟨rfl, Or.inr rfl⟩)
            have hKr : Kr S (vK 0 (nI t) (nI so) (nI ot)) (si (si (m0 N8) 0 38 (nI S.A.gl)) 0 47 0) := ⟨g4.fr hS (f38.mono (fun c k q => by unfold mS; omega)), rfl, fun k h1 h2 => by
              rw [si_ne (Or.inr (by omega))]
              by_cases q : k = 38
              · omega
              · rw [si_ne (Or.inr q)]; exact g5 k h1 h2⟩
            have v1e : vls S.R.1 S.A.gl 1 = [] := by
              show (if vld S.R.1 S.A.gl 0 then vls S.R.1 S.A.gl 0 ++ [0] else vls S.R.1 S.A.gl 0) = []
              rw [if_neg]
              · rfl
              · unfold vld; simp
            obtain ⟨M5, w1, w2, w3⟩ := m_layRounds_L fuel (by decide) hS 32767 1 fuel _ (by decide) (by decide) (by decide) hKr (by rw [v1e]; exact ⟨rfl, fun i m h => absurd h (by simp)⟩)
            have hK5 : Kr S (vK 0 (nI t) (nI so) (nI ot)) M5 := hKr.fr hS (fun c k q => by unfold lr at q; unfold mS; omega) w2
            have l5 : LyM M5 15 (60 * 0) S.A.W := (l0.fr hW f38 (fun k h1 h2 q => by omega)).fr hW w2 (fun k h1 h2 q => by unfold lr at q; omega)
            have hVm : ∀ m ∈ vls S.R.1 S.A.gl 32768, vld S.R.1 S.A.gl m = true ∧ m < 2 ^ 15 := fun m h => ((vls_mem _).mp h).symm
            have ul : X_Model_layRounds fuel (m0 N8) = some ((), M5) := by
              unfold X_Model_layRounds
              rw [ew, bd_ret]
              exact w1
            rw [v1, bd_ret, ul, bd_ret]
            have h69 := m_L69 fuel (by decide) hS hG hT (fun y35 M36 => (if y35 = 0 then some ((-4), M36) else some (2, M36))) hVm (vls_75 _ _ (Nat.le_refl _)) hW (vls S.R.1 S.A.gl 32768) [] fuel false M5 rfl (Nat.lt_of_le_of_lt (vls_75 _ _ (Nat.le_refl _)) (by decide)) hK5 w3 l5
            have nQ : ¬ QQ st am S.A.W := fun q => ea q.2
            rcases h69 with ⟨y1, M6, y2, y3⟩ | ⟨y1, M6, b, y2, y3, y4⟩
            · rw [show X_Model_rounds_L69 fuel _ fuel 0 0 M5 = _ from y2]
              have hT1 := (TT_1 (R := S.R) (g := S.A.gl) (st := st) (am := am) S.A.W).mpr (Or.inr y1)
              rcases v3 with ⟨v3, _⟩ | ⟨v3, _⟩
              · rw [v3]; exact ⟨_, _, _, rfl, rfl, ⟨S, hS, v2, y3⟩⟩
              · exact absurd hT1 v3
            · rw [show X_Model_rounds_L69 fuel _ fuel 0 0 M5 = _ from y2]
              have nT1 : ¬ TT S.R S.A.gl st am 1 15 0 S.A.W := fun q => ((TT_1 _).mp q).elim nQ y1
              have e2 := TT_2 nT1
              rcases v3 with ⟨_, v4⟩ | ⟨_, ⟨v3, v4⟩ | ⟨v3, v4⟩⟩
              · exact absurd v4 nT1
              · have : b = true := y4.mpr (Or.inr (e2.mp v4))
                rw [this, v3]
                exact ⟨_, _, _, rfl, rfl, ⟨S, hS, v2, y3⟩⟩
              · have : b = false := Bool.eq_false_iff.mpr (fun q => (y4.mp q).elim (fun q => absurd q Bool.false_ne_true) (fun q => v4 (e2.mpr q)))
                rw [this, v3]
                exact ⟨_, _, _, rfl, rfl, ⟨S, hS, v2, y3⟩⟩
