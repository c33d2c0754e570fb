/-! THE TEXT: knows, both sides' loops -/
theorem rwL_bad {tp : List Nat} {s : Tk} (h : s.1 ≠ 0) (l : List Nat) : ∀ k, rwL tp k l s = (l, s)
  | 0 => rfl
  | k + 1 => if_neg (fun q => h q.1)
theorem bt_bd {s : Tk} (h : s.2.2.1 = 2) : btN 0 15 s = bd15 s := by
  have e0 : rfs (decide (s.2.2.1 ≠ 2)) 2 s = s := by rw [decide_eq_false (fun q => q h), rfs_f]
  unfold btN bd15
  rw [e0]
theorem thL_9 {tp l : List Nat} {s : Tk} {t : Tm} (hr : Ro l) (h9 : l.length ≤ 9) : Ro (thL l (vaN 0 (btN 0 15 s))) ∧ (thL l (vaN 0 (btN 0 15 s))).length ≤ 9 := by
  refine thL_ok hr h9 ?_
  unfold vaN
  by_cases e : (btN 0 15 s).1 = 0
  · rw [if_pos e]
    unfold btN at e ⊢
    obtain ⟨e1, e2, e3⟩ := rfs_0 (by decide) e
    rw [e3]
    have := of_decide_eq_false e2
    omega
  · rw [if_neg e]; decide
theorem QT_8 {tp : List Nat} {s : Tk} {t : Tm} (h : QT s t) : s.1 < 8 ∧ t.1 < 8 := by
  rcases h with h | h
  · rw [h.1, h.2.1]; decide
  · exact ⟨h.2.2.1, h.2.2.2.1⟩
theorem m_kn_L (n : Nat) (hn : 400 ≤ n) {tp : List Nat} {E : Dr} {p : Nat} (hp : p < 6) (hWp : E.W p = []) (kx : Int32 → Mem → Option (Unit × Mem)) : ∀ k l s t f M, k + 2 < f → l.length + k = 10 → QT s t → YS M tp t E → (t.1 = 0 → Part M p l) → Ro l → l.length ≤ 9 → ∃ M' t' v2, X_Model_readKnows_L53 n (nI p) kx f (nI l.length) (nI (if t.2.2.2.2.1 = 2 then 1 else 0)) M = kx (nI v2) M' ∧ v2 ≤ 9 ∧ YS M' tp t' E ∧ QT (rwL tp k l s).2 t' ∧ (t'.1 = 0 → Part M' p (rwL tp k l s).1 ∧ v2 = (rwL tp k l s).1.length) ∧ Fr yd M M' := by
  intro k
  have exit : ∀ (l : List Nat) (t : Tm) (f : Nat) (M : Mem), YS M tp t E → (t.1 ≠ 0 ∨ t.2.2.2.2.1 ≠ 2) → X_Model_readKnows_L53 n (nI p) kx (f + 1) (nI l.length) (nI (if t.2.2.2.2.1 = 2 then 1 else 0)) M = kx (nI l.length) M := by
    intro l t f M hS hc
    show (if (M.1 0 31) = 0 then (if nI (if t.2.2.2.2.1 = 2 then 1 else 0) = 0 then kx (nI l.length) M else _) else kx (nI l.length) M) = _
    rw [hS.2.2.1.1]
    rcases hc with hc | hc
    · rw [if_neg (fun q => hc ((i_z (by have := hS.2.1.1; omega)).mp q))]
    · rw [if_neg hc]
      split <;> rfl
  induction k with
  | zero =>
    intro l s t f M hf hl hQ hS hP hr h9
    omega
  | succ k ih =>
    intro l s t f M hf hl hQ hS hP hr h9
    obtain ⟨f, rfl⟩ : ∃ g, f = g + 1 := ⟨f - 1, by omega⟩
    rcases hQ with hQ | hQ
    · by_cases hk : t.2.2.2.2.1 = 2
      · have hks : s.2.2.1 = 2 := by rw [hQ.2.2.2.1]; exact hk
        obtain ⟨M2, a1, a2, a3, a4⟩ := m_kn_it n hn hp hWp kx hr h9 hQ.2.1 hS (hP hQ.2.1) f
        obtain ⟨q1, q2⟩ := kn_Q (tp := tp) hQ (QT_8 (tp := tp) (Or.inl hQ)) h9
        obtain ⟨r1, r2⟩ := thL_9 (tp := tp) (s := s) (t := t) hr h9
        rw [if_pos hk, show nI 1 = (1 : Int32) from rfl, a1]
        have eR : rwL tp (k + 1) l s = rwL tp k (thL l (vaN 0 (btN 0 15 s))) (rdX tp (thS l (vaN 0 (btN 0 15 s)) (btN 0 15 s))) := by
          rw [bt_bd hks]
          exact if_pos ⟨hQ.1, hks⟩
        rw [eR]
        by_cases e0 : (kn4 tp l t).1 = 0
        · obtain ⟨g1, g2⟩ := q2 e0
          rw [g1] at r1 r2 ⊢
          have hlen : (l ++ [vaM (knt l t)]).length = l.length + 1 := by rw [List.length_append, List.length_singleton]
          rw [if_pos e0, ← hlen]
          obtain ⟨M', t', v2, b1, b2, b3, b4, b5, b6⟩ := ih (l ++ [vaM (knt l t)]) _ (kn4 tp l t) f M2 (by omega) (by omega) q1 a2 a3 r1 r2
          exact ⟨M', t', v2, b1, b2, b3, b4, b5, a4.trans b6⟩
        · have s0 : (rdX tp (thS l (vaN 0 (btN 0 15 s)) (btN 0 15 s))).1 ≠ 0 := fun q => e0 ((Q_0 q1).mp q)
          obtain ⟨f, rfl⟩ : ∃ g, f = g + 1 := ⟨f - 1, by omega⟩
          rw [if_neg e0, exit l (kn4 tp l t) f M2 a2 (Or.inl e0), rwL_bad s0]
          exact ⟨M2, kn4 tp l t, l.length, rfl, h9, a2, q1, fun q => absurd q e0, a4⟩
      · have eR : rwL tp (k + 1) l s = (l, s) := if_neg (fun q => hk (by rw [← hQ.2.2.2.1]; exact q.2))
        rw [exit l t f M hS (Or.inr hk), eR]
        exact ⟨M, t, l.length, rfl, h9, hS, Or.inl hQ, fun q => ⟨hP q, rfl⟩, Fr.rf⟩
    · rw [exit l t f M hS (Or.inl hQ.2.1), rwL_bad hQ.1]
      exact ⟨M, t, l.length, rfl, h9, hS, Or.inr hQ, fun q => absurd q hQ.2.1, Fr.rf⟩
def mkA (t : Tm) : Tm := lkN 0 5 t
def mkB (t : Tm) (E : Dr) : Tm := ned (!E.kn.testBit (vaM (mkA t))) 4 (mkA t)
theorem m_readKnows (n : Nat) (hn : 400 ≤ n) {M : Mem} {tp : List Nat} {s : Tk} {t : Tm} {E : Dr} (hs : QT (rdX tp s) t) (h : YS M tp t E) (hh : E.hi < 6) (hW0 : ∀ p, p < 6 → E.kn.testBit p = false → E.W p = []) : ∃ M' t', X_Model_readKnows n M = some ((), M') ∧ YW M' tp t' (knD tp s E) ∧ QT (knE tp s E).2 t' ∧ Fr yd M M' := by
  obtain ⟨M2, a1, a2, a3⟩ := h.look n 0 5 (by decide) (by decide)
  have a1 : X_Model_looked n 0 5 M = some (nI (vaM (mkA t)), M2) := a1
  have a2 : YS M2 tp (mkA t) E := a2
  have hv : vaM (mkA t) ≤ 5 := vaM_le
  obtain ⟨qA, qV⟩ := num_Q 0 5 hs
  have qA : QT (knA tp s) (mkA t) := qA
  have qV : (knA tp s).1 = 0 → vaN 0 (knA tp s) = vaM (mkA t) := qV
  have qB : QT (knB tp s E) (mkB t E) := by
    unfold knB mkB
    rcases qA with qA | qA
    · exact ref_Q (Or.inl qA) (by decide) (by decide) (by rw [qV qA.1, Bool.not_not])
    · rw [rfs_bad qA.1, ned_bad qA.2.1]
      exact Or.inr qA
  have qB2 : QT (rdX tp (knB tp s E)) (rdM tp (mkB t E)) := next_Q qB
  have knB0 : (rdM tp (mkB t E)).1 = 0 → (knA tp s).1 = 0 ∧ E.kn.testBit (vaM (mkA t)) = false := fun q => by
    have r1 := rdM_0 q
    unfold mkB at r1
    obtain ⟨u1, u2, u3⟩ := ned_0 (by decide) r1
    exact ⟨(Q_0 qA).mpr u1, by simpa using u2⟩
  have fin : ∀ (N : Mem), YS N tp (mkB t E) E → Fr yd M N → ∃ M' t', (bd (X_Model_next n N) fun _ M5 => gd (nI (vaM (mkA t))) 6 (nm (si M5 13 ((nI (vaM (mkA t))).toNatClampNeg) (vp_nar .boolean 1)) fun N6 => bd (X_Model_tells n (nI (vaM (mkA t))) N6) fun _ M8 => X_Model_readKnows_L53 n (nI (vaM (mkA t))) (fun y23 M24 => gd ((10 : Int32) * nI (vaM (mkA t))) 60 (some ((), si M24 11 (((10 : Int32) * nI (vaM (mkA t))).toNatClampNeg) y23))) n 0 1 M8)) = some ((), M') ∧ YW M' tp t' (knD tp s E) ∧ QT (knE tp s E).2 t' ∧ Fr yd M M' := by
    intro N g1 g2
    obtain ⟨M5, b1, b2, b3⟩ := g1.nxt n hn
    generalize hp : vaM (mkA t) = p at hv
    rw [hp] at knB0
    have hp6 : p < 6 := by omega
    rw [b1, bd_ret, gd_in (vp_in_nI (n := p) hp6 (by decide)), nI_clamp (by omega), nm_eq]
    have f6 : Fr (fun c k => c = 13 ∧ k = p) M5 (si M5 13 p (vp_nar .boolean 1)) := Fr.si ⟨rfl, rfl⟩
    obtain ⟨y1, y2, y3, y4⟩ := b2.2.2.2.1
    have hS6 : YS (si M5 13 p (vp_nar .boolean 1)) tp (rdM tp (mkB t E)) (E.R, E.W, E.gl, E.pT, E.hT, E.kn ||| 2 ^ p, E.hi, E.lg) := b2.wr f6 (fun c k q => by omega) ⟨y1.fr b2.2.2.2.2 f6 (fun c k q => by omega), fun q hq => by
      show _ = nI (if (E.kn ||| 2 ^ p).testBit q then 1 else 0)
      rw [or_bit]
      by_cases e : q = p
      · rw [e, si_at, decide_eq_true rfl, Bool.or_true]; rfl
      · rw [si_ne (Or.inr e), decide_eq_false (fun r => e r.symm), Bool.or_false]
        exact y2 q hq, y3, y4⟩ b2.2.2.2.2
    obtain ⟨M8, c1, c2, c3⟩ := m_tells n hS6 hp6 hh
    rw [c1, bd_ret]
    have f8 := ((g2.trans (mt_yd b3)).trans (f6.mono (fun c k q => by unfold yd; omega))).trans c3
    generalize hkx : (fun (y23 : Int32) (M24 : Mem) => gd ((10 : Int32) * nI p) 60 (some ((), si M24 11 (((10 : Int32) * nI p).toNatClampNeg) y23))) = kx
    have kxe : ∀ v2, v2 ≤ 9 → ∀ K, kx (nI v2) K = some ((), si K 11 (10 * p) (nI v2)) := fun v2 _ K => by
      rw [← hkx]
      dsimp only
      rw [show (10 : Int32) = nI 10 from rfl, pk_mul, gd_in (vp_in_nI (n := 10 * p) (by omega) (by decide)), nI_clamp (by omega)]
    -- the end of the line's things
    have done : ∀ (K : Mem) (t' : Tm) (v2 : Nat) (l : List Nat), YS K tp t' (E.R, E.W, E.gl, E.pT, E.hT, E.kn ||| 2 ^ p, max E.hi p, E.lg) → (t'.1 = 0 → Part K p l ∧ v2 = l.length ∧ Ro l ∧ l.length ≤ 9 ∧ vaN 0 (knA tp s) = p ∧ l = (knE tp s E).1) → YW (si K 11 (10 * p) (nI v2)) tp t' (knD tp s E) := by
      intro K t' v2 l m1 m2
      have f1 : Fr (fun c k => c = 11 ∧ k = 10 * p) K (si K 11 (10 * p) (nI v2)) := Fr.si ⟨rfl, rfl⟩
      refine ⟨m1.1.fr f1 (fun c k q => by omega), m1.2.1, m1.2.2.1.nt f1 (fun k q => by omega), fun q => ?_⟩
      obtain ⟨w1, w2, w3, w4, w5, w6⟩ := m2 q
      obtain ⟨z1, z2, z3, z4⟩ := m1.2.2.2.1
      obtain ⟨x1, x2, x3, x4, x5, x6, x7, x8, x9, x10⟩ := z1
      have hWu : OkW (updW E.W p l) := OkW.upd m1.2.2.2.2 p w3 w4
      have hD : (knD tp s E) = (E.R, updW E.W p l, E.gl, E.pT, E.hT, E.kn ||| 2 ^ p, max E.hi p, max E.lg l.length) := by
        unfold knD
        rw [w5, ← w6]
      rw [hD]
      refine ⟨⟨⟨x1, x2, x3, x4, x5, x6, x7, x8, fun q6 hq6 => ?_, x10⟩, z2, z3, z4⟩, hWu⟩
      show RwM _ 11 (0 + 10 * q6) (updW E.W p l q6)
      unfold updW
      by_cases eq : q6 = p
      · rw [if_pos eq, eq, Nat.zero_add]
        exact ⟨by rw [si_at, w2], fun i x hi => by rw [si_ne (Or.inr (by omega))]; exact w1 i x hi⟩
      · rw [if_neg eq]
        refine (x9 q6 hq6).fr f1 (fun k h1 h2 r => ?_)
        have : (E.W q6).length ≤ 9 := (m1.2.2.2.2 q6).2
        have h2 : k ≤ 0 + 10 * q6 + (E.W q6).length := h2
        omega
    by_cases e0 : (rdM tp (mkB t E)).1 = 0
    · obtain ⟨k0, kb⟩ := knB0 e0
      have hWp : E.W p = [] := hW0 p hp6 kb
      have hQok : Qok (rdX tp (knB tp s E)) (rdM tp (mkB t E)) := by
        rcases qB2 with q | q
        · exact q
        · exact absurd e0 q.2.1
      have r0 : Ro ([] : List Nat) := ⟨List.nodup_nil, fun t q => absurd q List.not_mem_nil⟩
      have hpV : vaN 0 (knA tp s) = p := by rw [qV k0, hp]
      obtain ⟨f, hf⟩ : ∃ f, n = f + 1 := ⟨n - 1, by omega⟩
      obtain ⟨M9, d1, d2, d3, d4⟩ := m_kn_it n hn (E := (E.R, E.W, E.gl, E.pT, E.hT, E.kn ||| 2 ^ p, max E.hi p, E.lg)) hp6 hWp kx r0 (by decide) e0 c2 (fun i x hi => absurd hi (by simp)) f
      obtain ⟨q1, q2⟩ := kn_Q (tp := tp) (l := []) hQok (QT_8 (tp := tp) (Or.inl hQok)) (by decide)
      obtain ⟨r1, r2⟩ := thL_9 (tp := tp) (s := rdX tp (knB tp s E)) (t := t) r0 (by decide)
      have eKC : knC tp s E = btN 0 15 (rdX tp (knB tp s E)) := rfl
      have eKE : knE tp s E = rwL tp 9 (thL [] (vaN 0 (btN 0 15 (rdX tp (knB tp s E))))) (rdX tp (thS [] (vaN 0 (btN 0 15 (rdX tp (knB tp s E)))) (btN 0 15 (rdX tp (knB tp s E))))) := rfl
      have d0 : X_Model_readKnows_L53 n (nI p) kx n 0 1 M8 = X_Model_readKnows_L53 n (nI p) kx (f + 1) (nI ([] : List Nat).length) 1 M8 := by rw [← hf]; rfl
      have d1 := d0.trans d1
      rw [d1]
      by_cases e4 : (kn4 tp [] (rdM tp (mkB t E))).1 = 0
      · obtain ⟨g1', g2'⟩ := q2 e4
        rw [if_pos e4]
        have hlen : (thL [] (vaN 0 (btN 0 15 (rdX tp (knB tp s E))))).length = ([] : List Nat).length + 1 := by rw [g1']; rfl
        rw [← hlen]
        obtain ⟨M', t', v2, i1, i2, i3, i4, i5, i6⟩ := m_kn_L n hn (E := (E.R, E.W, E.gl, E.pT, E.hT, E.kn ||| 2 ^ p, max E.hi p, E.lg)) hp6 hWp kx 9 (thL [] (vaN 0 (btN 0 15 (rdX tp (knB tp s E))))) (rdX tp (thS [] (vaN 0 (btN 0 15 (rdX tp (knB tp s E)))) (btN 0 15 (rdX tp (knB tp s E))))) (kn4 tp [] (rdM tp (mkB t E))) f M9 (by omega) (by rw [hlen]; rfl) q1 d2 (fun q => by rw [g1']; exact d3 q) r1 r2
        rw [i1, kxe v2 i2]
        rw [← eKE] at i4 i5
        have roE : t'.1 = 0 → Ro (knE tp s E).1 ∧ (knE tp s E).1.length ≤ 9 := fun _ => by
          rw [eKE]
          have : ∀ k l s, Ro l → l.length ≤ 9 → Ro (rwL tp k l s).1 ∧ (rwL tp k l s).1.length ≤ 9 := by
            intro k
            induction k with
            | zero => intro l s h1 h2; exact ⟨h1, h2⟩
            | succ k ih =>
              intro l s h1 h2
              unfold rwL
              split
              · obtain ⟨z1, z2⟩ := thL_ok (t := vaN 0 (bd15 s)) h1 h2 (by have := bd15_le s; omega)
                exact ih _ _ z1 z2
              · exact ⟨h1, h2⟩
          exact this 9 _ _ r1 r2
        have f1 : Fr yd M' (si M' 11 (10 * p) (nI v2)) := Fr.si (by unfold yd; omega)
        exact ⟨_, t', rfl, done M' t' v2 (knE tp s E).1 i3 (fun q => ⟨(i5 q).1, (i5 q).2, (roE q).1, (roE q).2, hpV, rfl⟩), i4, ((f8.trans d4).trans i6).trans f1⟩
      · have s0 : (rdX tp (thS [] (vaN 0 (btN 0 15 (rdX tp (knB tp s E)))) (btN 0 15 (rdX tp (knB tp s E))))).1 ≠ 0 := fun q => e4 ((Q_0 q1).mp q)
        obtain ⟨f', rfl⟩ : ∃ g, f = g + 1 := ⟨f - 1, by omega⟩
        have ex : X_Model_readKnows_L53 n (nI p) kx (f' + 1) (nI (if (kn4 tp [] (rdM tp (mkB t E))).1 = 0 then ([] : List Nat).length + 1 else ([] : List Nat).length)) (nI (if (kn4 tp [] (rdM tp (mkB t E))).2.2.2.2.1 = 2 then 1 else 0)) M9 = kx (nI 0) M9 := by
          rw [if_neg e4]
          show (if (M9.1 0 31) = 0 then _ else kx (nI 0) M9) = _
          rw [d2.2.2.1.1, if_neg (fun q => e4 ((i_z (by have := d2.2.1.1; omega)).mp q))]
        rw [ex, kxe 0 (by decide)]
        have f1 : Fr yd M9 (si M9 11 (10 * p) (nI 0)) := Fr.si (by unfold yd; omega)
        refine ⟨_, _, rfl, done M9 _ 0 [] d2 (fun q => absurd q e4), ?_, (f8.trans d4).trans f1⟩
        rw [eKE, rwL_bad s0]
        exact q1
    · obtain ⟨f, hf⟩ : ∃ f, n = f + 1 := ⟨n - 1, by omega⟩
      have ex : X_Model_readKnows_L53 n (nI p) kx n 0 1 M8 = kx (nI 0) M8 := by
        have e1 : X_Model_readKnows_L53 n (nI p) kx n 0 1 M8 = X_Model_readKnows_L53 n (nI p) kx (f + 1) 0 1 M8 := by rw [← hf]
        rw [e1]
        show (if (M8.1 0 31) = 0 then _ else kx 0 M8) = _
        rw [c2.2.2.1.1, if_neg (fun q => e0 ((i_z (by have := c2.2.1.1; omega)).mp q))]
        rfl
      rw [ex, kxe 0 (by decide)]
      have f1 : Fr yd M8 (si M8 11 (10 * p) (nI 0)) := Fr.si (by unfold yd; omega)
      refine ⟨_, _, rfl, done M8 _ 0 [] c2 (fun q => absurd q e0), ?_, f8.trans f1⟩
      have s0 : (rdX tp (knB tp s E)).1 ≠ 0 := fun q => e0 ((Q_0 qB2).mp q)
      have eb : btN 0 15 (rdX tp (knB tp s E)) = rdX tp (knB tp s E) := by unfold btN; rw [rfs_bad s0, rfs_bad s0]
      have et : ∀ v, thS [] v (rdX tp (knB tp s E)) = rdX tp (knB tp s E) := fun v => by unfold thS; rw [rfs_bad s0, rfs_bad s0]
      have er : rdX tp (rdX tp (knB tp s E)) = rdX tp (knB tp s E) := by
        conv => lhs; unfold rdX
        exact if_neg s0
      have eKE : knE tp s E = rwL tp 9 (thL [] (vaN 0 (btN 0 15 (rdX tp (knB tp s E))))) (rdX tp (thS [] (vaN 0 (btN 0 15 (rdX tp (knB tp s E)))) (btN 0 15 (rdX tp (knB tp s E))))) := rfl
      rw [eKE, eb, et, er, rwL_bad s0]
      exact qB2
  unfold X_Model_readKnows
  rw [a1, bd_ret, nm_eq, nm_eq, a2.2.2.1.1]
  by_cases e : (mkA t).1 = 0
  · rw [if_pos (show nI (mkA t).1 = 0 by rw [e]; rfl), gd_in (vp_in_nI (n := vaM (mkA t)) (by omega) (by decide))]
    have hfl : M2.1 13 (nI (vaM (mkA t))).toNatClampNeg = nI (if E.kn.testBit (vaM (mkA t)) then 1 else 0) := by
      rw [nI_clamp (by omega)]
      exact a2.2.2.2.1.2.1 _ (by omega)
    have go : ∀ p1 : Int32, (p1 = 0 ↔ (!E.kn.testBit (vaM (mkA t))) = false) → ∃ N, X_Model_needs n p1 4 M2 = some ((), N) ∧ YS N tp (mkB t E) E ∧ Fr mt M2 N := fun p1 h1 => a2.need n h1 4 (by decide)
    rw [hfl]
    cases eb : E.kn.testBit (vaM (mkA t)) with
    | false =>
      obtain ⟨N, i1, i2, i3⟩ := go 1 (by rw [eb]; decide)
      rw [if_pos (show nI (if false = true then 1 else 0) = 0 from rfl)]
      dsimp only
      rw [i1, bd_ret]
      exact fin N i2 ((mt_yd a3).trans (mt_yd i3))
    | true =>
      obtain ⟨N, i1, i2, i3⟩ := go 0 (by rw [eb]; decide)
      rw [if_neg (show ¬ nI (if true = true then 1 else 0) = 0 by decide)]
      dsimp only
      rw [i1, bd_ret]
      exact fin N i2 ((mt_yd a3).trans (mt_yd i3))
  · rw [if_neg (fun q => e ((i_z (by have := a2.2.1.1; omega)).mp q))]
    exact fin M2 (by unfold mkB; rw [ned_bad e]; exact a2) (mt_yd a3)
