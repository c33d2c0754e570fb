/-! THE TEXT: knows in the reference -/
def btN (lo hi : Nat) (a : Tk) : Tk := rfs (oob lo hi (rfs (decide (a.2.2.1 ≠ 2)) 2 a).2.2.2.2) 3 (rfs (decide (a.2.2.1 ≠ 2)) 2 a)
theorem rfs_bad {c : Bool} {f : Nat} {s : Tk} (h : s.1 ≠ 0) : rfs c f s = s := by
  unfold rfs
  rw [if_neg h]
  split <;> rfl
theorem num_Qa {a : Tk} {t : Tm} (lo hi : Nat) (h : QT a t) : QT (btN lo hi a) (lkN lo hi t) ∧ ((btN lo hi a).1 = 0 → vaN lo (btN lo hi a) = vaM (lkN lo hi t)) := by
  have h1 : QT (rfs (decide (a.2.2.1 ≠ 2)) 2 a) (ned (decide (t.2.2.2.2.1 = 2)) 2 t) := by
    rcases h with h | h
    · exact ref_Q (Or.inl h) (by decide) (by decide) (by rw [h.2.2.2.1]; by_cases q : t.2.2.2.2.1 = 2 <;> simp [q])
    · rw [rfs_bad h.1, ned_bad h.2.1]
      exact Or.inr h
  have hk : (rfs (decide (a.2.2.1 ≠ 2)) 2 a).1 = 0 → a.2.2.1 = 2 := fun q => by
    have := of_decide_eq_false (rfs_0 (by decide) q).2.1
    omega
  have em : lkN lo hi t = ned (!oob lo hi (ned (decide (t.2.2.2.2.1 = 2)) 2 t).2.2.2.2.2) 3 (ned (decide (t.2.2.2.2.1 = 2)) 2 t) := rfl
  have ea : (rfs (decide (a.2.2.1 ≠ 2)) 2 a).2.2.1 = a.2.2.1 := by
    unfold rfs
    split
    · split <;> rfl
    · rfl
  unfold btN
  rw [em]
  generalize rfs (decide (a.2.2.1 ≠ 2)) 2 a = b at h1 hk ea
  generalize ned (decide (t.2.2.2.2.1 = 2)) 2 t = c at h1
  rcases h1 with h1 | h1
  · have hv := h1.2.2.2.2.2 (by rw [ea]; exact hk h1.1)
    have hq := ref_Q (Or.inl h1) (f := 3) (f' := 3) (by decide) (by decide) (c := oob lo hi b.2.2.2.2) (ok := !oob lo hi c.2.2.2.2.2) (by rw [hv, Bool.not_not])
    refine ⟨hq, fun q => ?_⟩
    obtain ⟨r1, r2, r3⟩ := rfs_0 (by decide) q
    rw [r3]
    unfold vaN vaM
    rw [hv] at r2
    rw [r2, if_pos h1.1]
    show _ = if c.1 = 0 then c.2.2.2.2.2 else 0
    rw [if_pos h1.2.1, hv]
  · rw [rfs_bad h1.1, ned_bad h1.2.1]
    exact ⟨Or.inr h1, fun q => absurd q h1.1⟩
theorem Q_0 {s : Tk} {t : Tm} (h : QT s t) : (s.1 = 0 ↔ t.1 = 0) := by
  rcases h with h | h
  · exact ⟨fun _ => h.2.1, fun _ => h.1⟩
  · exact ⟨fun q => absurd q h.1, fun q => absurd q h.2.1⟩
def knt (l : List Nat) (t : Tm) : Tm := lkN 0 15 (ned (decide (¬ (t.2.2.2.2.1 = 2 ∧ 9 ≤ l.length))) 5 t)
def kn4 (tp : List Nat) (l : List Nat) (t : Tm) : Tm := rdM tp (ned (decide (vaM (knt l t) ∉ l)) 4 (knt l t))
theorem kn_Q {tp l : List Nat} {s : Tk} {t : Tm} (h : Qok s t) (h8 : s.1 < 8 ∧ t.1 < 8) (h9 : l.length ≤ 9) : QT (rdX tp (thS l (vaN 0 (btN 0 15 s)) (btN 0 15 s))) (kn4 tp l t) ∧ ((kn4 tp l t).1 = 0 → thL l (vaN 0 (btN 0 15 s)) = l ++ [vaM (knt l t)] ∧ l.length < 9) := by
  by_cases hc : t.2.2.2.2.1 = 2 ∧ 9 ≤ l.length
  · -- the tenth thing: both meet a fault here
    have hk2 : s.2.2.1 = 2 := by rw [h.2.2.2.1]; exact hc.1
    have e1 : ned (decide (¬ (t.2.2.2.2.1 = 2 ∧ 9 ≤ l.length))) 5 t = (5, t.2.2.2.1, t.2.2) := by
      rw [decide_eq_false (fun q => q hc)]
      unfold ned
      rw [if_neg Bool.false_ne_true, if_pos h.2.1]
    have n5 : ((5, t.2.2.2.1, t.2.2) : Tm).1 ≠ 0 := by show 5 ≠ 0; decide
    have e2 : knt l t = (5, t.2.2.2.1, t.2.2) := by unfold knt; rw [e1, lkN_bad n5]
    have e4 : kn4 tp l t = (5, t.2.2.2.1, t.2.2) := by unfold kn4; rw [e2, ned_bad n5, rdM_bad n5]
    rw [e4]
    refine ⟨Or.inr ?_, fun q => absurd q n5⟩
    have e0 : rfs (decide (s.2.2.1 ≠ 2)) 2 s = s := by rw [decide_eq_false (fun q => q hk2)]; rfl
    have eb : btN 0 15 s = rfs (oob 0 15 s.2.2.2.2) 3 s := by unfold btN; rw [e0]
    have key : ∃ f, 0 < f ∧ f < 8 ∧ thS l (vaN 0 (btN 0 15 s)) (btN 0 15 s) = (f, s.2) := by
      rw [eb]
      cases eo : oob 0 15 s.2.2.2.2 with
      | true =>
        have e3 : rfs true 3 s = (3, s.2) := by unfold rfs; rw [if_pos rfl, if_pos h.1]
        have n3 : ((3, s.2) : Tk).1 ≠ 0 := by show 3 ≠ 0; decide
        exact ⟨3, by decide, by decide, by rw [e3]; unfold thS; rw [rfs_bad n3, rfs_bad n3]⟩
      | false =>
        rw [rfs_f]
        unfold thS
        by_cases em : vaN 0 s ∈ l
        · refine ⟨4, by decide, by decide, ?_⟩
          rw [decide_eq_true em, decide_eq_false (fun q => q.1 em), rfs_f]
          unfold rfs
          rw [if_pos rfl, if_pos h.1]
        · refine ⟨5, by decide, by decide, ?_⟩
          rw [decide_eq_false em, rfs_f, decide_eq_true ⟨em, hc.2⟩]
          unfold rfs
          rw [if_pos rfl, if_pos h.1]
    obtain ⟨f, f1, f2, f3⟩ := key
    have nf : ((f, s.2) : Tk).1 ≠ 0 := by show f ≠ 0; omega
    rw [f3]
    have er : rdX tp (f, s.2) = (f, s.2) := by unfold rdX; rw [if_neg nf]
    rw [er]
    exact ⟨nf, n5, f2, by show 5 < 8; decide, h.2.2.2.2.1⟩
  · have e1 : ned (decide (¬ (t.2.2.2.2.1 = 2 ∧ 9 ≤ l.length))) 5 t = t := by rw [decide_eq_true hc]; rfl
    have e2 : knt l t = lkN 0 15 t := by unfold knt; rw [e1]
    obtain ⟨q1, q2⟩ := num_Qa 0 15 (Or.inl h)
    unfold kn4
    rw [e2]
    have hb2 : (btN 0 15 s).1 = 0 → l.length < 9 := fun q => by
      have a1 := (rfs_0 (by decide) q).1
      have a2 := of_decide_eq_false (rfs_0 (by decide) a1).2.1
      have : s.2.2.1 = 2 := by omega
      rw [h.2.2.2.1] at this
      omega
    generalize btN 0 15 s = b at q1 q2 hb2
    generalize lkN 0 15 t = c at q1 q2
    have hQ : QT (thS l (vaN 0 b) b) (ned (decide (vaM c ∉ l)) 4 c) := by
      unfold thS
      rcases q1 with q1 | q1
      · have h9' := hb2 q1.1
        rw [decide_eq_false (show ¬ (vaN 0 b ∉ l ∧ 9 ≤ l.length) by omega), rfs_f]
        exact ref_Q (Or.inl q1) (by decide) (by decide) (by rw [q2 q1.1]; by_cases m : vaM c ∈ l <;> simp [m])
      · rw [rfs_bad q1.1, rfs_bad q1.1, ned_bad q1.2.1]
        exact Or.inr q1
    refine ⟨next_Q hQ, fun q => ?_⟩
    have r1 := rdM_0 q
    obtain ⟨r2, r3, r4⟩ := ned_0 (by decide) r1
    have b0 := (Q_0 q1).mpr r2
    have r3 := of_decide_eq_true r3
    rw [q2 b0]
    refine ⟨?_, hb2 b0⟩
    unfold thL
    rw [if_neg r3, if_pos (hb2 b0)]
def Part (M : Mem) (p : Nat) (l : List Nat) : Prop := ∀ i x, l[i]? = some x → M.1 11 (10 * p + 1 + i) = nI x
theorem Part.mt {M M' : Mem} {p : Nat} {l : List Nat} (h : Part M p l) (ho : Fr mt M M') : Part M' p l := fun i x hi => by
  rw [(ho 11 _ (fun q => by have q := mt_at q; omega)).1]
  exact h i x hi
theorem i_10p (p i : Nat) : (((10 : Int32) * nI p) + 1) + nI i = nI (10 * p + 1 + i) := by
  rw [show (10 : Int32) = nI 10 from rfl, pk_mul, nI_1, nI_add]
theorem m_L100 (n : Nat) {tp : List Nat} {E : Dr} {p w : Nat} (hp : p < 6) (hw : w < 2 ^ 31) (kx : Mem → Option (Unit × Mem)) {l : List Nat} (hr : ∀ x ∈ l, x < 16) (h9 : l.length ≤ 9) : ∀ suf pre f M t, l = pre ++ suf → suf.length < f → YS M tp t E → Part M p l → ∃ M', X_Model_readKnows_L100 n (nI p) (nI l.length) (nI w) kx f (nI pre.length) M = kx M' ∧ YS M' tp (ned (decide (w ∉ suf)) 4 t) E ∧ Fr mt M M'
  | [], pre, f, M, t, e, hf, hS, hP => by
    obtain ⟨f, rfl⟩ : ∃ g, f = g + 1 := ⟨f - 1, by omega⟩
    rw [List.append_nil] at e
    refine ⟨M, ?_, hS, Fr.rf⟩
    show (if nI l.length ≤ nI pre.length then kx M else _) = _
    rw [e, if_pos (nI_le (Nat.le_refl _) (by rw [← e]; omega))]
  | x :: suf, pre, f, M, t, e, hf, hS, hP => by
    rw [List.length_cons] at hf
    obtain ⟨f, rfl⟩ : ∃ g, f = g + 1 := ⟨f - 1, by omega⟩
    have hlen : pre.length < l.length := by rw [e, List.length_append, List.length_cons]; omega
    have ex : l[pre.length]? = some x := by rw [e, List.getElem?_append_right (Nat.le_refl _), Nat.sub_self]; rfl
    have hx := hr x (by rw [e]; exact List.mem_append_right _ List.mem_cons_self)
    obtain ⟨M2, b1, b2, b3⟩ := hS.need n (p1 := if nI x = nI w then 0 else 1) (ok := decide (x ≠ w)) (by
      by_cases q : x = w
      · rw [if_pos (by rw [q]), decide_eq_false (fun r => r q)]; decide
      · rw [if_neg (fun r => q ((nI_eq (by omega) hw).mp r)), decide_eq_true q]; decide) 4 (by decide)
    obtain ⟨M', c1, c2, c3⟩ := m_L100 n hp hw kx hr h9 suf (pre ++ [x]) f M2 _ (by rw [e, List.append_assoc]; rfl) (by omega) b2 (hP.mt b3)
    rw [List.length_append, List.length_singleton] at c1
    refine ⟨M', ?_, ?_, b3.trans c3⟩
    · rw [← c1]
      show (if nI l.length ≤ nI pre.length then kx M else gd ((((10 : Int32) * nI p) + 1) + nI pre.length) 60 (nm (fun (u14 : Int32) => (bd (X_Model_needs n u14 4 M) fun _ M16 => X_Model_readKnows_L100 n (nI p) (nI l.length) (nI w) kx f (nI pre.length + 1) M16 : Option (Unit × Mem))) fun k131 => (if (M.1 11 ((((10 : Int32) * nI p) + 1) + nI pre.length).toNatClampNeg) = nI w then k131 0 else k131 1))) = _
      rw [if_neg (nI_ge hlen (by omega)), i_10p, gd_in (vp_in_nI (n := 10 * p + 1 + pre.length) (by omega) (by decide)), nI_clamp (by omega), hP _ _ ex, nm_eq, nI_1]
      by_cases q : nI x = nI w
      · rw [if_pos q]
        rw [if_pos q] at b1
        dsimp only
        rw [show X_Model_needs n 0 4 M = _ from b1, bd_ret]
      · rw [if_neg q]
        rw [if_neg q] at b1
        dsimp only
        rw [show X_Model_needs n 1 4 M = _ from b1, bd_ret]
    · have : ned (decide (w ∉ x :: suf)) 4 t = ned (decide (w ∉ suf)) 4 (ned (decide (x ≠ w)) 4 t) := by
        by_cases q : x = w
        · have h1 : decide (w ∉ x :: suf) = false := decide_eq_false (fun r => r (by rw [q]; exact List.mem_cons_self))
          have h2 : decide (x ≠ w) = false := decide_eq_false (fun r => r q)
          rw [h1, h2]
          by_cases e0 : t.1 = 0
          · have e4 : ned false 4 t = (4, t.2.2.2.1, t.2.2) := by unfold ned; rw [if_neg Bool.false_ne_true, if_pos e0]
            rw [e4]
            exact (ned_bad (show ((4, t.2.2.2.1, t.2.2) : Tm).1 ≠ 0 by show 4 ≠ 0; decide)).symm
          · rw [ned_bad e0]
            exact (ned_bad e0).symm
        · rw [decide_eq_true q]
          by_cases m : w ∈ suf
          · rw [decide_eq_false (show ¬ w ∉ x :: suf from fun r => r (List.mem_cons_of_mem _ m)), decide_eq_false (fun r => r m)]; rfl
          · rw [decide_eq_true (show w ∉ x :: suf from fun r => (List.mem_cons.mp r).elim (fun z => q z.symm) m), decide_eq_true m]; rfl
      rw [this]
      exact c2
theorem kn_8 {tp l : List Nat} {t : Tm} (q : (kn4 tp l t).1 = 0) : l.length < 9 := by
  have r1 := rdM_0 q
  have r2 := (ned_0 (by decide) r1).1
  obtain ⟨s1, s2, -, -, -⟩ := lkN_0 r2
  obtain ⟨u1, u2, u3⟩ := ned_0 (by decide) s1
  have u2 := of_decide_eq_true u2
  rw [u3] at s2
  omega
theorem m_kn_it (n : Nat) (hn : 400 ≤ n) {tp : List Nat} {E : Dr} {p : Nat} (hp : p < 6) (hWp : E.W p = []) (kx : Int32 → Mem → Option (Unit × Mem)) {l : List Nat} (hr : Ro l) (h9 : l.length ≤ 9) {t : Tm} (h0 : t.1 = 0) {M : Mem} (hS : YS M tp t E) (hP : Part M p l) (f : Nat) : ∃ M', X_Model_readKnows_L53 n (nI p) kx (f + 1) (nI l.length) 1 M = X_Model_readKnows_L53 n (nI p) kx f (nI (if (kn4 tp l t).1 = 0 then l.length + 1 else l.length)) (nI (if (kn4 tp l t).2.2.2.2.1 = 2 then 1 else 0)) M' ∧ YS M' tp (kn4 tp l t) E ∧ ((kn4 tp l t).1 = 0 → Part M' p (l ++ [vaM (knt l t)])) ∧ Fr yd M M' := by
  have hk4 := hS.2.1.2.2.2
  have hw : vaM (knt l t) ≤ 15 := vaM_le
  have un : X_Model_readKnows_L53 n (nI p) kx (f + 1) (nI l.length) 1 M = (bd (X_Model_needs n (if t.2.2.2.2.1 = 2 ∧ 9 ≤ l.length then 0 else 1) 5 M) fun _ M11 => bd (X_Model_looked n 0 15 M11) fun r12 M13 => X_Model_readKnows_L100 n (nI p) (nI l.length) r12 (fun M17 => bd (X_Model_next n M17) fun _ M19 => nm (fun (z20 : Int32) (M21 : Mem) => (nm (fun (u22 : Int32) => (X_Model_readKnows_L53 n (nI p) kx f z20 u22 M21 : Option (Unit × Mem))) fun k183 => (if (M21.1 0 29) = 2 then k183 1 else k183 0) : Option (Unit × Mem))) fun k170 => (if (M19.1 0 31) = 0 then gd ((((10 : Int32) * nI p) + 1) + nI l.length) 60 (k170 (nI l.length + 1) (si M19 11 (((((10 : Int32) * nI p) + 1) + nI l.length).toNatClampNeg) r12)) else k170 (nI l.length) M19)) n 0 M13) := by
    show (if (M.1 0 31) = 0 then (if (1 : Int32) = 0 then kx (nI l.length) M else nm (fun (u9 : Int32) => (bd (X_Model_needs n u9 5 M) fun _ M11 => bd (X_Model_looked n 0 15 M11) fun r12 M13 => X_Model_readKnows_L100 n (nI p) (nI l.length) r12 (fun M17 => bd (X_Model_next n M17) fun _ M19 => nm (fun (z20 : Int32) (M21 : Mem) => (nm (fun (u22 : Int32) => (X_Model_readKnows_L53 n (nI p) kx f z20 u22 M21 : Option (Unit × Mem))) fun k183 => (if (M21.1 0 29) = 2 then k183 1 else k183 0) : Option (Unit × Mem))) fun k170 => (if (M19.1 0 31) = 0 then gd ((((10 : Int32) * nI p) + 1) + nI l.length) 60 (k170 (nI l.length + 1) (si M19 11 (((((10 : Int32) * nI p) + 1) + nI l.length).toNatClampNeg) r12)) else k170 (nI l.length) M19)) n 0 M13 : Option (Unit × Mem))) fun k84 => (if (M.1 0 29) = 2 then (if 9 ≤ nI l.length then k84 0 else k84 1) else k84 1)) else kx (nI l.length) M) = _
    rw [hS.2.2.1.1, if_pos (show nI t.1 = 0 by rw [h0]; rfl), if_neg i10, nm_eq, hS.2.2.1.2.2.2.2.1]
    by_cases q : t.2.2.2.2.1 = 2
    · rw [if_pos (show nI t.2.2.2.2.1 = 2 by rw [q]; rfl)]
      by_cases q9 : 9 ≤ l.length
      · rw [if_pos (show (9 : Int32) ≤ nI l.length from nI_le (a := 9) q9 (by omega)), if_pos ⟨q, q9⟩]
      · rw [if_neg (show ¬ (9 : Int32) ≤ nI l.length from nI_ge (b := 9) (by omega) (by decide)), if_neg (fun r => q9 r.2)]
    · rw [if_neg (show ¬ nI t.2.2.2.2.1 = 2 from fun r => q ((nI_eq (b := 2) (by omega) (by decide)).mp r)), if_neg (fun r => q r.1)]
  obtain ⟨M11, b1, b2, b3⟩ := hS.need n (p1 := if t.2.2.2.2.1 = 2 ∧ 9 ≤ l.length then 0 else 1) (ok := decide (¬ (t.2.2.2.2.1 = 2 ∧ 9 ≤ l.length))) (by
    by_cases q : t.2.2.2.2.1 = 2 ∧ 9 ≤ l.length
    · rw [if_pos q, decide_eq_false (fun r => r q)]; decide
    · rw [if_neg q, decide_eq_true q]; decide) 5 (by decide)
  obtain ⟨M13, c1, c2, c3⟩ := b2.look n 0 15 (by decide) (by decide)
  have c1 : X_Model_looked n 0 15 M11 = some (nI (vaM (knt l t)), M13) := c1
  have c2 : YS M13 tp (knt l t) E := c2
  have hP13 := (hP.mt b3).mt c3
  rw [un, show X_Model_needs n (if t.2.2.2.2.1 = 2 ∧ 9 ≤ l.length then 0 else 1) 5 M = _ from b1, bd_ret, c1, bd_ret]
  generalize hkx : (fun M17 : Mem => bd (X_Model_next n M17) fun _ M19 => nm (fun (z20 : Int32) (M21 : Mem) => (nm (fun (u22 : Int32) => (X_Model_readKnows_L53 n (nI p) kx f z20 u22 M21 : Option (Unit × Mem))) fun k183 => (if (M21.1 0 29) = 2 then k183 1 else k183 0) : Option (Unit × Mem))) fun k170 => (if (M19.1 0 31) = 0 then gd ((((10 : Int32) * nI p) + 1) + nI l.length) 60 (k170 (nI l.length + 1) (si M19 11 (((((10 : Int32) * nI p) + 1) + nI l.length).toNatClampNeg) (nI (vaM (knt l t))))) else k170 (nI l.length) M19)) = kx2
  obtain ⟨M17, d1, d2, d3⟩ := m_L100 n hp (w := vaM (knt l t)) (by omega) kx2 hr.2 h9 l [] n M13 _ rfl (by omega) c2 hP13
  obtain ⟨M19, e1, e2, e3⟩ := d2.nxt n hn
  have e2 : YS M19 tp (kn4 tp l t) E := e2
  have hP19 := (hP13.mt d3).mt e3
  have f19 := (((mt_yd b3).trans (mt_yd c3)).trans (mt_yd d3)).trans (mt_yd e3)
  rw [show X_Model_readKnows_L100 n (nI p) (nI l.length) (nI (vaM (knt l t))) kx2 n 0 M13 = _ from d1, ← hkx]
  dsimp only
  rw [e1, bd_ret, nm_eq, e2.2.2.1.1]
  have k29 : ∀ (N : Mem), N.1 0 29 = nI (kn4 tp l t).2.2.2.2.1 → ∀ z, (nm (fun (u22 : Int32) => (X_Model_readKnows_L53 n (nI p) kx f z u22 N : Option (Unit × Mem))) fun k183 => (if (N.1 0 29) = 2 then k183 1 else k183 0)) = X_Model_readKnows_L53 n (nI p) kx f z (nI (if (kn4 tp l t).2.2.2.2.1 = 2 then 1 else 0)) N := fun N hN z => by
    rw [nm_eq, hN]
    by_cases q : (kn4 tp l t).2.2.2.2.1 = 2
    · rw [if_pos (show nI (kn4 tp l t).2.2.2.2.1 = 2 by rw [q]; rfl), if_pos q]; rfl
    · rw [if_neg (show ¬ nI (kn4 tp l t).2.2.2.2.1 = 2 from fun r => q ((nI_eq (b := 2) (by have := e2.2.1.2.2.2; omega) (by decide)).mp r)), if_neg q]; rfl
  by_cases e0 : (kn4 tp l t).1 = 0
  · have hl8 := kn_8 e0
    rw [if_pos (show nI (kn4 tp l t).1 = 0 by rw [e0]; rfl), if_pos e0, i_10p, gd_in (vp_in_nI (n := 10 * p + 1 + l.length) (by omega) (by decide)), nI_clamp (by omega), nI_1]
    dsimp only
    rw [k29 _ (by rw [si_ne (Or.inl (by decide))]; exact e2.2.2.1.2.2.2.2.1)]
    have f1 : Fr (fun c k => c = 11 ∧ k = 10 * p + 1 + l.length) M19 (si M19 11 (10 * p + 1 + l.length) (nI (vaM (knt l t)))) := Fr.si ⟨rfl, rfl⟩
    obtain ⟨x1, x2, x3, x4, x5, x6, x7, x8, x9, x10⟩ := e2.2.2.2.1.1
    refine ⟨_, rfl, e2.wr f1 (fun c k q => by omega) ⟨⟨x1, x2, x3, x4, x5, x6, x7, x8, fun q hq => ?_, x10⟩, e2.2.2.2.1.2⟩ e2.2.2.2.2, fun _ i x hi => ?_, f19.trans (f1.mono (fun c k q => by unfold yd; omega))⟩
    · by_cases eq : q = p
      · subst eq
        have hx := x9 q hq
        rw [hWp] at hx ⊢
        exact ⟨by rw [si_ne (Or.inr (by omega))]; exact hx.1, fun i t hi => absurd hi (by simp)⟩
      · refine (x9 q hq).fr f1 (fun k h1 h2 r => ?_)
        have := (e2.2.2.2.2 q).2
        omega
    · by_cases hi2 : i < l.length
      · rw [List.getElem?_append_left hi2] at hi
        rw [si_ne (Or.inr (by omega))]
        exact hP19 i x hi
      · have hl2 := (List.getElem?_eq_some_iff.mp hi).1
        rw [List.length_append, List.length_singleton] at hl2
        have ei : i = l.length := by omega
        subst ei
        rw [List.getElem?_append_right (Nat.le_refl _), Nat.sub_self] at hi
        rw [si_at, ← Option.some.inj hi]
  · rw [if_neg (fun q => e0 ((i_z (by have := e2.2.1.1; omega)).mp q)), if_neg e0]
    dsimp only
    rw [k29 _ e2.2.2.1.2.2.2.2.1]
    exact ⟨M19, rfl, e2, fun q => absurd q e0, f19⟩
