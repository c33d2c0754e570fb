/-! CALLS: learn, forget, glove, shake, feast, days -/
def updW (W : Nat → List Nat) (p : Nat) (l : List Nat) : Nat → List Nat := fun q => if q = p then l else W q
theorem OkMi.setW {P : Nat} {m : Mi} {W : Nat → List Nat} (h : OkMi P m) (hW : OkW W) (he : ∀ p, P ≤ p → W p = []) : OkMi P (m.setW W) := ⟨hW, he, h.2.2⟩
theorem OkW.upd {W : Nat → List Nat} (h : OkW W) (p : Nat) {l : List Nat} (hl : Ro l) (h9 : l.length ≤ 9) : OkW (updW W p l) := fun q => by
  unfold updW
  split
  · exact ⟨hl, h9⟩
  · exact h q
theorem updW_end {W : Nat → List Nat} {P p : Nat} {l : List Nat} (h : ∀ q, P ≤ q → W q = []) (hp : p < P) : ∀ q, P ≤ q → updW W p l q = [] := fun q hq => by
  unfold updW
  rw [if_neg (by omega)]
  exact h q hq
theorem rowsAt.upd {M : Mem} {rows : Nat} {W : Nat → List Nat} (h : rowsAt M rows W) (p : Nat) (l : List Nat) : rowsAt (sl M rows p (enc l)) rows (updW W p l) := fun q hq => by
  unfold updW
  show (if rows = rows ∧ q = p then enc l else M.2 rows q) = _
  by_cases e : q = p
  · rw [if_pos ⟨rfl, e⟩, if_pos e]
  · rw [if_neg (fun x => e x.2), if_neg e]
    exact h q hq
theorem x_knowsNow {M : Mem} {S : Ab} (hS : Ok S) (h : XA M S) {p t : Nat} (hp : p < S.R.1) (ht : t < 16) : X_ShakeHands_knowsNow fuel (nI p) (nI t) M = some (if t ∈ S.A.W p then 1 else 0, M) := by
  have h6 := hS.p6
  unfold X_ShakeHands_knowsNow
  rw [gd_in (vp_in_nI (by omega) (by decide)), nI_clamp (by omega), h.a.2.2.1 p (by omega), row_knowsIt fuel (hS.hA.1 p).1 (hS.hA.1 p).2 ht, bd_ret]
  split <;> rfl
-- one row of now is made anew
def lrnU (p t : Nat) (S : Ab) : Int32 × Ab := let l := settle S.R (addT (S.A.W p) t); (nI l.length, S.setA (S.A.setW (updW S.A.W p l)))
theorem m_row1 {M : Mem} {S : Ab} (hM : MA M S) {p : Nat} (hp : p < 6) : RwM M 1 (10 * p) (S.A.W p) := by
  have := hM.a.1 p hp
  rwa [Nat.zero_add] at this
theorem m_take1 {M : Mem} {S : Ab} (hS : Ok S) (hM : MA M S) {N : Mem} {p : Nat} (hp : p < 6) (hN : Fr (mh 0) M N) : ∃ M', X_Model_takes fuel 1 234 ((10 : Int32) * nI p) (si N 0 35 0) = some ((), M') ∧ MkAt M' (S.A.W p) ∧ Fr (mh 0) M M' := by
  have hmk1 : ∀ k, ¬ mk 1 k := fun k => by unfold mk; omega
  have f0 : Fr mk N (si N 0 35 0) := Fr.si (Or.inr ⟨rfl, rfl⟩)
  have k0 : MkAt (si N 0 35 0) [] := ⟨si_at _ _ _ _, fun i t h => by simp at h⟩
  have hW := hS.hA.1 p
  obtain ⟨M1, g1, g2, g3⟩ := m_takes fuel (by decide) (c := 1) (ln := 234) (b := 10 * p) (by decide) hW.1 hW.2 (by omega) (by decide) (((m_row1 hM hp).fr hN (fun k _ _ => mh_1 k)).fr f0 (fun k _ _ => hmk1 k)) k0 ⟨List.nodup_nil, by simp⟩
  have m0 : mergeT [] (S.A.W p) = S.A.W p := by
    have : ∀ (m l : List Nat), (l ++ m).Nodup → mergeT l m = l ++ m := by
      intro m
      induction m with
      | nil => intro l _; simp [mergeT]
      | cons t m ih =>
        intro l h
        have h1 : t ∉ l := by
          have := (List.nodup_append.mp h).2.2
          intro q
          exact this t q t List.mem_cons_self rfl
        show mergeT (addT l t) m = _
        unfold addT
        rw [if_neg h1, ih (l ++ [t]) (by simpa using h)]
        simp
    have h := this (S.A.W p) [] (by simpa using hW.1.1)
    simpa using h
  rw [m0] at g2
  refine ⟨M1, ?_, g2, hN.trans ((f0.trans g3).mono (fun _ _ h => Or.inl h))⟩
  rw [show (10 : Int32) = nI 10 from rfl, pk_mul]
  exact g1
theorem m_put1 {M N : Mem} {S : Ab} (hS : Ok S) (hM : MA M S) {p : Nat} (hp : p < S.R.1) {l : List Nat} (hN : Fr (mh 0) M N) (hk : MkAt N l) (hl : Ro l) (h9 : l.length ≤ 9) : ∃ M', X_Model_puts fuel 1 234 ((10 : Int32) * nI p) N = some ((), M') ∧ M'.1 0 35 = nI l.length ∧ MA M' (S.setA (S.A.setW (updW S.A.W p l))) := by
  have h6 := hS.p6
  obtain ⟨M1, g1, g2, g3⟩ := m_puts fuel (by decide) (c := 1) (ln := 234) (b := 10 * p) (by decide) (by omega) (by decide) hk h9
  refine ⟨M1, ?_, by rw [(g3 0 35 (by unfold rg; omega)).1]; exact hk.1, ?_⟩
  · rw [show (10 : Int32) = nI 10 from rfl, pk_mul]
    exact g1
  · refine hM.newW hS ((hN.mono (fun _ _ h => Or.inl (mh_mS h))).trans (g3.mono (fun _ _ h => Or.inr ?_))) (fun q hq => ?_)
    · unfold rg at *; omega
    · unfold updW
      rw [Nat.zero_add]
      by_cases e : q = p
      · rw [if_pos e, e]; exact g2
      · rw [if_neg e]
        have := (hS.hA.1 q).2
        exact ((m_row1 hM hq).fr hN (fun k _ _ => mh_1 k)).fr g3 (fun k _ _ => by unfold rg; omega)
theorem sim_learn (a0 : Int32) (a1 : Int32) : Sm (fun M => X_ShakeHands_learn fuel a0 a1 M) (fun M => X_Model_learn fuel a0 a1 M) := by
  refine Sm_u (u := fun S => if vN a0 S.R.1 then (if vN a1 16 then (if pN a1 ∈ S.A.W (pN a0) then (-2, S) else lrnU (pN a0) (pN a1) S) else (-1, S)) else (-1, S)) (fun M S hS hM => ?_) (fun M S hS hM => ?_) (fun S hS => ?_)
  · dsimp only
    unfold X_ShakeHands_learn
    rw [x_isOne fuel hM.c.1, bd_ret]
    by_cases h : vN a0 S.R.1 = true
    · obtain ⟨h1, h2⟩ := vN_y hS.p31 h
      have h6 := hS.p6
      rw [if_pos h, if_pos h, if_neg i10, x_isThing, bd_ret]
      by_cases h' : vN a1 16 = true
      · obtain ⟨h3, h4⟩ := vN_y (by decide) h'
        rw [if_pos h', if_pos h', if_neg i10]
        generalize pN a0 = p at *
        generalize pN a1 = t at *
        subst h2 h4
        have hW := hS.hA.1 p
        rw [x_knowsNow hS hM h1 h3, bd_ret]
        by_cases e : t ∈ S.A.W p
        · rw [if_pos e, if_pos e, if_neg i10]
          exact ⟨M, rfl, hM⟩
        · rw [if_neg e, if_neg e, if_pos rfl]
          have hv : vp_in (nI p) 6 := vp_in_nI (by omega) (by decide)
          have hl : Ro (settle S.R (addT (S.A.W p) t)) := (hW.1.addT h3).settle hS.hR
          have hl9 := settle_le9 hS.hR (addT (S.A.W p) t)
          simp only [gd_in hv, nm]
          rw [nI_clamp (by omega), hM.a.2.2.1 p (by omega), circ_taught fuel (by decide) hS.hR hM.c hW.1 hW.2 h3, bd_ret]
          have e2 : (sl (stR M 15 (settle S.R (addT (S.A.W p) t))) 17 p (enc (settle S.R (addT (S.A.W p) t)))).2 17 p = enc (settle S.R (addT (S.A.W p) t)) := if_pos ⟨rfl, rfl⟩
          rw [e2, row_size fuel hl hl9, bd_ret]
          refine ⟨_, rfl, hM.newW ((Off.stR (by decide)).trans (Off.sl (by decide))) ?_⟩
          exact rowsAt.upd (hM.a.2.2.1.off (Off.stR (S := [15]) (by decide)) (by decide)) p _
      · rw [if_neg h', if_neg h', if_pos rfl]
        exact ⟨M, rfl, hM⟩
    · rw [if_neg h, if_neg h, if_pos rfl]
      exact ⟨M, rfl, hM⟩
  · dsimp only
    unfold X_Model_learn
    rw [m_isOne fuel hS.p31 hM.c.1, bd_ret]
    by_cases h : vN a0 S.R.1 = true
    · obtain ⟨h1, h2⟩ := vN_y hS.p31 h
      have h6 := hS.p6
      rw [if_pos h, if_pos h, if_neg i10, m_isThing, bd_ret]
      by_cases h' : vN a1 16 = true
      · obtain ⟨h3, h4⟩ := vN_y (by decide) h'
        rw [if_pos h', if_pos h', if_neg i10]
        generalize pN a0 = p at *
        generalize pN a1 = t at *
        subst h2 h4
        have hW := hS.hA.1 p
        rw [m_knowsIt hS hM h1 h3, bd_ret]
        by_cases e : t ∈ S.A.W p
        · rw [if_pos e, if_pos e, if_neg i10]
          exact ⟨_, rfl, hM.fr hS (mh_S (m0_fr M))⟩
        · rw [if_neg e, if_neg e, if_pos rfl]
          simp only [nm]
          obtain ⟨M1, g1, g2, g3⟩ := m_take1 hS hM (p := p) (by omega) (m0_fr M)
          obtain ⟨M2, k1, k2, k3⟩ := m_adds fuel (by decide) g2 hW.1 h3
          have f2 : Fr (mh 0) M M2 := g3.trans (k3.mono (fun _ _ h => Or.inl h))
          obtain ⟨M3, q1, q2, q3⟩ := m_settles fuel (by decide) hS.hR (hM.c.mh f2) k2 (hW.1.addT h3)
          have f3 : Fr (mh 0) M M3 := f2.trans (q3.mono (fun _ _ h => Or.inl h))
          obtain ⟨M4, t1, t2, t3⟩ := m_put1 hS hM h1 f3 q2 ((hW.1.addT h3).settle hS.hR) (settle_le9 hS.hR _)
          rw [g1, bd_ret, k1, bd_ret, q1, bd_ret, t1, bd_ret, t2]
          exact ⟨M4, rfl, t3⟩
      · rw [if_neg h', if_neg h', if_pos rfl]
        exact ⟨M, rfl, hM⟩
    · rw [if_neg h, if_neg h, if_pos rfl]
      exact ⟨M, rfl, hM⟩
  · split
    · next h =>
      obtain ⟨h1, h2⟩ := vN_y hS.p31 h
      split
      · next h' =>
        obtain ⟨h3, h4⟩ := vN_y (by decide) h'
        split
        · exact hS
        · exact hS.newA (hS.hA.setW (hS.hA.1.upd _ (((hS.hA.1 _).1.addT h3).settle hS.hR) (settle_le9 hS.hR _)) (updW_end hS.hA.2.1 h1))
      · exact hS
    · exact hS
def fgtU (p t : Nat) (S : Ab) : Int32 × Ab := let l := (S.A.W p).erase t; (nI l.length, S.setA (S.A.setW (updW S.A.W p l)))
theorem sim_forget (a0 : Int32) (a1 : Int32) : Sm (fun M => X_ShakeHands_forget fuel a0 a1 M) (fun M => X_Model_forget fuel a0 a1 M) := by
  refine Sm_u (u := fun S => if vN a0 S.R.1 then (if vN a1 16 then (if pN a1 ∈ S.A.W (pN a0) then fgtU (pN a0) (pN a1) S else (-4, S)) else (-1, S)) else (-1, S)) (fun M S hS hM => ?_) (fun M S hS hM => ?_) (fun S hS => ?_)
  · dsimp only
    unfold X_ShakeHands_forget
    rw [x_isOne fuel hM.c.1, bd_ret]
    by_cases h : vN a0 S.R.1 = true
    · obtain ⟨h1, h2⟩ := vN_y hS.p31 h
      have h6 := hS.p6
      rw [if_pos h, if_pos h, if_neg i10, x_isThing, bd_ret]
      by_cases h' : vN a1 16 = true
      · obtain ⟨h3, h4⟩ := vN_y (by decide) h'
        rw [if_pos h', if_pos h', if_neg i10]
        generalize pN a0 = p at *
        generalize pN a1 = t at *
        subst h2 h4
        have hW := hS.hA.1 p
        rw [x_knowsNow hS hM h1 h3, bd_ret]
        by_cases e : t ∈ S.A.W p
        · rw [if_pos e, if_pos e, if_neg i10]
          have hv : vp_in (nI p) 6 := vp_in_nI (by omega) (by decide)
          have hl9 : ((S.A.W p).erase t).length ≤ 9 := Nat.le_trans List.length_erase_le hW.2
          simp only [gd_in hv, nm]
          rw [nI_clamp (by omega), hM.a.2.2.1 p (by omega), circ_without fuel (by decide) hW.1 hW.2 e, bd_ret]
          have e2 : (sl (stR M 15 ((S.A.W p).erase t)) 17 p (enc ((S.A.W p).erase t))).2 17 p = enc ((S.A.W p).erase t) := if_pos ⟨rfl, rfl⟩
          rw [e2, row_size fuel (hW.1.erase t) hl9, bd_ret]
          refine ⟨_, rfl, hM.newW ((Off.stR (by decide)).trans (Off.sl (by decide))) ?_⟩
          exact rowsAt.upd (hM.a.2.2.1.off (Off.stR (S := [15]) (by decide)) (by decide)) p _
        · rw [if_neg e, if_neg e, if_pos rfl]
          exact ⟨M, rfl, hM⟩
      · rw [if_neg h', if_neg h', if_pos rfl]
        exact ⟨M, rfl, hM⟩
    · rw [if_neg h, if_neg h, if_pos rfl]
      exact ⟨M, rfl, hM⟩
  · dsimp only
    unfold X_Model_forget
    rw [m_isOne fuel hS.p31 hM.c.1, bd_ret]
    by_cases h : vN a0 S.R.1 = true
    · obtain ⟨h1, h2⟩ := vN_y hS.p31 h
      have h6 := hS.p6
      rw [if_pos h, if_pos h, if_neg i10, m_isThing, bd_ret]
      by_cases h' : vN a1 16 = true
      · obtain ⟨h3, h4⟩ := vN_y (by decide) h'
        rw [if_pos h', if_pos h', if_neg i10]
        generalize pN a0 = p at *
        generalize pN a1 = t at *
        subst h2 h4
        have hW := hS.hA.1 p
        rw [m_knowsIt hS hM h1 h3, bd_ret]
        by_cases e : t ∈ S.A.W p
        · rw [if_pos e, if_pos e, if_neg i10]
          simp only [nm]
          obtain ⟨M1, g1, g2, g3⟩ := m_take1 hS hM (p := p) (by omega) (m0_fr M)
          obtain ⟨r, M2, k0, -, k1, k2, k3⟩ := m_rem fuel (by decide) g2 hW.1 e
          have f2 : Fr (mh 0) M M2 := g3.trans (k3.mono (fun _ _ h => Or.inl h))
          obtain ⟨M4, t1, t2, t3⟩ := m_put1 hS hM h1 f2 k2 (hW.1.erase t) (Nat.le_trans List.length_erase_le hW.2)
          rw [g1, bd_ret, k0, bd_ret, k1, bd_ret, t1, bd_ret, t2]
          exact ⟨M4, rfl, t3⟩
        · rw [if_neg e, if_neg e, if_pos rfl]
          exact ⟨_, rfl, hM.fr hS (mh_S (m0_fr M))⟩
      · rw [if_neg h', if_neg h', if_pos rfl]
        exact ⟨M, rfl, hM⟩
    · rw [if_neg h, if_neg h, if_pos rfl]
      exact ⟨M, rfl, hM⟩
  · split
    · next h =>
      obtain ⟨h1, h2⟩ := vN_y hS.p31 h
      split
      · next h' =>
        split
        · exact hS.newA (hS.hA.setW (hS.hA.1.upd _ ((hS.hA.1 _).1.erase _) (Nat.le_trans List.length_erase_le (hS.hA.1 _).2)) (updW_end hS.hA.2.1 h1))
        · exact hS
      · exact hS
    · exact hS
