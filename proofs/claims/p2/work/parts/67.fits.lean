/-! CALLS: fits, least -/
theorem wds_mem {R : Rl} {g : Nat} {st gd : WW → Bool} : ∀ (k : Nat) (W : WW) (p w : List Nat), (∀ x ∈ p, x < 15) → w ∈ wds R g st gd k W p → ∀ x ∈ w, x < 15
  | 0, W, p, w, hp, h => by
    have h : w ∈ (if gd W then [p] else []) := h
    split at h
    · rw [List.mem_singleton.mp h]; exact hp
    · exact absurd h List.not_mem_nil
  | k + 1, W, p, w, hp, h => by
    refine fl_all (Q := fun w => ∀ x ∈ w, x < 15) (fun x hx w hw => ?_) 15 w h
    split at hw
    · refine wds_mem k _ _ w (fun y hy => ?_) hw
      rcases List.mem_append.mp hy with q | q
      · exact hp y q
      · rw [List.mem_singleton.mp q]; exact hx
    · exact absurd hw List.not_mem_nil
theorem msk_lt {w : List Nat} (h : ∀ x ∈ w, x < 15) : msk w < 2 ^ 15 := by
  have key : ∀ (w : List Nat) (v : Nat), (∀ x ∈ w, x < 15) → v < 2 ^ 15 → w.foldl (fun v x => v ||| 2 ^ x) v < 2 ^ 15 := by
    intro w
    induction w with
    | nil => intro v _ hv; exact hv
    | cons x w ih =>
      intro v h hv
      exact ih _ (fun y hy => h y (List.mem_cons_of_mem _ hy)) (Nat.or_lt_two_pow hv (Nat.pow_lt_pow_right (by decide) (h x List.mem_cons_self)))
  exact key w 0 h (by decide)
def ac3 (a : Ac) : Int32 × Int32 × Int32 := (nI a.1, nI a.2.1, nI a.2.2.1)
theorem addC_pos : ∀ (l : List (List Nat)) (a : Ac), 0 < a.1 → l.foldl addC (ac3 a) = ac3 (pall false a l)
  | [], a, _ => rfl
  | w :: l, a, h => by
    have e : push false a w = (a.1 + 1, a.2.1 &&& msk w, a.2.2.1 ||| msk w, a.2.2.2) := by
      unfold push
      rw [if_neg (by simp), if_neg (by omega), if_neg (by omega)]
    have e2 : addC (ac3 a) w = ac3 (push false a w) := by
      rw [e]
      show (nI a.1 + 1, nI a.2.1 &&& nI (msk w), nI a.2.2.1 ||| nI (msk w)) = (nI (a.1 + 1), nI (a.2.1 &&& msk w), nI (a.2.2.1 ||| msk w))
      rw [nI_1, i_and, i_or]
    show l.foldl addC (addC (ac3 a) w) = ac3 (pall false (push false a w) l)
    rw [e2]
    exact addC_pos l _ (by rw [e]; exact Nat.succ_pos _)
theorem addC_all {w : List Nat} {l : List (List Nat)} (h : ∀ x ∈ w, x < 15) : (w :: l).foldl addC (0, 32767, 0) = ac3 (pall false a0 (w :: l)) := by
  have e2 : addC (0, 32767, 0) w = ac3 (push false a0 w) := by
    show ((0 : Int32) + 1, (32767 : Int32) &&& nI (msk w), (0 : Int32) ||| nI (msk w)) = (nI (0 + 1), nI (msk w), nI (0 ||| msk w))
    rw [show (32767 : Int32) = nI 32767 from rfl, i_and, show (0 : Int32) = nI 0 from rfl, i_or, nI_1, Nat.and_comm, Nat.and_two_pow_sub_one_of_lt_two_pow (n := 15) (msk_lt h)]
  show l.foldl addC (addC (0, 32767, 0) w) = ac3 (pall false (push false a0 w) l)
  rw [e2]
  exact addC_pos l _ Nat.one_pos
theorem LL_T (S : Ab) (N : Nat) : LL S (amU S) stT N = wds S.R S.A.gl stT (gdA (amU S)) N S.A.W [] := rfl
theorem LL_cnt {S : Ab} {N : Nat} (hN : N ≤ 4) : (LL S (amU S) stT N).length ≤ 50625 := by
  have h := wds_cnt (R := S.R) (g := S.A.gl) (st := stT) (gd := gdA (amU S)) N S.A.W []
  have h2 : 15 ^ N ≤ 15 ^ 4 := Nat.pow_le_pow_right (by decide) hN
  rw [LL_T]
  exact Nat.le_trans h h2
theorem x_count {S : Ab} (hS : Ok S) {M : Mem} (hM : XA M S) (h8 : M.1 26 8 = nI (prs S.R.1)) (hr : rowsAt M 30 S.A.W) {N : Nat} (hN : N ≤ 4) : ∃ M', X_Search_countFits fuel (nI N) M = some ((), M') ∧ XA M' S ∧ M'.1 26 8 = nI (prs S.R.1) ∧ rowsAt M' 30 S.A.W ∧ M'.1 26 2 = nI (LL S (amU S) stT N).length ∧ (LL S (amU S) stT N ≠ [] → F3 M' (ac3 (pall false a0 (LL S (amU S) stT N)))) := by
  have f0 : Xf 0 M (si (si (si M 26 2 0) 26 3 32767) 26 4 0) := ((Xf.acc (by decide)).trans (Xf.acc (by decide))).trans (Xf.acc (by decide))
  have hK : Ks S (fun k => M.1 26 k) M := ⟨hM, h8, fun _ _ _ => rfl⟩
  obtain ⟨M', a1, a2, a3⟩ := x_fit fuel (by decide) hS N 12 0 _ S.A.W [] (0, 32767, 0) (by omega) (by omega) (hK.fr f0) hS.hA.1 hS.hA.2.1 (rows_fr hr f0) ⟨rfl, rfl, rfl⟩
  rw [Nat.zero_add] at a1
  have hK' := (hK.fr f0).fr a2
  refine ⟨M', ?_, hK'.1, hK'.2.1, rows_fr (d := 0) (rows_fr (d := 0) hr f0) a2, ?_, fun hne => ?_⟩
  · unfold X_Search_countFits
    simp only [nm]
    rw [show X_Search_fit fuel 12 0 (nI N) 0 (si (si (si M 26 2 0) 26 3 32767) 26 4 0) = _ from a1, bd_ret]
  · rw [a3.1]
    rw [← LL_T]
    have h15 := wds_mem (R := S.R) (g := S.A.gl) (st := stT) (gd := gdA (amU S)) N S.A.W []
    cases eL : LL S (amU S) stT N with
    | nil => rfl
    | cons w l =>
      rw [addC_all (h15 w (fun x hx => absurd hx List.not_mem_nil) (by rw [← LL_T, eL]; exact List.mem_cons_self))]
      show nI (pall false a0 (w :: l)).1 = _
      rw [pall_cnt]
      show nI (0 + _) = _
      rw [Nat.zero_add]
  · rw [← LL_T] at a3
    have h15 := wds_mem (R := S.R) (g := S.A.gl) (st := stT) (gd := gdA (amU S)) N S.A.W []
    cases eL : LL S (amU S) stT N with
    | nil => exact absurd eL hne
    | cons w l =>
      rw [eL, addC_all (h15 w (fun x hx => absurd hx List.not_mem_nil) (by rw [← LL_T, eL]; exact List.mem_cons_self))] at a3
      exact a3
theorem m_in_n (n : Nat) {x lo hi : Int32} (h : ¬ (lo ≤ x ∧ x ≤ hi)) (M : Mem) : X_Model_in n x.toInt64 lo.toInt64 hi.toInt64 M = some (0, M) := by rw [m_in, if_neg h]
theorem m_in_y (n : Nat) {x lo hi : Int32} (h : lo ≤ x ∧ x ≤ hi) (M : Mem) : X_Model_in n x.toInt64 lo.toInt64 hi.toInt64 M = some (1, M) := by rw [m_in, if_pos h]
theorem sim_fits (a0' a1' : Int32) : Sm (fun M => X_ShakeHands_fits fuel a0' a1' M) (fun M => X_Model_fits fuel a0' a1' M) := by
  intro Mx Mm hR
  have hR0 := hR
  obtain ⟨S, hS, hx, hm⟩ := hR
  show ∃ r Mx2 Mm2, X_ShakeHands_fits fuel a0' a1' Mx = some (r, Mx2) ∧ X_Model_fits fuel a0' a1' Mm = some (r, Mm2) ∧ Rel Mx2 Mm2
  unfold X_ShakeHands_fits X_Model_fits
  rcases i_cases a0' with q | ⟨N, hN, rfl⟩
  · rw [if_pos q, show X_Model_in fuel a0'.toInt64 0 4 Mm = _ from m_in_n fuel (lo := 0) (hi := 4) (fun r => absurd r.1 (Int32.not_le.mpr q)) Mm, bd_ret, if_pos rfl]
    exact ⟨_, _, _, rfl, rfl, hR0⟩
  · rw [if_neg (nI_pos hN)]
    by_cases hN4 : 4 < N
    · rw [if_pos (show (4 : Int32) < nI N from nI_lt (a := 4) hN4 hN), show X_Model_in fuel (nI N).toInt64 0 4 Mm = _ from m_in_n fuel (lo := 0) (hi := 4) (fun r => absurd r.2 (Int32.not_le.mpr (nI_lt (a := 4) hN4 hN))) Mm, bd_ret, if_pos rfl]
      exact ⟨_, _, _, rfl, rfl, hR0⟩
    · have hN4 : N ≤ 4 := by omega
      have hl4 : nI N ≤ 4 := nI_le (b := 4) hN4 (by decide)
      rw [if_neg (Int32.not_lt.mpr hl4), show X_Model_in fuel (nI N).toInt64 0 4 Mm = _ from m_in_y fuel (lo := 0) (hi := 4) ⟨Int32.not_lt.mp (nI_pos hN), hl4⟩ Mm, bd_ret, if_neg i10]
      rcases i_cases a1' with q | ⟨K, hK, rfl⟩
      · rw [if_pos q, show X_Model_in fuel a1'.toInt64 0 2 Mm = _ from m_in_n fuel (lo := 0) (hi := 2) (fun r => absurd r.1 (Int32.not_le.mpr q)) Mm, bd_ret, if_pos rfl]
        exact ⟨_, _, _, rfl, rfl, hR0⟩
      · rw [if_neg (nI_pos hK)]
        by_cases hK2 : 2 < K
        · rw [if_neg (show ¬ nI K ≤ (2 : Int32) from nI_ge (a := 2) hK2 hK), show X_Model_in fuel (nI K).toInt64 0 2 Mm = _ from m_in_n fuel (lo := 0) (hi := 2) (fun r => absurd r.2 (nI_ge (a := 2) hK2 hK)) Mm, bd_ret, if_pos rfl]
          exact ⟨_, _, _, rfl, rfl, hR0⟩
        · have hK2 : K ≤ 2 := by omega
          have hl2 : nI K ≤ 2 := nI_le (b := 2) hK2 (by decide)
          obtain ⟨M9, c1, c2, c3, c4⟩ := x_begin hS hx
          have hM9 : XA M9 S := hx.off (c2.mono (fun a ha => xQ_S (xQ_of (by simp at ha; omega))))
          obtain ⟨M4, d1, d2, d3, d4, d5, d6⟩ := x_count hS hM9 c3 c4 hN4
          obtain ⟨M2, g1, g2, g3⟩ := m_asks fuel 2 0 0 0 hS hm
          obtain ⟨M3, a, k1, k2, k3, k4, k5⟩ := m_layRows fuel (by decide) hS (gd_k2 fuel (by decide) hS) (st_k2 fuel) (N := N) hN4 (p2 := 0) (stp := false) (by decide) g2 g3
          rw [show LL S (fun W => ulN S.A.sn S.A.sg W S.R.1) stT N = LL S (amU S) stT N from rfl] at k2
          have hRel : Rel M4 M3 := ⟨S, hS, d2, k4⟩
          have hcnt := LL_cnt (S := S) hN4
          have ec : a.1 = (LL S (amU S) stT N).length := by
            rw [k2, pall_cnt]
            exact Nat.zero_add _
          rw [if_pos hl2, show X_Model_in fuel (nI K).toInt64 0 2 Mm = _ from m_in_y fuel (lo := 0) (hi := 2) ⟨Int32.not_lt.mp (nI_pos hK), hl2⟩ Mm, bd_ret, if_neg i10, c1, bd_ret, d1, bd_ret, g1, bd_ret, k1, bd_ret, d5, ec]
          by_cases e0 : K = 0
          · rw [e0, if_pos (show nI 0 = 0 from rfl), if_pos (show nI 0 = 0 from rfl)]
            exact ⟨_, _, _, rfl, rfl, hRel⟩
          · have e0' : ¬ nI K = 0 := fun q => e0 ((i_z hK).mp q)
            rw [if_neg e0', if_neg e0']
            by_cases eL : LL S (amU S) stT N = []
            · rw [eL, if_pos (show nI (List.length ([] : List (List Nat))) = 0 from rfl), if_pos (show nI (List.length ([] : List (List Nat))) = 0 from rfl)]
              exact ⟨_, _, _, rfl, rfl, hRel⟩
            · have e1 : ¬ nI (LL S (amU S) stT N).length = 0 := fun q => eL (List.length_eq_zero_iff.mp ((i_z (by omega)).mp q))
              obtain ⟨t1, t2, t3⟩ := d6 eL
              rw [← k2] at t2 t3
              rw [if_neg e1, if_neg e1, t2, t3, k3.2.1, k3.2.2.1]
              by_cases e2 : nI K = 1
              · rw [if_pos e2, if_pos e2]
                exact ⟨_, _, _, rfl, rfl, hRel⟩
              · rw [if_neg e2, if_neg e2]
                exact ⟨_, _, _, rfl, rfl, hRel⟩
theorem sim_least : Sm (fun M => X_ShakeHands_least fuel M) (fun M => X_Model_least fuel M) := by
  intro Mx Mm hR
  obtain ⟨S, hS, hx, hm⟩ := hR
  show ∃ r Mx2 Mm2, X_ShakeHands_least fuel Mx = some (r, Mx2) ∧ X_Model_least fuel Mm = some (r, Mm2) ∧ Rel Mx2 Mm2
  have key : ∀ e N f M, N + e = 5 → e < f → XA M S → M.1 26 8 = nI (prs S.R.1) → rowsAt M 30 S.A.W → (∀ j, j < N → LL S (amU S) stT j = []) → ∃ r M', X_ShakeHands_least_L9 fuel f (nI N) M = some (r, M') ∧ XA M' S ∧ ((∃ N, N ≤ 4 ∧ (∀ j, j < N → LL S (amU S) stT j = []) ∧ LL S (amU S) stT N ≠ [] ∧ r = nI N) ∨ ((∀ j, j ≤ 4 → LL S (amU S) stT j = []) ∧ r = -4)) := by
    intro e
    induction e with
    | zero =>
      intro N f M h1 h2 hM h8 hr hl
      obtain ⟨f, rfl⟩ : ∃ q, f = q + 1 := ⟨f - 1, by omega⟩
      refine ⟨-4, M, ?_, hM, Or.inr ⟨fun j hj => hl j (by omega), rfl⟩⟩
      show (if (4 : Int32) < nI N then _ else _) = _
      rw [if_pos (show (4 : Int32) < nI N from nI_lt (a := 4) (by omega) (by omega))]
    | succ e ih =>
      intro N f M h1 h2 hM h8 hr hl
      obtain ⟨f, rfl⟩ : ∃ q, f = q + 1 := ⟨f - 1, by omega⟩
      obtain ⟨M4, d1, d2, d3, d4, d5, d6⟩ := x_count hS hM h8 hr (N := N) (by omega)
      have hcnt := LL_cnt (S := S) (N := N) (by omega)
      have un : X_ShakeHands_least_L9 fuel (f + 1) (nI N) M = if nI (LL S (amU S) stT N).length ≤ 0 then X_ShakeHands_least_L9 fuel f (nI (N + 1)) M4 else some (nI N, M4) := by
        show (if (4 : Int32) < nI N then _ else bd (X_Search_countFits fuel (nI N) M) fun _ M4 => (if (M4.1 26 2) ≤ 0 then X_ShakeHands_least_L9 fuel f (nI N + 1) M4 else some (nI N, M4))) = _
        rw [if_neg (show ¬ (4 : Int32) < nI N from Int32.not_lt.mpr (nI_le (b := 4) (by omega) (by decide))), d1, bd_ret, d5, nI_1]
      rw [un]
      by_cases eL : LL S (amU S) stT N = []
      · rw [eL, if_pos (show nI (List.length ([] : List (List Nat))) ≤ 0 by decide)]
        exact ih (N + 1) f M4 (by omega) (by omega) d2 d3 d4 (fun j hj => by
          by_cases q : j = N
          · rw [q]; exact eL
          · exact hl j (by omega))
      · have : 0 < (LL S (amU S) stT N).length := List.length_pos_iff.mpr eL
        rw [if_neg (show ¬ nI (LL S (amU S) stT N).length ≤ 0 from nI_ge (a := 0) this (by omega))]
        exact ⟨nI N, M4, rfl, d2, Or.inl ⟨N, by omega, hl, eL, rfl⟩⟩
  obtain ⟨M9, c1, c2, c3, c4⟩ := x_begin hS hx
  have hM9 : XA M9 S := hx.off (c2.mono (fun a ha => xQ_S (xQ_of (by simp at ha; omega))))
  obtain ⟨r, M', d1, d2, d3⟩ := key 5 0 fuel M9 rfl (by decide) hM9 c3 c4 (fun j hj => absurd hj (Nat.not_lt_zero j))
  obtain ⟨M4, g1, g2, g3⟩ := m_asks fuel 2 0 0 0 hS hm
  obtain ⟨r', M6, k1, k2, k3⟩ := m_fewestHands fuel (by decide) hS (gd_k2 fuel (by decide) hS) (st_k2 fuel) g2 g3
  have k3 : FwR S (amU S) stT 18 r' M6 := k3
  have hRel : Rel M' M6 := ⟨S, hS, d2, k2⟩
  have er : r = r' := by
    rcases d3 with ⟨N, h1, h2, h3, h4⟩ | ⟨h1, h2⟩
    · rcases k3 with ⟨N', w', l', g1, g2, g3, g4, g5⟩ | ⟨g1, g2⟩
      · have e : N = N' := by
          rcases Nat.lt_trichotomy N N' with q | q | q
          · exact absurd (g2 N q) h3
          · exact q
          · rw [h2 N' q] at g3; exact absurd g3 (by simp)
        rw [h4, g4, e]
      · exact absurd (g1 N h1) h3
    · rcases k3 with ⟨N', w', l', g1, g2, g3, g4, g5⟩ | ⟨g1, g2⟩
      · rw [h1 N' g1] at g3
        exact absurd g3 (by simp)
      · rw [h2, g2]
  subst er
  refine ⟨r, M', M6, ?_, ?_, hRel⟩
  · unfold X_ShakeHands_least
    rw [c1, bd_ret]
    exact d1
  · unfold X_Model_least
    rw [g1, bd_ret, k1, bd_ret]
