/-! SEARCH: the class's basics -/
theorem lv_id {d : Nat} (h : d < 7) : ([30, 31, 32, 33, 34, 35, 36] : List Nat).getD d 0 = 30 + d := by
  match d, h with
  | 0, _ => rfl
  | 1, _ => rfl
  | 2, _ => rfl
  | 3, _ => rfl
  | 4, _ => rfl
  | 5, _ => rfl
  | 6, _ => rfl
theorem v07 : vp_in (0 : Int32) 7 := vp_in_nI (n := 0) (by decide) (by decide)
theorem v17 : vp_in ((0 : Int32) + 1) 7 := vp_in_nI (n := 1) (by decide) (by decide)
def prs (P : Nat) : Nat := P * (P - 1) / 2
theorem prs_i : ∀ P, P < 7 → 2 ≤ P → (nI P * (nI P - 1)) / 2 = nI (prs P) ∧ prs P ≤ 15 := by decide +kernel
theorem prs_gre : ∀ P, P < 7 → ∀ h, h < 15 → (h < prs P ↔ gre h < P) := by decide +kernel
theorem x_begin {M : Mem} {S : Ab} (hS : Ok S) (hM : XA M S) : ∃ M', X_Search_begin fuel M = some ((), M') ∧ Off [26, 30] M M' ∧ M'.1 26 8 = nI (prs S.R.1) ∧ rowsAt M' 30 S.A.W := by
  have h6 := hS.p6
  have e := (prs_i S.R.1 (by omega) hS.hR.1).1
  have un : X_Search_begin fuel M = some ((), cpL (si M 26 8 (nI (prs S.R.1))) 17 0 30 0 6) := by
    unfold X_Search_begin gc
    rw [if_neg (by decide), gd_in v07, nm, hM.c.1, e, if_neg (by decide)]
    rfl
  refine ⟨_, un, (Off.si (by simp)).trans (Off.cpL (by simp)), by rw [(cpL_off (M := si M 26 8 (nI (prs S.R.1))) (a := 17) (sp := 0) (b := 30) (dp := 0) (n := 6) (j := 26) (by decide)).1]; exact si_at _ _ _ _, fun p hp => ?_⟩
  show (if 30 = 30 ∧ 0 ≤ p ∧ p < 0 + 6 then M.2 17 (0 + (p - 0)) else _) = _
  rw [if_pos ⟨rfl, by omega, by omega⟩, Nat.zero_add, Nat.sub_zero]
  exact hM.a.2.2.1 p hp
theorem x_bitsOf (n : Nat) {h : Nat} (hh : h < 15) (M : Mem) : X_Search_bitsOf n (nI h) M = some (nI (2 ^ les h ||| 2 ^ gre h), M) := by
  obtain ⟨p1, p2, p3, p4, -⟩ := les_gre h hh
  unfold X_Search_bitsOf
  rw [if_neg (nI_pos (by omega)), if_pos (show nI h < 15 from nI_lt (b := 15) hh (by decide)), gd_in (vp_in_nI hh (by decide)), gd_in (vp_in_nI hh (by decide)), nI_clamp (by omega), p3, p4, i_shl1 (by omega), i_shl1 (by omega), i_or]
theorem x_canMend (n : Nat) {w t k : Nat} (hw : w < 64) (ht : t < 64) (hk : k < 100) (M : Mem) : X_Search_canMend n (nI w) (nI t) (nI k) M = some (if popN 16 (w &&& (t ^^^ (2 ^ 32 - 1))) ≤ 2 * k then 1 else 0, M) := by
  unfold X_Search_canMend
  have hlt : w &&& (t ^^^ (2 ^ 32 - 1)) < 65536 := Nat.lt_of_le_of_lt Nat.and_le_left (by omega)
  have hp := popN_le (w &&& (t ^^^ (2 ^ 32 - 1))) 16
  rw [i_com w (by omega), bitCount_eq _ hlt, bd_ret, show (2 : Int32) = nI 2 from rfl, pk_mul]
  by_cases e : popN 16 (w &&& (t ^^^ (2 ^ 32 - 1))) ≤ 2 * k
  · rw [if_neg (Int32.not_lt.mpr (nI_le e (by omega))), if_pos e]
  · rw [if_pos (nI_lt (by omega) (by omega)), if_neg e]
theorem x_step (n : Nat) (hn : 20 ≤ n) {M : Mem} {S : Ab} (hS : Ok S) (hM : XA M S) {d x : Nat} (hd : d < 6) (hx : x < 15) {W : Nat → List Nat} (hW : OkW W) (hr : rowsAt M (30 + d) W) : ∃ r M', X_Search_step n (nI d) (nI x) M = some (r, M') ∧ Off [15, 31 + d] M M' ∧ rowsAt M' (31 + d) (handF S.R S.A.gl x W) ∧ ((r = 0 ∧ ∀ p, p < 6 → handF S.R S.A.gl x W p = W p) ∨ (r = 1 ∧ ∃ p, p < 6 ∧ handF S.R S.A.gl x W p ≠ W p)) := by
  have hg := hS.gl
  generalize hN : cpL M (30 + d) 0 (31 + d) 0 6 = N
  have f1 : Off [31 + d] M N := by rw [← hN]; exact Off.cpL (by simp)
  have rN : rowsAt N (31 + d) W := fun p hp => by
    rw [← hN]
    show (if 31 + d = 31 + d ∧ 0 ≤ p ∧ p < 0 + 6 then M.2 (30 + d) (0 + (p - 0)) else _) = _
    rw [if_pos ⟨rfl, by omega, by omega⟩, Nat.zero_add, Nat.sub_zero]
    exact hr p hp
  have cN : XC N S.R := hM.c.off f1 (by simp; omega)
  have gN : N.1 16 1 = nI S.A.gl := by rw [(f1 16 (by simp; omega)).1]; exact hM.a.1
  obtain ⟨r, M', g1, g2, g3, g4⟩ := circ_meet n (by omega) hS.hR cN (rows := 31 + d) (by omega) hW rN (show S.A.gl < 2 ^ 31 by omega) hx
  refine ⟨r, M', ?_, (f1.mono (by simp)).trans g2, g3, g4⟩
  unfold X_Search_step gc
  rw [if_neg (nI_pos (by omega)), if_pos (show nI d < 6 from nI_lt (b := 6) hd (by decide)), nI_1, gd_in (vp_in_nI (by omega) (by decide)), gd_in (vp_in_nI (by omega) (by decide)), if_neg (by decide), gd_in (vp_in_nI (by omega) (by decide)), nI_clamp (by omega), nI_clamp (by omega), lv_id (by omega), lv_id (by omega)]
  unfold nm
  dsimp only
  have hN' : cpL M (30 + d) ((0 : Int32).toNatClampNeg) (30 + (d + 1)) ((0 : Int32).toNatClampNeg) ((6 : Int32).toNatClampNeg) = N := by rw [show 30 + (d + 1) = 31 + d by omega]; exact hN
  rw [hN', gN, show 30 + (d + 1) = 31 + d by omega, g1, bd_ret]
  rcases g4 with ⟨e, -⟩ | ⟨e, -⟩ <;> rw [e] <;> rfl
theorem x_step0 (n : Nat) {M : Mem} {S : Ab} {W : Nat → List Nat} (hr : rowsAt M 30 W) : ∃ M', X_Search_step n 0 (-1) M = some (0, M') ∧ Off [31] M M' ∧ rowsAt M' 31 W := by
  refine ⟨cpL M 30 0 31 0 6, ?_, Off.cpL (by simp), fun p hp => ?_⟩
  · unfold X_Search_step gc
    rw [if_neg (by decide), if_pos (by decide), gd_in v07, gd_in v17, if_neg (by decide), gd_in v17]
    rfl
  · show (if 31 = 31 ∧ 0 ≤ p ∧ p < 0 + 6 then M.2 30 (0 + (p - 0)) else _) = _
    rw [if_pos ⟨rfl, by omega, by omega⟩, Nat.zero_add, Nat.sub_zero]
    exact hr p hp
-- the aim
