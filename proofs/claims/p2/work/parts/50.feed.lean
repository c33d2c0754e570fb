/-! CALLS: feed -/
theorem l_self (v : Int64) : v = lN v.toBitVec.toNat := i64_ext (by rw [lN_tb, BitVec.ofNat_toNat, BitVec.setWidth_eq])
def byN (V i : Nat) : Nat := V / 2 ^ (56 - 8 * i) % 256
theorem by_x {V i : Nat} (hV : V < 2 ^ 64) (hi : i < 8) : vp_nar .byte ((((((lN V).toUInt64 >>> (((56 : Int32) - ((8 : Int32) * nI i)).toInt64.toUInt64 &&& Int64.toUInt64 63)).toInt64) : Int64).toInt32 : Int32).toInt8.toInt32) = sB (byN V i) := by
  rw [show (56 : Int32) = nI 56 from rfl, show (8 : Int32) = nI 8 from rfl, pk_mul, pk_sub (by omega), l_ushr hV (by omega), l_to]
  have e : (nI (V / 2 ^ (56 - 8 * i))).toInt8 = (nI (byN V i)).toInt8 := by
    apply Int8.toBitVec_inj.mp
    apply BitVec.eq_of_toNat_eq
    show ((nI (V / 2 ^ (56 - 8 * i))).toBitVec.signExtend 8).toNat = ((nI (byN V i)).toBitVec.signExtend 8).toNat
    rw [BitVec.signExtend_eq_setWidth_of_le _ (by decide), BitVec.signExtend_eq_setWidth_of_le _ (by decide), BitVec.toNat_setWidth, BitVec.toNat_setWidth, nI_bv, nI_bv, BitVec.toNat_ofNat, BitVec.toNat_ofNat]
    unfold byN
    omega
  rw [e]
  unfold sB
  generalize (nI (byN V i)).toInt8 = b
  show (b.toInt32).toInt8.toInt32 = b.toInt32
  rw [Int8.toInt8_toInt32]
theorem by_m {V k : Nat} (hV : V < 2 ^ 64) (hk : k ≤ 56) : ((((lN V >>> ((nI k).toInt64 &&& 63)) &&& 255) : Int64).toInt32) = nI (V / 2 ^ k % 256) := by
  have e : (lN V >>> ((nI k).toInt64 &&& 63)) &&& 255 = lN (V / 2 ^ k % 256) := i64_ext (by
    show (lN V).toBitVec.sshiftRight' (((nI k).toInt64 &&& 63).toBitVec.smod 64) &&& (255 : Int64).toBitVec = (lN (V / 2 ^ k % 256)).toBitVec
    rw [cnt_l k (by omega), BitVec.sshiftRight', lN_tb, lN_tb, BitVec.toNat_ofNat, Nat.mod_eq_of_lt (show k < 2 ^ 64 by omega)]
    apply BitVec.eq_of_getLsbD_eq
    intro j hj
    have e255 : (255 : Int64).toBitVec.getLsbD j = decide (j < 8) := by
      have : ∀ j, j < 64 → (255 : Int64).toBitVec.getLsbD j = decide (j < 8) := by decide
      exact this j hj
    rw [BitVec.getLsbD_and, e255, BitVec.getLsbD_ofNat, show (256 : Nat) = 2 ^ 8 from rfl, Nat.testBit_mod_two_pow]
    by_cases h8 : j < 8
    · rw [BitVec.getLsbD_sshiftRight, BitVec.getLsbD_ofNat, Nat.testBit_div_two_pow]
      have h1 : k + j < 64 := by omega
      have h2 : ¬ 64 ≤ j := by omega
      simp [h8, h1, h2, hj, Nat.add_comm]
    · simp [h8])
  rw [e, l_to]
def fdB (V : Nat) : Nat → List Nat
  | 0 => []
  | d + 1 => byN V (8 - (d + 1)) :: fdB V d
theorem fdB_len (V : Nat) : ∀ d, (fdB V d).length = d
  | 0 => rfl
  | d + 1 => by show (fdB V d).length + 1 = d + 1; rw [fdB_len V d]
theorem fdB_lt (V : Nat) : ∀ d, ∀ x ∈ fdB V d, x < 256
  | 0, x, h => by simp [fdB] at h
  | d + 1, x, h => by
    rcases List.mem_cons.mp h with h | h
    · rw [h]; exact Nat.mod_lt _ (by decide)
    · exact fdB_lt V d x h
theorem fdB_get (V : Nat) : ∀ d j x, d ≤ 8 → (fdB V d)[j]? = some x → x = byN V (8 - d + j)
  | 0, j, x, _, h => by simp [fdB] at h
  | d + 1, j, x, hd, h => by
    cases j with
    | zero =>
      have : byN V (8 - (d + 1)) = x := by simpa [fdB] using h
      exact this.symm
    | succ j =>
      have h' : (fdB V d)[j]? = some x := by simpa [fdB] using h
      rw [fdB_get V d j x (by omega) h']
      congr 1
      omega
def fedU (v : Int64) (S : Ab) : Int32 × Ab := if S.tp.length + 8 ≤ 320 then (nI (S.tp.length + 8), (S.R, S.A, S.I, S.kp, S.tp ++ fdB v.toBitVec.toNat 8, S.ft, S.tn, S.sh, S.ce)) else (-3, S)
theorem sim_feed (a0 : Int64) : Sm (fun M => X_ShakeHands_feed fuel a0 M) (fun M => X_Model_feed fuel a0 M) := by
  obtain ⟨V, hV, rfl⟩ : ∃ V, V < 2 ^ 64 ∧ a0 = lN V := ⟨a0.toBitVec.toNat, a0.toBitVec.isLt, l_self a0⟩
  have hVV : (lN V).toBitVec.toNat = V := by rw [lN_tb, BitVec.toNat_ofNat, Nat.mod_eq_of_lt hV]
  refine Sm_u (u := fedU (lN V)) (fun M S hS hM => ?_) (fun M S hS hM => ?_) (fun S hS => ?_)
  · have ht := hS.ht
    unfold X_ShakeHands_feed X_Tape_append fedU
    rw [hM.tl, hVV]
    by_cases h : S.tp.length + 8 ≤ 320
    · rw [if_pos h, if_pos (show nI S.tp.length ≤ 312 from nI_le (b := 312) (by omega) (by decide))]
      have key : ∀ (d i g : Nat) (N : Mem), 8 - i = d → i ≤ 8 → d < g → Off [2] M N → (∀ j x, S.tp[j]? = some x → N.1 2 j = sB x) → (∀ j, j < i → N.1 2 (S.tp.length + j) = sB (byN V j)) → ∃ M', X_Tape_append_L14 fuel (lN V) (fun M1 => some (1, si M1 1 1 ((M1.1 1 1) + 8))) g (nI i) N = some (1, si M' 1 1 ((M'.1 1 1) + 8)) ∧ Off [2] M M' ∧ (∀ j x, S.tp[j]? = some x → M'.1 2 j = sB x) ∧ (∀ j, j < 8 → M'.1 2 (S.tp.length + j) = sB (byN V j)) := by
        intro d
        induction d with
        | zero =>
          intro i g N h1 h2 h3 h4 h5 h6
          obtain ⟨g, rfl⟩ : ∃ e, g = e + 1 := ⟨g - 1, by omega⟩
          have e : i = 8 := by omega
          subst e
          refine ⟨N, ?_, h4, h5, h6⟩
          show (if (8 : Int32) ≤ nI 8 then _ else _) = _
          rw [if_pos (by decide)]
        | succ d ih =>
          intro i g N h1 h2 h3 h4 h5 h6
          obtain ⟨g, rfl⟩ : ∃ e, g = e + 1 := ⟨g - 1, by omega⟩
          have hi : i < 8 := by omega
          have el : N.1 1 1 = nI S.tp.length := by rw [(h4 1 (by decide)).1]; exact hM.tl
          obtain ⟨M', q1, q2, q3, q4⟩ := ih (i + 1) g (si N 2 (S.tp.length + i) (sB (byN V i))) (by omega) (by omega) (by omega) (h4.trans (Off.si (by simp))) (fun j x hx => by
            have := (List.getElem?_eq_some_iff.mp hx).1
            rw [si_ne (Or.inr (by omega))]
            exact h5 j x hx) (fun j hj => by
            by_cases e : j = i
            · rw [e, si_at]
            · rw [si_ne (Or.inr (by omega))]; exact h6 j (by omega))
          refine ⟨M', ?_, q2, q3, q4⟩
          show (if (8 : Int32) ≤ nI i then _ else gd ((N.1 1 1) + nI i) 320 (X_Tape_append_L14 fuel (lN V) (fun M1 => some (1, si M1 1 1 ((M1.1 1 1) + 8))) g (nI i + 1) (si N 2 (((N.1 1 1) + nI i).toNatClampNeg) (vp_nar .byte ((((((lN V).toUInt64 >>> (((56 : Int32) - ((8 : Int32) * nI i)).toInt64.toUInt64 &&& Int64.toUInt64 63)).toInt64) : Int64).toInt32) : Int32).toInt8.toInt32)))) = _
          rw [if_neg (show ¬ (8 : Int32) ≤ nI i from nI_ge (b := 8) hi (by decide)), el, nI_add, gd_in (vp_in_nI (by omega) (by decide)), nI_clamp (by omega), by_x hV hi, nI_1]
          exact q1
      obtain ⟨M', q1, q2, q3, q4⟩ := key 8 0 fuel M rfl (by decide) (by decide) Off.rf hM.tb (fun j hj => by omega)
      have el : M'.1 1 1 = nI S.tp.length := by rw [(q2 1 (by decide)).1]; exact hM.tl
      have hf : Off [2, 1] M (si M' 1 1 (nI (S.tp.length + 8))) := (q2.mono (by simp)).trans (Off.si (by simp))
      have q1' : X_Tape_append_L14 fuel (lN V) (fun M1 => some (1, si M1 1 1 ((M1.1 1 1) + 8))) fuel 0 M = some (1, si M' 1 1 ((M'.1 1 1) + 8)) := q1
      rw [q1', bd_ret, if_neg i10, el, show (8 : Int32) = nI 8 from rfl, nI_add, si_at]
      refine ⟨_, rfl, hM.c.off hf (by decide), hM.a.off hf (by decide) (by decide) (by decide), fun j hj hb => (hM.i j hj hb).off hf (fun q => by simp only [List.mem_cons, List.not_mem_nil, or_false] at q; omega) (fun q => by simp only [List.mem_cons, List.not_mem_nil, or_false] at q; omega) (fun q => by simp only [List.mem_cons, List.not_mem_nil, or_false] at q; omega), ?_, ?_, ?_, fun i x hx => ?_, ?_, fun j hj => (hM.sh j hj).off hf (fun q => by simp only [List.mem_cons, List.not_mem_nil, or_false] at q; omega) (fun q => by simp only [List.mem_cons, List.not_mem_nil, or_false] at q; omega)⟩
      · rw [(hf 0 (by decide)).1]; exact hM.kp
      · rw [(hf 0 (by decide)).1]; exact hM.tn
      · rw [si_at]
        show _ = nI (S.tp ++ fdB V 8).length
        rw [List.length_append, fdB_len]
      · rw [si_ne (Or.inl (by decide))]
        have hx' : (S.tp ++ fdB V 8)[i]? = some x := hx
        by_cases e : i < S.tp.length
        · rw [List.getElem?_append_left e] at hx'
          exact q3 i x hx'
        · rw [List.getElem?_append_right (by omega)] at hx'
          have := (List.getElem?_eq_some_iff.mp hx').1
          rw [fdB_len] at this
          have h9 := fdB_get V 8 _ x (by decide) hx'
          have h10 := q4 (i - S.tp.length) this
          rw [show S.tp.length + (i - S.tp.length) = i by omega] at h10
          rw [h10, h9]
          congr 2
          omega
      · rw [(hf 3 (by decide)).1]; exact hM.ft
    · rw [if_neg h, if_neg (show ¬ nI S.tp.length ≤ 312 from nI_ge (a := 312) (by omega) (by omega)), bd_ret, if_pos rfl]
      exact ⟨M, rfl, hM⟩
  · have ht := hS.ht
    unfold X_Model_feed fedU
    rw [hM.tl, hVV, show (8 : Int32) = nI 8 from rfl, nI_add]
    by_cases h : S.tp.length + 8 ≤ 320
    · rw [if_pos h, if_pos (show nI (S.tp.length + 8) ≤ 320 from nI_le (b := 320) (by omega) (by decide))]
      have key : ∀ (d i g : Nat) (N : Mem) (v : Int32), 8 - i = d → i ≤ 8 → d < g → (i < 8 → v = nI (56 - 8 * i)) → (i = 8 → v < 0) → Fr (fun a j => a = 14 ∨ (a = 0 ∧ j = 26)) M N → N.1 0 26 = nI (S.tp.length + i) → (∀ j x, S.tp[j]? = some x → N.1 14 j = nI x) → (∀ j, j < i → N.1 14 (S.tp.length + j) = nI (byN V j)) → ∃ M', X_Model_feed_L19 fuel (lN V) g v N = some (nI (S.tp.length + 8), M') ∧ Fr (fun a j => a = 14 ∨ (a = 0 ∧ j = 26)) M M' ∧ M'.1 0 26 = nI (S.tp.length + 8) ∧ (∀ j x, S.tp[j]? = some x → M'.1 14 j = nI x) ∧ (∀ j, j < 8 → M'.1 14 (S.tp.length + j) = nI (byN V j)) := by
        intro d
        induction d with
        | zero =>
          intro i g N v h1 h2 h3 hv hv8 h4 hl h5 h6
          obtain ⟨g, rfl⟩ : ∃ e, g = e + 1 := ⟨g - 1, by omega⟩
          have e : i = 8 := by omega
          subst e
          refine ⟨N, ?_, h4, hl, h5, h6⟩
          show (if v < 0 then some (N.1 0 26, N) else _) = _
          rw [if_pos (hv8 rfl), hl]
        | succ d ih =>
          intro i g N v h1 h2 h3 hv hv8 h4 hl h5 h6
          obtain ⟨g, rfl⟩ : ∃ e, g = e + 1 := ⟨g - 1, by omega⟩
          have hi : i < 8 := by omega
          have hv := hv hi
          subst hv
          have fr : Fr (fun a j => a = 14 ∨ (a = 0 ∧ j = 26)) N (si (si N 14 (S.tp.length + i) (nI (byN V i))) 0 26 (nI (S.tp.length + i + 1))) := (Fr.si (Or.inl rfl)).trans (Fr.si (Or.inr ⟨rfl, rfl⟩))
          obtain ⟨M', q1, q2, q3, q4, q5⟩ := ih (i + 1) g (si (si N 14 (S.tp.length + i) (nI (byN V i))) 0 26 (nI (S.tp.length + i + 1))) (nI (56 - 8 * i) + (-8)) (by omega) (by omega) (by omega) (fun h => by
            have : ∀ i, i < 7 → nI (56 - 8 * i) + (-8) = nI (56 - 8 * (i + 1)) := by decide
            exact this i (by omega)) (fun h => by
            have : i = 7 := by omega
            subst this
            decide) (h4.trans fr) (by rw [si_at, Nat.add_assoc]) (fun j x hx => by
            have := (List.getElem?_eq_some_iff.mp hx).1
            rw [si_ne (Or.inl (by decide)), si_ne (Or.inr (by omega))]
            exact h5 j x hx) (fun j hj => by
            rw [si_ne (Or.inl (by decide))]
            by_cases e : j = i
            · rw [e, si_at]
            · rw [si_ne (Or.inr (by omega))]; exact h6 j (by omega))
          refine ⟨M', ?_, q2, q3, q4, q5⟩
          show (if nI (56 - 8 * i) < 0 then _ else gd (N.1 0 26) 320 (nm (si N 14 ((N.1 0 26).toNatClampNeg) ((((lN V >>> ((nI (56 - 8 * i)).toInt64 &&& 63)) &&& 255) : Int64).toInt32)) fun N1 => X_Model_feed_L19 fuel (lN V) g (nI (56 - 8 * i) + (-8)) (si N1 0 26 ((N1.1 0 26) + 1)))) = _
          unfold nm
          dsimp only
          rw [if_neg (nI_pos (by omega)), hl, gd_in (vp_in_nI (by omega) (by decide)), nI_clamp (by omega), by_m hV (by omega), si_ne (Or.inl (by decide)), hl, nI_1]
          exact q1
      obtain ⟨M', q1, q2, q3, q4, q5⟩ := key 8 0 fuel M 56 rfl (by decide) (by decide) (fun _ => rfl) (fun h => by omega) Fr.rf (by rw [hM.tl]; rfl) hM.tb (fun j hj => by omega)
      refine ⟨M', q1, hM.c.fr q2 (fun k hk => by simp only [List.mem_cons, List.not_mem_nil, or_false] at hk; omega) (fun a k ha => by simp only [List.mem_cons, List.not_mem_nil, or_false] at ha; omega), hM.a.fr hS.hA.1 q2 (fun k _ _ => by omega), fun j hj hb => (hM.i j hj hb).fr (hS.hI j hj hb).1 q2 (fun k _ _ => by omega), fun j hj => by rw [(q2 2 j (by omega)).1]; exact hM.kp j hj, ?_, ?_, fun i x hx => ?_, ?_, fun j hj => (hM.sh j hj).fr q2 (fun a i _ _ => by omega)⟩
      · rw [(q2 0 54 (by omega)).1]; exact hM.tn
      · rw [q3]
        show _ = nI (S.tp ++ fdB V 8).length
        rw [List.length_append, fdB_len]
      · have hx' : (S.tp ++ fdB V 8)[i]? = some x := hx
        by_cases e : i < S.tp.length
        · rw [List.getElem?_append_left e] at hx'
          exact q4 i x hx'
        · rw [List.getElem?_append_right (by omega)] at hx'
          have := (List.getElem?_eq_some_iff.mp hx').1
          rw [fdB_len] at this
          have h9 := fdB_get V 8 _ x (by decide) hx'
          have h10 := q5 (i - S.tp.length) this
          rw [show S.tp.length + (i - S.tp.length) = i by omega] at h10
          rw [h10, h9]
          congr 2
          omega
      · rw [(q2 0 31 (by omega)).1]; exact hM.ft
    · rw [if_neg h, if_neg (show ¬ nI (S.tp.length + 8) ≤ 320 from nI_ge (a := 320) (by omega) (by omega))]
      exact ⟨M, rfl, hM⟩
  · unfold fedU
    split
    · next h =>
      refine ⟨hS.hR, hS.hA, hS.hI, hS.hk, ?_, fun x hx => ?_, hS.hf, hS.hn, hS.hs⟩
      · show (S.tp ++ fdB _ 8).length ≤ 320
        rw [List.length_append, fdB_len]
        exact h
      · rcases List.mem_append.mp hx with h1 | h1
        · exact hS.hb x h1
        · exact fdB_lt _ _ x h1
    · exact hS
