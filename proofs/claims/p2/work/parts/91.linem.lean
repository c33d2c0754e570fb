/-! THE TEXT: the reference's line -/
def kTail (n : Nat) (M12 : Mem) : Option (Unit × Mem) := if (M12.1 0 31) = 0 then (if (M12.1 0 29) = 3 then bd (X_Model_needs n 1 2 M12) fun _ M18 => bd (X_Model_next n M18) fun _ M15 => some ((), M15) else bd (X_Model_needs n 0 2 M12) fun _ M18 => bd (X_Model_next n M18) fun _ M15 => some ((), M15)) else bd (X_Model_next n M12) fun _ M15 => some ((), M15)
def kDisp (n : Nat) (u1 : Int32) (M11 : Mem) : Option (Unit × Mem) := (if u1 = 0 then bd (X_Model_readNumber n 2 6 M11) fun r33 M34 => kTail n (si M34 0 12 r33) else (if u1 = 1 then bd (X_Model_readNumber n 1 9 M11) fun r31 M32 => kTail n (si M32 0 13 r31) else (if u1 = 2 then bd (X_Model_readKnows n M11) fun _ M30 => kTail n M30 else (if u1 = 3 then bd (X_Model_readJoin n M11) fun _ M28 => kTail n M28 else (if u1 = 4 then bd (X_Model_readHand n M11) fun r24 M25 => gd (M11.1 0 15) 16 (nm (si M25 9 ((M11.1 0 15).toNatClampNeg) r24) fun N26 => kTail n (si N26 0 15 ((N26.1 0 15) + 1))) else (if u1 = 5 then bd (X_Model_readHand n M11) fun r21 M22 => gd (M11.1 0 16) 8 (nm (si M22 10 ((M11.1 0 16).toNatClampNeg) r21) fun N23 => kTail n (si N23 0 16 ((N23.1 0 16) + 1))) else bd (X_Model_readGlove n M11) fun _ M20 => kTail n M20))))))
def kNext (n : Nat) (u1 : Int32) (M9 : Mem) : Option (Unit × Mem) := bd (X_Model_next n M9) fun _ M11 => if (M11.1 0 31) ≤ 0 then kDisp n u1 M11 else some ((), M11)
def kTwice (n : Nat) (u1 : Int32) (M8 : Mem) : Option (Unit × Mem) := if (M8.1 0 31) = 0 then (if 1 < u1 then kNext n u1 M8 else (if (((M8.1 0 24) >>> (u1 &&& 31)) &&& 1) = 0 then bd (X_Model_needs n 1 4 M8) fun _ M37 => kNext n u1 (si M37 0 24 ((M37.1 0 24) ||| ((1 : Int32) <<< (u1 &&& 31)))) else bd (X_Model_needs n 0 4 M8) fun _ M37 => kNext n u1 (si M37 0 24 ((M37.1 0 24) ||| ((1 : Int32) <<< (u1 &&& 31)))))) else kNext n u1 M8
def kFull (n : Nat) (u1 u6 : Int32) (M5 : Mem) : Option (Unit × Mem) := bd (X_Model_needs n u6 5 M5) fun _ M8 => kTwice n u1 M8
def kName (n : Nat) (u1 : Int32) (M2 : Mem) : Option (Unit × Mem) := bd (X_Model_needs n (if u1 = (-4) then 0 else 1) 2 M2) fun _ M5 => (if u1 = 3 then (if 4 ≤ (M5.1 0 14) then kFull n u1 0 M5 else (if u1 = 4 then (if 16 ≤ (M5.1 0 15) then kFull n u1 0 M5 else (if u1 = 5 then (if 8 ≤ (M5.1 0 16) then kFull n u1 0 M5 else kFull n u1 1 M5) else kFull n u1 1 M5)) else (if u1 = 5 then (if 8 ≤ (M5.1 0 16) then kFull n u1 0 M5 else kFull n u1 1 M5) else kFull n u1 1 M5))) else (if u1 = 4 then (if 16 ≤ (M5.1 0 15) then kFull n u1 0 M5 else (if u1 = 5 then (if 8 ≤ (M5.1 0 16) then kFull n u1 0 M5 else kFull n u1 1 M5) else kFull n u1 1 M5)) else (if u1 = 5 then (if 8 ≤ (M5.1 0 16) then kFull n u1 0 M5 else kFull n u1 1 M5) else kFull n u1 1 M5)))
theorem line_eq (n : Nat) (M : Mem) : X_Model_readLine n M = if (M.1 0 29) = 1 then bd (X_Model_nameNow n M) fun r38 M39 => kName n r38 M39 else kName n (-4) M := by
  have key : ∀ (u1 : Int32) (M2 : Mem), (nm (fun (u3 : Int32) => (bd (X_Model_needs n u3 2 M2) fun _ M5 => (if u1 = 3 then (if 4 ≤ (M5.1 0 14) then kFull n u1 0 M5 else (if u1 = 4 then (if 16 ≤ (M5.1 0 15) then kFull n u1 0 M5 else (if u1 = 5 then (if 8 ≤ (M5.1 0 16) then kFull n u1 0 M5 else kFull n u1 1 M5) else kFull n u1 1 M5)) else (if u1 = 5 then (if 8 ≤ (M5.1 0 16) then kFull n u1 0 M5 else kFull n u1 1 M5) else kFull n u1 1 M5))) else (if u1 = 4 then (if 16 ≤ (M5.1 0 15) then kFull n u1 0 M5 else (if u1 = 5 then (if 8 ≤ (M5.1 0 16) then kFull n u1 0 M5 else kFull n u1 1 M5) else kFull n u1 1 M5)) else (if u1 = 5 then (if 8 ≤ (M5.1 0 16) then kFull n u1 0 M5 else kFull n u1 1 M5) else kFull n u1 1 M5))) : Option (Unit × Mem))) fun k30 => (if u1 = (-4) then k30 0 else k30 1)) = kName n u1 M2 := fun u1 M2 => by
    rw [nm_eq]
    unfold kName
    by_cases e : u1 = -4
    · rw [if_pos e, if_pos e]
    · rw [if_neg e, if_neg e]
  have k2 : X_Model_readLine n M = if (M.1 0 29) = 1 then bd (X_Model_nameNow n M) (fun r38 M39 => (nm (fun (u3 : Int32) => (bd (X_Model_needs n u3 2 M39) fun _ M5 => (if r38 = 3 then (if 4 ≤ (M5.1 0 14) then kFull n r38 0 M5 else (if r38 = 4 then (if 16 ≤ (M5.1 0 15) then kFull n r38 0 M5 else (if r38 = 5 then (if 8 ≤ (M5.1 0 16) then kFull n r38 0 M5 else kFull n r38 1 M5) else kFull n r38 1 M5)) else (if r38 = 5 then (if 8 ≤ (M5.1 0 16) then kFull n r38 0 M5 else kFull n r38 1 M5) else kFull n r38 1 M5))) else (if r38 = 4 then (if 16 ≤ (M5.1 0 15) then kFull n r38 0 M5 else (if r38 = 5 then (if 8 ≤ (M5.1 0 16) then kFull n r38 0 M5 else kFull n r38 1 M5) else kFull n r38 1 M5)) else (if r38 = 5 then (if 8 ≤ (M5.1 0 16) then kFull n r38 0 M5 else kFull n r38 1 M5) else kFull n r38 1 M5))) : Option (Unit × Mem))) fun k30 => (if r38 = (-4) then k30 0 else k30 1))) else (nm (fun (u3 : Int32) => (bd (X_Model_needs n u3 2 M) fun _ M5 => (if (-4 : Int32) = 3 then (if 4 ≤ (M5.1 0 14) then kFull n (-4) 0 M5 else (if (-4 : Int32) = 4 then (if 16 ≤ (M5.1 0 15) then kFull n (-4) 0 M5 else (if (-4 : Int32) = 5 then (if 8 ≤ (M5.1 0 16) then kFull n (-4) 0 M5 else kFull n (-4) 1 M5) else kFull n (-4) 1 M5)) else (if (-4 : Int32) = 5 then (if 8 ≤ (M5.1 0 16) then kFull n (-4) 0 M5 else kFull n (-4) 1 M5) else kFull n (-4) 1 M5))) else (if (-4 : Int32) = 4 then (if 16 ≤ (M5.1 0 15) then kFull n (-4) 0 M5 else (if (-4 : Int32) = 5 then (if 8 ≤ (M5.1 0 16) then kFull n (-4) 0 M5 else kFull n (-4) 1 M5) else kFull n (-4) 1 M5)) else (if (-4 : Int32) = 5 then (if 8 ≤ (M5.1 0 16) then kFull n (-4) 0 M5 else kFull n (-4) 1 M5) else kFull n (-4) 1 M5))) : Option (Unit × Mem))) fun k30 => (if (-4 : Int32) = (-4) then k30 0 else k30 1)) := rfl
  rw [k2]
  by_cases e : M.1 0 29 = 1
  · rw [if_pos e, if_pos e]
    exact congrArg (bd (X_Model_nameNow n M)) (funext fun r => funext fun N => key r N)
  · rw [if_neg e, if_neg e]
    exact key (-4) M
theorem m_tail (n : Nat) (hn : 400 ≤ n) {M : Mem} {tp : List Nat} {a : Tk} {t : Tm} {E : Dr} (h : YW M tp t E) (hQ : QT a t) : ∃ M' t', kTail n M = some ((), M') ∧ YW M' tp t' E ∧ QT (rdX tp (rfs (decide (a.2.2.1 ≠ 3)) 2 a)) t' ∧ Fr yd M M' := by
  unfold kTail
  rw [h.2.2.1.1, h.2.2.1.2.2.2.2.1]
  have hk4 := h.2.1.2.2.2
  by_cases e : t.1 = 0
  · have hQok : Qok a t := by
      rcases hQ with q | q
      · exact q
      · exact absurd e q.2.1
    have go : ∀ p1 : Int32, (p1 = 0 ↔ decide (t.2.2.2.2.1 = 3) = false) → ∃ M' t', (bd (X_Model_needs n p1 2 M) fun _ M18 => bd (X_Model_next n M18) fun _ M15 => some ((), M15)) = some ((), M') ∧ YW M' tp t' E ∧ QT (rdX tp (rfs (decide (a.2.2.1 ≠ 3)) 2 a)) t' ∧ Fr yd M M' := fun p1 hp => by
      obtain ⟨M1, b1, b2, b3⟩ := h.need n hp 2 (by decide)
      obtain ⟨M2, c1, c2, c3⟩ := b2.nxt n hn
      rw [show X_Model_needs n p1 2 M = _ from b1, bd_ret, c1, bd_ret]
      refine ⟨M2, _, rfl, c2, next_Q (ref_Q (Or.inl hQok) (by decide) (by decide) ?_), (mt_yd b3).trans (mt_yd c3)⟩
      rw [hQok.2.2.2.1]
      by_cases q : t.2.2.2.2.1 = 3 <;> simp [q]
    rw [if_pos (show nI t.1 = 0 by rw [e]; rfl)]
    by_cases e3 : t.2.2.2.2.1 = 3
    · rw [if_pos (show nI t.2.2.2.2.1 = 3 by rw [e3]; rfl)]
      exact go 1 (by rw [decide_eq_true e3]; decide)
    · rw [if_neg (show ¬ nI t.2.2.2.2.1 = 3 from fun q => e3 ((nI_eq (b := 3) (by omega) (by decide)).mp q))]
      exact go 0 (by rw [decide_eq_false e3]; decide)
  · rw [if_neg (fun q => e ((i_z (by have := h.2.1.1; omega)).mp q))]
    obtain ⟨M2, c1, c2, c3⟩ := h.nxt n hn
    have ha : a.1 ≠ 0 := fun q => e ((Q_0 hQ).mp q)
    rw [c1, bd_ret]
    refine ⟨M2, _, rfl, c2, ?_, mt_yd c3⟩
    rw [rfs_bad ha]
    exact next_Q hQ
theorem YW.cg {M : Mem} {tp : List Nat} {t : Tm} {E E' : Dr} (h : YW M tp t E) (e : t.1 = 0 → E = E') : YW M tp t E' := ⟨h.1, h.2.1, h.2.2.1, fun q => by rw [← e q]; exact h.2.2.2 q⟩
theorem YW.wr {P : Nat → Nat → Prop} {M M' : Mem} {tp : List Nat} {t : Tm} {E E' : Dr} (h : YW M tp t E) (ho : Fr P M M') (hp : ∀ c k, P c k → c ≠ 14 ∧ ¬ (c = 0 ∧ 26 ≤ k)) (hE : t.1 = 0 → YD M' E' ∧ OkW E'.W) : YW M' tp t E' := ⟨h.1.fr ho (fun c k q => ⟨(hp c k q).1, fun r => (hp c k q).2 ⟨r.1, by omega⟩⟩), h.2.1, h.2.2.1.nt ho (fun k q r => (hp 0 k q).2 ⟨rfl, by omega⟩), hE⟩
