/-! WHAT IS OWED OF THE PURE FUNCTIONS -/
def fuel : Nat := 1048576
def Rel (Mx Mm : Mem) : Prop := sorry
def Sm (f g : Mem → Option (Int32 × Mem)) : Prop := ∀ Mx Mm, Rel Mx Mm → ∃ r Mx2 Mm2, f Mx = some (r, Mx2) ∧ g Mm = some (r, Mm2) ∧ Rel Mx2 Mm2
theorem sim_feed (a0 : Int64) : Sm (fun M => X_ShakeHands_feed fuel a0 M) (fun M => X_Model_feed fuel a0 M) := sorry
theorem sim_end (a0 : Int32) : Sm (fun M => X_ShakeHands_end fuel a0 M) (fun M => X_Model_end fuel a0 M) := sorry
theorem sim_text  : Sm (fun M => X_ShakeHands_text fuel  M) (fun M => X_Model_text fuel  M) := sorry
theorem sim_fault  : Sm (fun M => X_ShakeHands_fault fuel  M) (fun M => X_Model_fault fuel  M) := sorry
theorem sim_rule (a0 : Int32) : Sm (fun M => X_ShakeHands_rule fuel a0 M) (fun M => X_Model_rule fuel a0 M) := sorry
theorem sim_hand (a0 : Int32) (a1 : Int32) : Sm (fun M => X_ShakeHands_hand fuel a0 a1 M) (fun M => X_Model_hand fuel a0 a1 M) := sorry
theorem sim_join (a0 : Int32) (a1 : Int32) : Sm (fun M => X_ShakeHands_join fuel a0 a1 M) (fun M => X_Model_join fuel a0 a1 M) := sorry
theorem sim_knows (a0 : Int32) : Sm (fun M => X_ShakeHands_knows fuel a0 M) (fun M => X_Model_knows fuel a0 M) := sorry
theorem sim_row (a0 : Int32) (a1 : Int32) : Sm (fun M => X_ShakeHands_row fuel a0 a1 M) (fun M => X_Model_row fuel a0 a1 M) := sorry
theorem sim_who (a0 : Int32) : Sm (fun M => X_ShakeHands_who fuel a0 M) (fun M => X_Model_who fuel a0 M) := sorry
theorem sim_learn (a0 : Int32) (a1 : Int32) : Sm (fun M => X_ShakeHands_learn fuel a0 a1 M) (fun M => X_Model_learn fuel a0 a1 M) := sorry
theorem sim_forget (a0 : Int32) (a1 : Int32) : Sm (fun M => X_ShakeHands_forget fuel a0 a1 M) (fun M => X_Model_forget fuel a0 a1 M) := sorry
theorem sim_glove (a0 : Int32) (a1 : Int32) : Sm (fun M => X_ShakeHands_glove fuel a0 a1 M) (fun M => X_Model_glove fuel a0 a1 M) := sorry
theorem sim_shake (a0 : Int32) (a1 : Int32) : Sm (fun M => X_ShakeHands_shake fuel a0 a1 M) (fun M => X_Model_shake fuel a0 a1 M) := sorry
theorem sim_feast (a0 : Int32) : Sm (fun M => X_ShakeHands_feast fuel a0 M) (fun M => X_Model_feast fuel a0 M) := sorry
theorem sim_after (a0 : Int32) (a1 : Int32) : Sm (fun M => X_ShakeHands_after fuel a0 a1 M) (fun M => X_Model_after fuel a0 a1 M) := sorry
theorem sim_lost (a0 : Int32) : Sm (fun M => X_ShakeHands_lost fuel a0 M) (fun M => X_Model_lost fuel a0 M) := sorry
theorem sim_told (a0 : Int32) (a1 : Int32) : Sm (fun M => X_ShakeHands_told fuel a0 a1 M) (fun M => X_Model_told fuel a0 a1 M) := sorry
theorem sim_fewest (a0 : Int32) (a1 : Int32) (a2 : Int32) (a3 : Int32) : Sm (fun M => X_ShakeHands_fewest fuel a0 a1 a2 a3 M) (fun M => X_Model_fewest fuel a0 a1 a2 a3 M) := sorry
theorem sim_rounds (a0 : Int32) (a1 : Int32) (a2 : Int32) : Sm (fun M => X_ShakeHands_rounds fuel a0 a1 a2 M) (fun M => X_Model_rounds fuel a0 a1 a2 M) := sorry
theorem sim_lose (a0 : Int32) : Sm (fun M => X_ShakeHands_lose fuel a0 M) (fun M => X_Model_lose fuel a0 M) := sorry
theorem sim_lives (a0 : Int32) : Sm (fun M => X_ShakeHands_lives fuel a0 M) (fun M => X_Model_lives fuel a0 M) := sorry
theorem sim_comes (a0 : Int32) : Sm (fun M => X_ShakeHands_comes fuel a0 M) (fun M => X_Model_comes fuel a0 M) := sorry
theorem sim_days (a0 : Int32) : Sm (fun M => X_ShakeHands_days fuel a0 M) (fun M => X_Model_days fuel a0 M) := sorry
theorem sim_saw (a0 : Int32) (a1 : Int32) : Sm (fun M => X_ShakeHands_saw fuel a0 a1 M) (fun M => X_Model_saw fuel a0 a1 M) := sorry
theorem sim_blind  : Sm (fun M => X_ShakeHands_blind fuel  M) (fun M => X_Model_blind fuel  M) := sorry
theorem sim_fits (a0 : Int32) (a1 : Int32) : Sm (fun M => X_ShakeHands_fits fuel a0 a1 M) (fun M => X_Model_fits fuel a0 a1 M) := sorry
theorem sim_least  : Sm (fun M => X_ShakeHands_least fuel  M) (fun M => X_Model_least fuel  M) := sorry
theorem sim_seats (a0 : Int32) (a1 : Int32) (a2 : Int32) : Sm (fun M => X_ShakeHands_seats fuel a0 a1 a2 M) (fun M => X_Model_seats fuel a0 a1 a2 M) := sorry
theorem sim_gloves (a0 : Int32) (a1 : Int32) (a2 : Int32) : Sm (fun M => X_ShakeHands_gloves fuel a0 a1 a2 M) (fun M => X_Model_gloves fuel a0 a1 a2 M) := sorry
theorem sim_keep (a0 : Int32) : Sm (fun M => X_ShakeHands_keep fuel a0 M) (fun M => X_Model_keep fuel a0 M) := sorry
theorem sim_back (a0 : Int32) : Sm (fun M => X_ShakeHands_back fuel a0 M) (fun M => X_Model_back fuel a0 M) := sorry
theorem sim_sheet (a0 : Int32) (a1 : Int32) (a2 : Int32) : Sm (fun M => X_ShakeHands_sheet fuel a0 a1 a2 M) (fun M => X_Model_sheet fuel a0 a1 a2 M) := sorry
theorem sim_lay (a0 : Int32) (a1 : Int32) (a2 : Int32) : Sm (fun M => X_ShakeHands_lay fuel a0 a1 a2 M) (fun M => X_Model_lay fuel a0 a1 a2 M) := sorry
theorem sim_read (a0 : Int32) (a1 : Int32) (a2 : Int32) (a3 : Int32) : Sm (fun M => X_ShakeHands_read fuel a0 a1 a2 a3 M) (fun M => X_Model_read fuel a0 a1 a2 a3 M) := sorry
theorem sim_torn  : Sm (fun M => X_ShakeHands_torn fuel  M) (fun M => X_Model_torn fuel  M) := sorry
theorem sim_count (a0 : Int32) : Sm (fun M => X_ShakeHands_count fuel a0 M) (fun M => X_Model_count fuel a0 M) := sorry
theorem sim_init : ∃ M9, X_Model_init fuel zM = some ((), M9) ∧ Rel (si (si (si (si zM 4 0 3) 4 1 9) 11 0 3) 11 1 9) M9 := sorry
