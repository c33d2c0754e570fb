/-! STRINGS: the constants that isCalled is asked of (ids 210.., their bytes 220..) -/
theorem j_ldcS {R : Type} {mt : Mt} {wr : R → Option Value} {pc : Nat} {lv : List (Nat × Value)} {st : List Value} {M : Mem} {F : Option (R × Mem)} {own : String} {i k : Nat} {tx : String} (hd : decode mt.2.1 pc = .ok (.ldc i, 2)) (ho : mt.1 = "ShakeHands$Teller") (hk : stTxt[k]? = some (i, tx)) (K : J mt wr (pc + 2) lv (.ref (210 + k) :: st) M F) : J mt wr pc lv st M F := by
  intro r M' hF p l e s m args below meth c D ad dA A mc ms hp H locs ls hP hD hS hl
  obtain ⟨hx, hb, hr, hml, hown, hts, hlk, hC⟩ := id hp
  rw [ho] at hown
  exact va_ldcS hx hb hown (hC.2.2.2.2.2.2.1 k (i, tx) hk) hd (K r M' hF p l e s m args below meth c D ad dA A mc ms hp H locs ls hP hD hS hl)
theorem sw_value : Cond.fieldLink "java/lang/String" 9 "java/lang/String" "value" "[B" ∈ tbl := tb_7 18 (by decide +kernel) rfl
theorem sw_coder : Cond.fieldLink "java/lang/String" 15 "java/lang/String" "coder" "B" ∈ tbl := tb_7 19 (by decide +kernel) rfl
theorem sw_compact : Cond.fieldLink "java/lang/String" 38 "java/lang/String" "COMPACT_STRINGS" "Z" ∈ tbl := tb_2 146 (by decide +kernel) rfl
theorem sw_form : Cond.fieldLink "java/lang/String" 1053 "jdk/internal/util/Preconditions" "SIOOBE_FORMATTER" "Ljava/util/function/BiFunction;" ∈ tbl := tb_2 162 (by decide +kernel) rfl
theorem j_strValue {R : Type} {mt : Mt} {wr : R → Option Value} {pc : Nat} {lv : List (Nat × Value)} {st : List Value} {M : Mem} {F : Option (R × Mem)} {k : Nat} (hd : decode mt.2.1 pc = .ok (.getfield 9, 3)) (ho : mt.1 = "java/lang/String") (hk : k < 7) (K : J mt wr (pc + 3) lv (.ref (220 + k) :: st) M F) : J mt wr pc lv (.ref (210 + k) :: st) M F := by
  intro r M' hF p l e s m args below meth c D ad dA A mc ms hp H locs ls hP hD hS hl
  obtain ⟨hx, hb, hr, hml, hown, hts, hlk, hC⟩ := id hp
  rw [ho] at hown
  exact vk_getf hx hb (hC.2.2.2.2.2.1.1 k hk).2.2.1 hS hown (hts _ sw_value) (fun x h => h) hd (K r M' hF p l e s m args below meth c D ad dA A mc ms hp H locs ls hP hD hS hl)
theorem j_strCoder {R : Type} {mt : Mt} {wr : R → Option Value} {pc : Nat} {lv : List (Nat × Value)} {st : List Value} {M : Mem} {F : Option (R × Mem)} {k : Nat} (hd : decode mt.2.1 pc = .ok (.getfield 15, 3)) (ho : mt.1 = "java/lang/String") (hk : k < 7) (K : J mt wr (pc + 3) lv (.int 0 :: st) M F) : J mt wr pc lv (.ref (210 + k) :: st) M F := by
  intro r M' hF p l e s m args below meth c D ad dA A mc ms hp H locs ls hP hD hS hl
  obtain ⟨hx, hb, hr, hml, hown, hts, hlk, hC⟩ := id hp
  rw [ho] at hown
  exact vk_getf hx hb (hC.2.2.2.2.2.1.1 k hk).2.1 hS hown (hts _ sw_coder) (fun x h => h) hd (K r M' hF p l e s m args below meth c D ad dA A mc ms hp H locs ls hP hD hS hl)
theorem j_compact {R : Type} {mt : Mt} {wr : R → Option Value} {pc : Nat} {lv : List (Nat × Value)} {st : List Value} {M : Mem} {F : Option (R × Mem)} (hd : decode mt.2.1 pc = .ok (.getstatic 38, 3)) (ho : mt.1 = "java/lang/String") (K : J mt wr (pc + 3) lv (.int 1 :: st) M F) : J mt wr pc lv st M F := by
  intro r M' hF p l e s m args below meth c D ad dA A mc ms hp H locs ls hP hD hS hl
  obtain ⟨hx, hb, hr, hml, hown, hts, hlk, hC⟩ := id hp
  rw [ho] at hown
  exact va_gets hx hb hC.2.2.2.2.2.2.2.1 hS hown (hts _ sw_compact) (fun x h => h) hd (K r M' hF p l e s m args below meth c D ad dA A mc ms hp H locs ls hP hD hS hl)
theorem j_form {R : Type} {mt : Mt} {wr : R → Option Value} {pc : Nat} {lv : List (Nat × Value)} {st : List Value} {M : Mem} {F : Option (R × Mem)} (hd : decode mt.2.1 pc = .ok (.getstatic 1053, 3)) (ho : mt.1 = "java/lang/String") (K1 : J mt wr (pc + 3) lv (.null :: st) M F) (K2 : J mt wr (pc + 3) lv (.ref 230 :: st) M F) : J mt wr pc lv st M F := by
  intro r M' hF p l e s m args below meth c D ad dA A mc ms hp H locs ls hP hD hS hl
  obtain ⟨hx, hb, hr, hml, hown, hts, hlk, hC⟩ := id hp
  rw [ho] at hown
  rcases hC.2.2.2.2.2.2.2.2.1 with h | h
  · exact va_gets hx hb h hS hown (hts _ sw_form) (fun x h => h) hd (K1 r M' hF p l e s m args below meth c D ad dA A mc ms hp H locs ls hP hD hS hl)
  · exact va_gets hx hb h hS hown (hts _ sw_form) (fun x h => h) hd (K2 r M' hF p l e s m args below meth c D ad dA A mc ms hp H locs ls hP hD hS hl)
theorem j_strLen {R : Type} {mt : Mt} {wr : R → Option Value} {pc : Nat} {lv : List (Nat × Value)} {st : List Value} {M : Mem} {F : Option (R × Mem)} {k : Nat} (hd : decode mt.2.1 pc = .ok (.arraylength, 1)) (hk : k < 7) (K : J mt wr (pc + 1) lv (.int (nI (stLen.getD k 0)) :: st) M F) : J mt wr pc lv (.ref (220 + k) :: st) M F := by
  intro r M' hF p l e s m args below meth c D ad dA A mc ms hp H locs ls hP hD hS hl
  obtain ⟨hx, hb, hr, hml, hown, hts, hlk, hC⟩ := id hp
  exact va_tlen hx hb (hC.2.2.2.2.2.1.1 k hk).2.2.2 hS rfl hd (K r M' hF p l e s m args below meth c D ad dA A mc ms hp H locs ls hP hD hS hl)
theorem j_strByte {R : Type} {mt : Mt} {wr : R → Option Value} {pc : Nat} {lv : List (Nat × Value)} {st : List Value} {M : Mem} {F : Option (R × Mem)} {k : Nat} {i : Int32} (hd : decode mt.2.1 pc = .ok (.baload, 1)) (hk : k < 7) (hin : vp_in i (stLen.getD k 0)) (K : J mt wr (pc + 1) lv (.int ((stByt.getD k []).getD i.toNatClampNeg 0) :: st) M F) : J mt wr pc lv (.int i :: .ref (220 + k) :: st) M F := by
  intro r M' hF p l e s m args below meth c D ad dA A mc ms hp H locs ls hP hD hS hl
  obtain ⟨hx, hb, hr, hml, hown, hts, hlk, hC⟩ := id hp
  exact va_tb hx hb (hC.2.2.2.2.2.1.1 k hk).2.2.2 hS hin rfl hd (K r M' hF p l e s m args below meth c D ad dA A mc ms hp H locs ls hP hD hS hl)
theorem j_callVS {R : Type} {mt : Mt} {wr : R → Option Value} {pc : Nat} {lv : List (Nat × Value)} {st : List Value} {M : Mem} {R2 : Type} {wr2 : R2 → Option Value} {mt2 : Mt} {F2 : Option (R2 × Mem)} {k : R2 → Mem → Option (R × Mem)} {y : MethodName} {idx n : Nat} {as : List Value} {q : Nat} (hd : decode mt.2.1 pc = .ok (.invokevirtual idx, 3)) (hct : Ct y mt2 wr2 (.ref (210 + q) :: as) M F2) (hw : CV mt.1 idx y) (hcd : Cond.code y mt2.2.1 mt2.2.2.1 mt2.2.2.2.1 ∈ tbl) (hdn : Dn y n) (hn : as.length = n) (hsh : mt2.2.2.2.2.2 = mt.2.2.2.2.2) (hdp : mt2.2.2.2.2.1 + 1 ≤ mt.2.2.2.2.1) (hmx : mt2.2.2.1 ≤ 40) (hst : (st.map fun v => v.category).sum ≤ 8) (hnr : nr wr2) (hq : q < 7) (hcl : y.cls = "java/lang/String") (K : ∀ (r : R2) (N : Mem), J mt wr (pc + 3) lv ((wr2 r).toList ++ st) N (k r N)) : J mt wr pc lv (as.reverse ++ .ref (210 + q) :: st) M (bd F2 k) := by
  intro r M' hF p l e s m args below meth c D ad dA A mc ms hp H locs ls hP hD hS hl
  obtain ⟨hx, hb, hr, hml, hown, hts, hlk, hC⟩ := id hp
  obtain ⟨r1, M1, hF1, hF⟩ := bd_some hF
  have hM := hct r1 M1 hF1 l D ad dA A
  have hR : (rmd mt2.2.2.2.2.1).frames + 1 ≤ (rmc mt.2.2.2.2.1 mc ms).frames ∧ 8 + (mt2.2.2.1 + 11) + (rmd mt2.2.2.2.2.1).locals ≤ (rmc mt.2.2.2.2.1 mc ms).locals := by
    refine ⟨hdp, ?_⟩
    show 8 + (mt2.2.2.1 + 11) + 64 * mt2.2.2.2.2.1 ≤ 64 * mt.2.2.2.2.1
    omega
  refine wr_call (wv := wr2 r1) (rest := st.map (rv ad)) (va_runV (As := as.map (rv ad)) (b := ad (210 + q)) (C := y.cls) (Ts := tbl) ⟨hx, hb, hml, hown, hts⟩ hM ⟨callB_of n hts (good_cons hcd) rfl rfl rfl (hts _ hw.2.2.2) (hts _ hw.1) hdn hR, hts _ hw.2.1, hts _ hw.2.2.1⟩ ⟨ct_blind, by rw [hcl]; exact vk_recv (i := q) hC.2.2.2.2.2.1 hq hS, fun U hU hW => ⟨rfl, by rw [hU, hsh]; exact ⟨hP, hD⟩, by rw [hU]; exact hC.next hS hW⟩⟩ rfl (by rw [List.length_map]; exact hn) hl.1 ?_ (lv_room (by rw [rv_cats]; exact hst)) hd ⟨Nat.le_refl _, Nat.le_refl _⟩) hS (fun t H1 locs1 ht hpost hS1 => ?_)
  · show (as.reverse ++ .ref (210 + q) :: st).map (rv ad) = (as.map (rv ad)).reverse ++ .ref (ad (210 + q)) :: st.map (rv ad)
    rw [List.map_append, List.map_reverse]
    rfl
  obtain ⟨hP1, hD1⟩ := hpost
  rw [ht] at hP1
  rw [hsh] at hP1 hD1
  have hk := K r1 M1 r M' hF p l e s m args below meth c D ad dA A mc ms hp H1 locs1 ls hP1 hD1 hS1 hl
  rw [List.map_append, hnr] at hk
  exact hk
theorem j_callVS0 {R : Type} {mt : Mt} {wr : R → Option Value} {pc : Nat} {lv : List (Nat × Value)} {st : List Value} {M : Mem} {R2 : Type} {wr2 : R2 → Option Value} {mt2 : Mt} {F2 : Option (R2 × Mem)} {k : R2 → Mem → Option (R × Mem)} {y : MethodName} {idx : Nat} {q : Nat} (hd : decode mt.2.1 pc = .ok (.invokevirtual idx, 3)) (hct : Ct y mt2 wr2 (.ref (210 + q) :: []) M F2) (hw : CV mt.1 idx y) (hcd : Cond.code y mt2.2.1 mt2.2.2.1 mt2.2.2.2.1 ∈ tbl) (hdn : Dn y 0) (hsh : mt2.2.2.2.2.2 = mt.2.2.2.2.2) (hdp : mt2.2.2.2.2.1 + 1 ≤ mt.2.2.2.2.1) (hmx : mt2.2.2.1 ≤ 40) (hst : (st.map fun v => v.category).sum ≤ 8) (hnr : nr wr2) (hq : q < 7) (hcl : y.cls = "java/lang/String") (K : ∀ (r : R2) (N : Mem), J mt wr (pc + 3) lv ((wr2 r).toList ++ st) N (k r N)) : J mt wr pc lv (.ref (210 + q) :: st) M (bd F2 k) := j_callVS (as := []) hd hct hw hcd hdn rfl hsh hdp hmx hst hnr hq hcl K
theorem j_callVS1 {R : Type} {mt : Mt} {wr : R → Option Value} {pc : Nat} {lv : List (Nat × Value)} {st : List Value} {M : Mem} {R2 : Type} {wr2 : R2 → Option Value} {mt2 : Mt} {F2 : Option (R2 × Mem)} {k : R2 → Mem → Option (R × Mem)} {y : MethodName} {idx : Nat} {v0 : Value} {q : Nat} (hd : decode mt.2.1 pc = .ok (.invokevirtual idx, 3)) (hct : Ct y mt2 wr2 (.ref (210 + q) :: [v0]) M F2) (hw : CV mt.1 idx y) (hcd : Cond.code y mt2.2.1 mt2.2.2.1 mt2.2.2.2.1 ∈ tbl) (hdn : Dn y 1) (hsh : mt2.2.2.2.2.2 = mt.2.2.2.2.2) (hdp : mt2.2.2.2.2.1 + 1 ≤ mt.2.2.2.2.1) (hmx : mt2.2.2.1 ≤ 40) (hst : (st.map fun v => v.category).sum ≤ 8) (hnr : nr wr2) (hq : q < 7) (hcl : y.cls = "java/lang/String") (K : ∀ (r : R2) (N : Mem), J mt wr (pc + 3) lv ((wr2 r).toList ++ st) N (k r N)) : J mt wr pc lv (v0 :: .ref (210 + q) :: st) M (bd F2 k) := j_callVS (as := [v0]) hd hct hw hcd hdn rfl hsh hdp hmx hst hnr hq hcl K
def mt_String_coder : Mt := ("java/lang/String", b_String_coder, 1, some .byte, 2, SHx)
theorem d_String_coder_0 : decode b_String_coder 0 = .ok (.getstatic 38, 3) := by decide +kernel
theorem d_String_coder_3 : decode b_String_coder 3 = .ok (.ifCond .eq 10, 3) := by decide +kernel
theorem d_String_coder_6 : decode b_String_coder 6 = .ok (.aload_n 0, 1) := by decide +kernel
theorem d_String_coder_7 : decode b_String_coder 7 = .ok (.getfield 15, 3) := by decide +kernel
theorem d_String_coder_10 : decode b_String_coder 10 = .ok (.goto 4, 3) := by decide +kernel
theorem d_String_coder_13 : decode b_String_coder 13 = .ok (.iconst 1, 1) := by decide +kernel
theorem d_String_coder_14 : decode b_String_coder 14 = .ok (.ireturn, 1) := by decide +kernel
def mt_String_length : Mt := ("java/lang/String", b_String_length, 1, some .int, 4, SHx)
theorem d_String_length_0 : decode b_String_length 0 = .ok (.aload_n 0, 1) := by decide +kernel
theorem d_String_length_1 : decode b_String_length 1 = .ok (.getfield 9, 3) := by decide +kernel
theorem d_String_length_4 : decode b_String_length 4 = .ok (.arraylength, 1) := by decide +kernel
theorem d_String_length_5 : decode b_String_length 5 = .ok (.aload_n 0, 1) := by decide +kernel
theorem d_String_length_6 : decode b_String_length 6 = .ok (.invokevirtual 335, 3) := by decide +kernel
theorem d_String_length_9 : decode b_String_length 9 = .ok (.ishr, 1) := by decide +kernel
theorem d_String_length_10 : decode b_String_length 10 = .ok (.ireturn, 1) := by decide +kernel
def mt_String_isLatin1 : Mt := ("java/lang/String", b_String_isLatin1, 1, some .boolean, 2, SHx)
theorem d_String_isLatin1_0 : decode b_String_isLatin1 0 = .ok (.getstatic 38, 3) := by decide +kernel
theorem d_String_isLatin1_3 : decode b_String_isLatin1 3 = .ok (.ifCond .eq 14, 3) := by decide +kernel
theorem d_String_isLatin1_6 : decode b_String_isLatin1 6 = .ok (.aload_n 0, 1) := by decide +kernel
theorem d_String_isLatin1_7 : decode b_String_isLatin1 7 = .ok (.getfield 15, 3) := by decide +kernel
theorem d_String_isLatin1_10 : decode b_String_isLatin1 10 = .ok (.ifCond .ne 7, 3) := by decide +kernel
theorem d_String_isLatin1_13 : decode b_String_isLatin1 13 = .ok (.iconst 1, 1) := by decide +kernel
theorem d_String_isLatin1_14 : decode b_String_isLatin1 14 = .ok (.goto 4, 3) := by decide +kernel
theorem d_String_isLatin1_17 : decode b_String_isLatin1 17 = .ok (.iconst 0, 1) := by decide +kernel
theorem d_String_isLatin1_18 : decode b_String_isLatin1 18 = .ok (.ireturn, 1) := by decide +kernel
def mt_Precond_checkIndex : Mt := ("jdk/internal/util/Preconditions", b_Precond_checkIndex, 3, some .int, 2, SHx)
theorem d_Precond_checkIndex_0 : decode b_Precond_checkIndex 0 = .ok (.iload_n 0, 1) := by decide +kernel
theorem d_Precond_checkIndex_1 : decode b_Precond_checkIndex 1 = .ok (.ifCond .lt 8, 3) := by decide +kernel
theorem d_Precond_checkIndex_4 : decode b_Precond_checkIndex 4 = .ok (.iload_n 0, 1) := by decide +kernel
theorem d_Precond_checkIndex_5 : decode b_Precond_checkIndex 5 = .ok (.iload_n 1, 1) := by decide +kernel
theorem d_Precond_checkIndex_6 : decode b_Precond_checkIndex 6 = .ok (.if_icmp .lt 10, 3) := by decide +kernel
theorem d_Precond_checkIndex_9 : decode b_Precond_checkIndex 9 = .ok (.aload_n 2, 1) := by decide +kernel
theorem d_Precond_checkIndex_10 : decode b_Precond_checkIndex 10 = .ok (.iload_n 0, 1) := by decide +kernel
theorem d_Precond_checkIndex_11 : decode b_Precond_checkIndex 11 = .ok (.iload_n 1, 1) := by decide +kernel
theorem d_Precond_checkIndex_12 : decode b_Precond_checkIndex 12 = .ok (.invokestatic 95, 3) := by decide +kernel
theorem d_Precond_checkIndex_15 : decode b_Precond_checkIndex 15 = .ok (.athrow, 1) := by decide +kernel
theorem d_Precond_checkIndex_16 : decode b_Precond_checkIndex 16 = .ok (.iload_n 0, 1) := by decide +kernel
theorem d_Precond_checkIndex_17 : decode b_Precond_checkIndex 17 = .ok (.ireturn, 1) := by decide +kernel
def mt_String_checkIndex : Mt := ("java/lang/String", b_String_checkIndex, 2, none, 4, SHx)
theorem d_String_checkIndex_0 : decode b_String_checkIndex 0 = .ok (.iload_n 0, 1) := by decide +kernel
theorem d_String_checkIndex_1 : decode b_String_checkIndex 1 = .ok (.iload_n 1, 1) := by decide +kernel
theorem d_String_checkIndex_2 : decode b_String_checkIndex 2 = .ok (.getstatic 1053, 3) := by decide +kernel
theorem d_String_checkIndex_5 : decode b_String_checkIndex 5 = .ok (.invokestatic 1059, 3) := by decide +kernel
theorem d_String_checkIndex_8 : decode b_String_checkIndex 8 = .ok (.pop, 1) := by decide +kernel
theorem d_String_checkIndex_9 : decode b_String_checkIndex 9 = .ok (.return_, 1) := by decide +kernel
def mt_StringLatin1_charAt : Mt := ("java/lang/StringLatin1", b_StringLatin1_charAt, 2, some .char, 6, SHx)
theorem d_StringLatin1_charAt_0 : decode b_StringLatin1_charAt 0 = .ok (.iload_n 1, 1) := by decide +kernel
theorem d_StringLatin1_charAt_1 : decode b_StringLatin1_charAt 1 = .ok (.aload_n 0, 1) := by decide +kernel
theorem d_StringLatin1_charAt_2 : decode b_StringLatin1_charAt 2 = .ok (.arraylength, 1) := by decide +kernel
theorem d_StringLatin1_charAt_3 : decode b_StringLatin1_charAt 3 = .ok (.invokestatic 9, 3) := by decide +kernel
theorem d_StringLatin1_charAt_6 : decode b_StringLatin1_charAt 6 = .ok (.aload_n 0, 1) := by decide +kernel
theorem d_StringLatin1_charAt_7 : decode b_StringLatin1_charAt 7 = .ok (.iload_n 1, 1) := by decide +kernel
theorem d_StringLatin1_charAt_8 : decode b_StringLatin1_charAt 8 = .ok (.baload, 1) := by decide +kernel
theorem d_StringLatin1_charAt_9 : decode b_StringLatin1_charAt 9 = .ok (.sipush 255, 3) := by decide +kernel
theorem d_StringLatin1_charAt_12 : decode b_StringLatin1_charAt 12 = .ok (.iand, 1) := by decide +kernel
theorem d_StringLatin1_charAt_13 : decode b_StringLatin1_charAt 13 = .ok (.i2c, 1) := by decide +kernel
theorem d_StringLatin1_charAt_14 : decode b_StringLatin1_charAt 14 = .ok (.ireturn, 1) := by decide +kernel
def mt_String_charAt : Mt := ("java/lang/String", b_String_charAt, 2, some .char, 8, SHx)
theorem d_String_charAt_0 : decode b_String_charAt 0 = .ok (.aload_n 0, 1) := by decide +kernel
theorem d_String_charAt_1 : decode b_String_charAt 1 = .ok (.invokevirtual 492, 3) := by decide +kernel
theorem d_String_charAt_4 : decode b_String_charAt 4 = .ok (.ifCond .eq 12, 3) := by decide +kernel
theorem d_String_charAt_7 : decode b_String_charAt 7 = .ok (.aload_n 0, 1) := by decide +kernel
theorem d_String_charAt_8 : decode b_String_charAt 8 = .ok (.getfield 9, 3) := by decide +kernel
theorem d_String_charAt_11 : decode b_String_charAt 11 = .ok (.iload_n 1, 1) := by decide +kernel
theorem d_String_charAt_12 : decode b_String_charAt 12 = .ok (.invokestatic 495, 3) := by decide +kernel
theorem d_String_charAt_15 : decode b_String_charAt 15 = .ok (.ireturn, 1) := by decide +kernel
theorem d_String_charAt_16 : decode b_String_charAt 16 = .ok (.aload_n 0, 1) := by decide +kernel
theorem d_String_charAt_17 : decode b_String_charAt 17 = .ok (.getfield 9, 3) := by decide +kernel
theorem d_String_charAt_20 : decode b_String_charAt 20 = .ok (.iload_n 1, 1) := by decide +kernel
theorem d_String_charAt_21 : decode b_String_charAt 21 = .ok (.invokestatic 498, 3) := by decide +kernel
theorem d_String_charAt_24 : decode b_String_charAt 24 = .ok (.ireturn, 1) := by decide +kernel
theorem cV_String_335 : CV "java/lang/String" 335 y_String_coder := ⟨tb_2 142 (by decide +kernel) rfl, im_String_coder, se_String_coder, ini_String⟩
theorem cV_String_492 : CV "java/lang/String" 492 y_String_isLatin1 := ⟨tb_2 152 (by decide +kernel) rfl, im_String_isLatin1, se_String_isLatin1, ini_String⟩
theorem cS_String_495 : CS "java/lang/String" 495 y_StringLatin1_charAt := ⟨tb_2 156 (by decide +kernel) rfl, st_StringLatin1_charAt, ini_StringLatin1⟩
theorem cS_StringLatin1_9 : CS "java/lang/StringLatin1" 9 y_String_checkIndex := ⟨tb_2 159 (by decide +kernel) rfl, st_String_checkIndex, ini_String⟩
theorem cS_String_1059 : CS "java/lang/String" 1059 y_Precond_checkIndex := ⟨tb_2 164 (by decide +kernel) rfl, st_Precond_checkIndex, ini_Precond⟩
theorem dn_String_coder : Dn y_String_coder 0 := ⟨by decide +kernel, by decide +kernel, by decide +kernel⟩
theorem dn_String_isLatin1 : Dn y_String_isLatin1 0 := ⟨by decide +kernel, by decide +kernel, by decide +kernel⟩
theorem dn_StringLatin1_charAt : Dn y_StringLatin1_charAt 2 := ⟨by decide +kernel, by decide +kernel, by decide +kernel⟩
theorem dn_String_checkIndex : Dn y_String_checkIndex 2 := ⟨by decide +kernel, by decide +kernel, by decide +kernel⟩
theorem dn_Precond_checkIndex : Dn y_Precond_checkIndex 3 := ⟨by decide +kernel, by decide +kernel, by decide +kernel⟩
set_option maxRecDepth 20000 in
theorem C_String_coder (k : Nat) (hk : k < 7) (M : Mem) : Ct y_String_coder mt_String_coder wI [.ref (210 + k)] M (some (0, M)) := by
  refine ct_of (by decide +kernel) rfl (Nat.le_of_ble_eq_true rfl) ?_
  refine j_compact (pc := 0) d_String_coder_0 rfl ?_
  show J _ _ _ _ _ _ (if (1 : Int32) = 0 then none else some (0, M))
  refine j_if_eq (pc := 3) (tgt := 13) d_String_coder_3 (by decide) (fun _ => j_none) (fun _ => ?_)
  refine j_aload_n (pc := 6) (q := 0) d_String_coder_6 rfl rfl ?_
  refine j_strCoder (pc := 7) d_String_coder_7 rfl hk ?_
  refine j_goto (pc := 10) (tgt := 14) d_String_coder_10 (by decide) ?_
  exact j_zreturn (pc := 14) d_String_coder_14 rfl rfl
set_option maxRecDepth 20000 in
theorem C_String_isLatin1 (k : Nat) (hk : k < 7) (M : Mem) : Ct y_String_isLatin1 mt_String_isLatin1 wI [.ref (210 + k)] M (some (1, M)) := by
  refine ct_of (by decide +kernel) rfl (Nat.le_of_ble_eq_true rfl) ?_
  refine j_compact (pc := 0) d_String_isLatin1_0 rfl ?_
  show J _ _ _ _ _ _ (if (1 : Int32) = 0 then none else if (0 : Int32) = 0 then some (1, M) else none)
  refine j_if_eq (pc := 3) (tgt := 17) d_String_isLatin1_3 (by decide) (fun _ => j_none) (fun _ => ?_)
  refine j_aload_n (pc := 6) (q := 0) d_String_isLatin1_6 rfl rfl ?_
  refine j_strCoder (pc := 7) d_String_isLatin1_7 rfl hk ?_
  refine j_if_ne (pc := 10) (tgt := 17) d_String_isLatin1_10 (by decide) (fun _ => j_none) (fun _ => ?_)
  refine j_iconst (pc := 13) d_String_isLatin1_13 k_i_1 ?_
  refine j_goto (pc := 14) (tgt := 18) d_String_isLatin1_14 (by decide) ?_
  exact j_zreturn (pc := 18) d_String_isLatin1_18 rfl rfl
set_option maxRecDepth 20000 in
theorem C_String_length (k : Nat) (hk : k < 7) (M : Mem) : Ct y_String_length mt_String_length wI [.ref (210 + k)] M (some (nI (stLen.getD k 0) >>> ((0 : Int32) &&& 31), M)) := by
  refine ct_of (by decide +kernel) rfl (Nat.le_of_ble_eq_true rfl) ?_
  refine j_aload_n (pc := 0) (q := 0) d_String_length_0 rfl rfl ?_
  refine j_strValue (pc := 1) d_String_length_1 rfl hk ?_
  refine j_strLen (pc := 4) d_String_length_4 hk ?_
  refine j_aload_n (pc := 5) (q := 0) d_String_length_5 rfl rfl ?_
  show J _ _ _ _ _ _ (bd (some ((0 : Int32), M)) (fun r N => some (nI (stLen.getD k 0) >>> (r &&& 31), N)))
  refine j_callVS0 (pc := 6) d_String_length_6 (C_String_coder k hk M) cV_String_335 cd_String_coder dn_String_coder rfl (by decide) (Nat.le_of_ble_eq_true rfl) (Nat.le_of_ble_eq_true rfl) nr_I hk rfl (fun r N => ?_)
  refine j_ishr (pc := 9) d_String_length_9 ?_
  exact j_ireturn (pc := 10) d_String_length_10 rfl
set_option maxRecDepth 20000 in
theorem C_Precond_checkIndex (i : Int32) (n : Nat) (hn : n < 1000) (hin : vp_in i n) (v : Value) (hv : v.category = 1) (M : Mem) : Ct y_Precond_checkIndex mt_Precond_checkIndex wI [.int i, .int (nI n), v] M (some (i, M)) := by
  have hl : lv_args 0 [.int i, .int (nI n), v] = [(0, .int i), (1, .int (nI n)), (2, v)] := rfl
  refine ct_of (by decide +kernel) rfl ?_ ?_
  · have : (lg_sl [.int i, .int (nI n), v]).length = 3 := by simp [lg_sl, hv]; rfl
    rw [this]; exact (Nat.le_of_ble_eq_true rfl)
  rw [hl]
  have h0 : ¬ i < 0 := fun h => hin (Or.inl h)
  have h1 : i < nI n := by
    obtain ⟨j, hj, rfl⟩ := vp_in_of hin (by omega)
    exact nI_lt hj (by omega)
  have e : (some (i, M) : Option (Int32 × Mem)) = (if i < 0 then none else if i < nI n then some (i, M) else none) := by rw [if_neg h0, if_pos h1]
  rw [e]
  refine j_iload_n (pc := 0) (q := 0) d_Precond_checkIndex_0 rfl rfl ?_
  refine j_if_lt (pc := 1) (tgt := 9) d_Precond_checkIndex_1 (by decide) (fun _ => j_none) (fun _ => ?_)
  refine j_iload_n (pc := 4) (q := 0) d_Precond_checkIndex_4 rfl rfl ?_
  refine j_iload_n (pc := 5) (q := 1) d_Precond_checkIndex_5 rfl rfl ?_
  refine j_icmp_lt (pc := 6) (tgt := 16) d_Precond_checkIndex_6 (by decide) (fun _ => ?_) (fun _ => j_none)
  refine j_iload_n (pc := 16) (q := 0) d_Precond_checkIndex_16 rfl rfl ?_
  exact j_ireturn (pc := 17) d_Precond_checkIndex_17 rfl
set_option maxRecDepth 20000 in
theorem C_String_checkIndex (i : Int32) (n : Nat) (hn : n < 1000) (hin : vp_in i n) (M : Mem) : Ct y_String_checkIndex mt_String_checkIndex wU [.int i, .int (nI n)] M (some ((), M)) := by
  refine ct_of (by decide +kernel) rfl (Nat.le_of_ble_eq_true rfl) ?_
  refine j_iload_n (pc := 0) (q := 0) d_String_checkIndex_0 rfl rfl ?_
  refine j_iload_n (pc := 1) (q := 1) d_String_checkIndex_1 rfl rfl ?_
  show J _ _ _ _ _ _ (bd (some (i, M)) (fun _ N => some ((), N)))
  refine j_form (pc := 2) d_String_checkIndex_2 rfl ?_ ?_
  · refine j_callS3 (pc := 5) d_String_checkIndex_5 (C_Precond_checkIndex i n hn hin (.null) rfl M) cS_String_1059 cd_Precond_checkIndex dn_Precond_checkIndex rfl (by decide) (Nat.le_of_ble_eq_true rfl) (Nat.le_of_ble_eq_true rfl) nr_I (fun r N => ?_)
    refine j_pop (pc := 8) d_String_checkIndex_8 rfl ?_
    exact j_return (pc := 9) d_String_checkIndex_9 rfl
  · refine j_callS3 (pc := 5) d_String_checkIndex_5 (C_Precond_checkIndex i n hn hin (.ref 230) rfl M) cS_String_1059 cd_Precond_checkIndex dn_Precond_checkIndex rfl (by decide) (Nat.le_of_ble_eq_true rfl) (Nat.le_of_ble_eq_true rfl) nr_I (fun r N => ?_)
    refine j_pop (pc := 8) d_String_checkIndex_8 rfl ?_
    exact j_return (pc := 9) d_String_checkIndex_9 rfl
theorem k_s_255 : (Int16.ofInt 255).toInt32 = 255 := by decide
set_option maxRecDepth 20000 in
theorem C_StringLatin1_charAt (k : Nat) (hk : k < 7) (i : Int32) (hin : vp_in i (stLen.getD k 0)) (M : Mem) : Ct y_StringLatin1_charAt mt_StringLatin1_charAt wI [.ref (220 + k), .int i] M (some ((((stByt.getD k []).getD i.toNatClampNeg 0 &&& 255).toUInt32 % 65536).toInt32, M)) := by
  have hlen : stLen.getD k 0 < 1000 := by
    match k, hk with
    | 0, _ => decide
    | 1, _ => decide
    | 2, _ => decide
    | 3, _ => decide
    | 4, _ => decide
    | 5, _ => decide
    | 6, _ => decide
  refine ct_of (by decide +kernel) rfl (Nat.le_of_ble_eq_true rfl) ?_
  refine j_iload_n (pc := 0) (q := 1) d_StringLatin1_charAt_0 rfl rfl ?_
  refine j_aload_n (pc := 1) (q := 0) d_StringLatin1_charAt_1 rfl rfl ?_
  refine j_strLen (pc := 2) d_StringLatin1_charAt_2 hk ?_
  show J _ _ _ _ _ _ (bd (some ((), M)) (fun _ N => some ((((stByt.getD k []).getD i.toNatClampNeg 0 &&& 255).toUInt32 % 65536).toInt32, N)))
  refine j_callS2 (pc := 3) d_StringLatin1_charAt_3 (C_String_checkIndex i _ hlen hin M) cS_StringLatin1_9 cd_String_checkIndex dn_String_checkIndex rfl (by decide) (Nat.le_of_ble_eq_true rfl) (Nat.le_of_ble_eq_true rfl) nr_U (fun r N => ?_)
  refine j_aload_n (pc := 6) (q := 0) d_StringLatin1_charAt_6 rfl rfl ?_
  refine j_iload_n (pc := 7) (q := 1) d_StringLatin1_charAt_7 rfl rfl ?_
  refine j_strByte (pc := 8) d_StringLatin1_charAt_8 hk hin ?_
  refine j_sipush (pc := 9) d_StringLatin1_charAt_9 k_s_255 ?_
  refine j_iand (pc := 12) d_StringLatin1_charAt_12 ?_
  refine j_i2c (pc := 13) d_StringLatin1_charAt_13 ?_
  exact j_zreturn (pc := 14) d_StringLatin1_charAt_14 rfl (pk_nc _)
def zc (x : Int32) (M : Mem) : Option (Int32 × Mem) := if x = (x.toUInt32 % 65536).toInt32 then some (x, M) else none
theorem j_zc {mt : Mt} {pc : Nat} {lv : List (Nat × Value)} {M : Mem} {x : Int32} (hd : decode mt.2.1 pc = .ok (.ireturn, 1)) (hrt : mt.2.2.2.1 = some .char) : J mt wI pc lv [.int x] M (zc x M) := by
  unfold zc
  by_cases h : x = (x.toUInt32 % 65536).toInt32
  · rw [if_pos h]
    refine j_zreturn hd hrt ?_
    rw [h]
    exact pk_nc _
  · rw [if_neg h]; exact j_none
def X_charAt (k : Nat) (i : Int32) (M : Mem) : Option (Int32 × Mem) := gd i (stLen.getD k 0) (zc ((((stByt.getD k []).getD i.toNatClampNeg 0 &&& 255).toUInt32 % 65536).toInt32) M)
set_option maxRecDepth 20000 in
theorem C_String_charAt (k : Nat) (hk : k < 7) (i : Int32) (M : Mem) : Ct y_String_charAt mt_String_charAt wI [.ref (210 + k), .int i] M (X_charAt k i M) := by
  unfold X_charAt gd
  by_cases hin : i < 0 ∨ stLen.getD k 0 ≤ i.toNatClampNeg
  · rw [if_pos hin]; intro r M2 h; cases h
  rw [if_neg hin]
  refine ct_of (by decide +kernel) rfl (Nat.le_of_ble_eq_true rfl) ?_
  refine j_aload_n (pc := 0) (q := 0) d_String_charAt_0 rfl rfl ?_
  show J _ _ _ _ _ _ (bd (some ((1 : Int32), M)) (fun r N => if r = 0 then none else bd (some ((((stByt.getD k []).getD i.toNatClampNeg 0 &&& 255).toUInt32 % 65536).toInt32, N)) (fun r N => zc r N)))
  refine j_callVS0 (pc := 1) d_String_charAt_1 (C_String_isLatin1 k hk M) cV_String_492 cd_String_isLatin1 dn_String_isLatin1 rfl (by decide) (Nat.le_of_ble_eq_true rfl) (Nat.le_of_ble_eq_true rfl) nr_I hk rfl (fun r N => ?_)
  refine j_if_eq (pc := 4) (tgt := 16) d_String_charAt_4 (by decide) (fun _ => j_none) (fun _ => ?_)
  refine j_aload_n (pc := 7) (q := 0) d_String_charAt_7 rfl rfl ?_
  refine j_strValue (pc := 8) d_String_charAt_8 rfl hk ?_
  refine j_iload_n (pc := 11) (q := 1) d_String_charAt_11 rfl rfl ?_
  refine j_callS2 (pc := 12) d_String_charAt_12 (C_StringLatin1_charAt k hk i hin N) cS_String_495 cd_StringLatin1_charAt dn_StringLatin1_charAt rfl (by decide) (Nat.le_of_ble_eq_true rfl) (Nat.le_of_ble_eq_true rfl) nr_I (fun r N => ?_)
  exact j_zc (pc := 15) d_String_charAt_15 rfl
