/-! the constructors -/
theorem xw_1 : Cond.methodLink "ChantryRolls" 1 objectInit ∈ qAW := qw 97 (by decide +kernel) rfl
theorem xw_2 : Cond.instanceMethod objectInit ∈ qAW := qw 98 (by decide +kernel) rfl
theorem xw_3 : Cond.code objectInit ⟨#[0xb1]⟩ 1 none ∈ qAW := qw 99 (by decide +kernel) rfl
theorem xw_4 : Cond.classLink "ChantryRolls" 7 "ChantryRolls$Sheets" ∈ qAW := qw 100 (by decide +kernel) rfl
theorem xw_5 : Cond.instantiable "ChantryRolls$Sheets" 3 ∈ qAW := qw 101 (by decide +kernel) rfl
theorem xw_6 : Cond.initialized "ChantryRolls$Sheets" ∈ qAW := qw 72 (by decide +kernel) rfl
theorem xw_7 : Cond.methodLink "ChantryRolls$Sheets" 1 objectInit ∈ qAW := qw 105 (by decide +kernel) rfl
theorem xw_8 : Cond.arrayClass .int ∈ qAW := qw 121 (by decide +kernel) rfl
theorem xw_9 : Cond.fieldLink "ChantryRolls$Sheets" 9 "ChantryRolls$Sheets" "lanes" "[I" ∈ qAW := qw 111 (by decide +kernel) rfl
theorem xw_10 : Cond.fieldLink "ChantryRolls$Sheets" 13 "ChantryRolls$Sheets" "sizes" "[I" ∈ qAW := qw 112 (by decide +kernel) rfl
theorem xw_11 : Cond.classLink "ChantryRolls$Sheets" 16 "[[I" ∈ qAW := qw 106 (by decide +kernel) rfl
theorem xw_12 : Cond.fieldLink "ChantryRolls$Sheets" 18 "ChantryRolls$Sheets" "items" "[[I" ∈ qAW := qw 113 (by decide +kernel) rfl
theorem xw_13 : Cond.methodLink "ChantryRolls$Sheets" 21 y_Ar_fill ∈ qAW := qw 108 (by decide +kernel) rfl
theorem xw_14 : Cond.static y_Ar_fill ∈ qAW := qw 109 (by decide +kernel) rfl
theorem xw_15 : Cond.initialized "java/util/Arrays" ∈ qAW := qw 73 (by decide +kernel) rfl
theorem xw_16 : Cond.code y_Ar_fill prog_21_method_103_code 4 none ∈ qAW := qw 110 (by decide +kernel) rfl
theorem d_Sheets_init_0 : qd prog_11_method_1_code 0 (.aload_n 0) 1 1 := by decide +kernel
theorem d_Sheets_init_1 : qd prog_11_method_1_code 1 (.invokespecial 1) 3 4 := by decide +kernel
theorem d_Sheets_init_4 : qd prog_11_method_1_code 4 (.aload_n 0) 1 5 := by decide +kernel
theorem d_Sheets_init_5 : qd prog_11_method_1_code 5 (.bipush 8) 2 7 := by decide +kernel
theorem d_Sheets_init_7 : qd prog_11_method_1_code 7 (.newarray .int) 2 9 := by decide +kernel
theorem d_Sheets_init_9 : qd prog_11_method_1_code 9 (.putfield 9) 3 12 := by decide +kernel
theorem d_Sheets_init_12 : qd prog_11_method_1_code 12 (.aload_n 0) 1 13 := by decide +kernel
theorem d_Sheets_init_13 : qd prog_11_method_1_code 13 (.bipush 8) 2 15 := by decide +kernel
theorem d_Sheets_init_15 : qd prog_11_method_1_code 15 (.newarray .int) 2 17 := by decide +kernel
theorem d_Sheets_init_17 : qd prog_11_method_1_code 17 (.putfield 13) 3 20 := by decide +kernel
theorem d_Sheets_init_20 : qd prog_11_method_1_code 20 (.aload_n 0) 1 21 := by decide +kernel
theorem d_Sheets_init_21 : qd prog_11_method_1_code 21 (.bipush 8) 2 23 := by decide +kernel
theorem d_Sheets_init_23 : qd prog_11_method_1_code 23 (.bipush 60) 2 25 := by decide +kernel
theorem d_Sheets_init_25 : qd prog_11_method_1_code 25 (.multianewarray 16 2) 4 29 := by decide +kernel
theorem d_Sheets_init_29 : qd prog_11_method_1_code 29 (.putfield 18) 3 32 := by decide +kernel
theorem d_Sheets_init_32 : qd prog_11_method_1_code 32 (.aload_n 0) 1 33 := by decide +kernel
theorem d_Sheets_init_33 : qd prog_11_method_1_code 33 (.getfield 9) 3 36 := by decide +kernel
theorem d_Sheets_init_36 : qd prog_11_method_1_code 36 (.iconst (-1)) 1 37 := by decide +kernel
theorem d_Sheets_init_37 : qd prog_11_method_1_code 37 (.invokestatic 21) 3 40 := by decide +kernel
theorem d_Sheets_init_40 : qd prog_11_method_1_code 40 (.return_) 1 41 := by decide +kernel
theorem b_Sheets_init_1 {ρ : qRf} {σ : qMem} (hb : qbl 2 ρ σ) : qbl 13 (qru (qrn (qru (qru ρ 1 0 (some 2)) 1 1 (some 3)) 4) 1 2 (some 4)) (qfl σ 2 8 (-1 : Int32)) := by
  have hb1 := qbl_up hb (Nat.le_succ 2)
  have hb2 := qbl_ru (k := 1) (j := 0) (v := some 2) hb1 (by decide)
  have hb3 := qbl_up hb2 (Nat.le_succ 3)
  have hb4 := qbl_ru (k := 1) (j := 1) (v := some 3) hb3 (by decide)
  have hb5 := qbl_rm (n0 := 4) (qbl_up (n' := 13) hb4 (by decide)) (by decide)
  have hb6 := qbl_ru (k := 1) (j := 2) (v := some 4) hb5 (by decide)
  have hb7 := qbl_fl (k := 2) (n1 := 8) (v := (-1 : Int32)) hb6 (by decide)
  exact hb7
set_option maxHeartbeats 4000000 in
set_option maxRecDepth 20000 in
theorem k_Sheets_init_1 (l : Launch) (G : qG) (hA : qAd G) (f : Nat) (hf : 1000 ≤ f) (ρ : qRf) (σ : qMem) (hb : qbl 2 ρ σ) : qCt l y_Sheets_init prog_11_method_1_code 1 none 2 G (qKS.take 2) ρ σ [.ref 1] none (qKS.take 13) (qru (qrn (qru (qru ρ 1 0 (some 2)) 1 1 (some 3)) 4) 1 2 (some 4)) (qfl σ 2 8 (-1 : Int32)) 11 504 := by
  refine qCt.of (lv := [some (.ref 1)]) (by decide) hA (Nat.le_of_ble_eq_true rfl) rfl ?_
  intro X hl hcc hss hni hX hT
  subst hl
  refine q_aload_n hX d_Sheets_init_0 rfl ?_
  refine q_objInit hX xw_7 xw_2 xw_3 (by decide) (Nat.le_of_ble_eq_true rfl) d_Sheets_init_1 ?_
  refine q_aload_n hX d_Sheets_init_4 rfl ?_
  refine q_bipush hX (v := (8 : Int32)) d_Sheets_init_5 (by decide +kernel) ?_
  refine q_newa hX (atype := .int) (ty := .int) (tg := 100) (N := 8) (n := 2) (t0 := 0) (ks' := (qKS.take 3)) rfl rfl (by decide) xw_8 (by decide) (by decide +kernel) (by decide) rfl (by decide) (hb.2 _ (Nat.le_refl _)) (by decide) ⟨by rw [hcc]; decide, by rw [hss]; decide⟩ d_Sheets_init_7 ?_
  have hb1 := qbl_up hb (Nat.le_succ 2)
  refine q_putR hX (hni rfl) (c := 1) (j := 0) (n := 3) (C := qR1) (T := qT1) rfl (by decide) rfl xw_9 rfl rfl (by decide) (by decide) d_Sheets_init_9 ?_
  have hb2 := qbl_ru (k := 1) (j := 0) (v := some 2) hb1 (by decide)
  refine q_aload_n hX d_Sheets_init_12 rfl ?_
  refine q_bipush hX (v := (8 : Int32)) d_Sheets_init_13 (by decide +kernel) ?_
  refine q_newa hX (atype := .int) (ty := .int) (tg := 100) (N := 8) (n := 3) (t0 := 0) (ks' := (qKS.take 4)) rfl rfl (by decide) xw_8 (by decide) (by decide +kernel) (by decide) rfl (by decide) (hb2.2 _ (Nat.le_refl _)) (by decide) ⟨by rw [hcc]; decide, by rw [hss]; decide⟩ d_Sheets_init_15 ?_
  have hb3 := qbl_up hb2 (Nat.le_succ 3)
  refine q_putR hX (hni rfl) (c := 1) (j := 1) (n := 3) (C := qR1) (T := qT1) rfl (by decide) rfl xw_10 rfl rfl (by decide) (by decide) d_Sheets_init_17 ?_
  have hb4 := qbl_ru (k := 1) (j := 1) (v := some 3) hb3 (by decide)
  refine q_aload_n hX d_Sheets_init_20 rfl ?_
  refine q_bipush hX (v := (8 : Int32)) d_Sheets_init_21 (by decide +kernel) ?_
  refine q_bipush hX (v := (60 : Int32)) d_Sheets_init_23 (by decide +kernel) ?_
  refine q_mna hX (N := 8) (M := 60) (n := 4) (ks' := (qKS.take 13)) xw_11 xw_8 (by decide) (by decide) (by decide +kernel) (by decide +kernel) (by decide) (by decide) rfl (by decide) hb4.2 (by decide) ⟨by rw [hcc]; decide, by rw [hss]; decide⟩ d_Sheets_init_25 ?_
  have hb5 := qbl_rm (n0 := 4) (qbl_up (n' := 13) hb4 (by decide)) (by decide)
  refine q_putR hX (hni rfl) (c := 1) (j := 2) (n := 3) (C := qR1) (T := qT1) rfl (by decide) rfl xw_12 rfl rfl (by decide) (by decide) d_Sheets_init_29 ?_
  have hb6 := qbl_ru (k := 1) (j := 2) (v := some 4) hb5 (by decide)
  refine q_aload_n hX d_Sheets_init_32 rfl ?_
  refine q_getR hX (c := 1) (j := 0) (n := 3) (t := 2) ⟨qR1, qT1, rfl, by decide, rfl, xw_9, rfl⟩ (by decide) (by simp [qru, qrn]) d_Sheets_init_33 ?_
  refine q_iconst hX (v := (-1 : Int32)) d_Sheets_init_36 (by decide +kernel) ?_
  refine q_callS hX (n := 2) (r := none) (c_fillG X.l G hX.ad f hf (ks := (qKS.take 13)) (by decide) (k := 2) (n := 8) (by decide) (by decide) (-1 : Int32)) ⟨⟨xw_13, xw_14, xw_15, xw_16⟩, ⟨by decide +kernel, by decide +kernel, by decide +kernel⟩, by decide⟩ rfl (Nat.le_of_ble_eq_true rfl) rfl (Nat.le_of_ble_eq_true rfl) ⟨by rw [hcc]; decide, by rw [hss]; decide⟩ d_Sheets_init_37 ?_
  have hb7 := qbl_fl (k := 2) (n1 := 8) (v := (-1 : Int32)) hb6 (by decide)
  exact q_vret hX hT d_Sheets_init_40
theorem xw_17 : Cond.instanceMethod y_Sheets_init ∈ qAW := qw 103 (by decide +kernel) rfl
theorem xw_18 : Cond.code y_Sheets_init prog_11_method_1_code 1 none ∈ qAW := qw 104 (by decide +kernel) rfl
theorem xw_19 : Cond.methodLink "ChantryRolls" 9 y_Sheets_init ∈ qAW := qw 102 (by decide +kernel) rfl
theorem xw_20 : Cond.fieldLink "ChantryRolls" 10 "ChantryRolls" "sheets" "LChantryRolls$Sheets;" ∈ qAW := qw 390 (by decide +kernel) rfl
theorem xw_21 : Cond.classLink "ChantryRolls" 16 "ChantryRolls$Promises" ∈ qAW := qw 122 (by decide +kernel) rfl
theorem xw_22 : Cond.instantiable "ChantryRolls$Promises" 2 ∈ qAW := qw 123 (by decide +kernel) rfl
theorem xw_23 : Cond.initialized "ChantryRolls$Promises" ∈ qAW := qw 74 (by decide +kernel) rfl
theorem xw_24 : Cond.methodLink "ChantryRolls$Promises" 3 objectInit ∈ qAW := qw 127 (by decide +kernel) rfl
theorem xw_25 : Cond.classLink "ChantryRolls$Promises" 9 "[[I" ∈ qAW := qw 128 (by decide +kernel) rfl
theorem xw_26 : Cond.fieldLink "ChantryRolls$Promises" 11 "ChantryRolls$Promises" "rows" "[[I" ∈ qAW := qw 129 (by decide +kernel) rfl
theorem xw_27 : Cond.fieldLink "ChantryRolls$Promises" 16 "ChantryRolls$Promises" "there" "I" ∈ qAW := qw 130 (by decide +kernel) rfl
theorem d_Promises_init_0 : qd prog_10_method_1_code 0 (.aload_n 0) 1 1 := by decide +kernel
theorem d_Promises_init_1 : qd prog_10_method_1_code 1 (.invokespecial 3) 3 4 := by decide +kernel
theorem d_Promises_init_4 : qd prog_10_method_1_code 4 (.aload_n 0) 1 5 := by decide +kernel
theorem d_Promises_init_5 : qd prog_10_method_1_code 5 (.bipush 12) 2 7 := by decide +kernel
theorem d_Promises_init_7 : qd prog_10_method_1_code 7 (.bipush 11) 2 9 := by decide +kernel
theorem d_Promises_init_9 : qd prog_10_method_1_code 9 (.multianewarray 9 2) 4 13 := by decide +kernel
theorem d_Promises_init_13 : qd prog_10_method_1_code 13 (.putfield 11) 3 16 := by decide +kernel
theorem d_Promises_init_16 : qd prog_10_method_1_code 16 (.aload_n 0) 1 17 := by decide +kernel
theorem d_Promises_init_17 : qd prog_10_method_1_code 17 (.iconst 0) 1 18 := by decide +kernel
theorem d_Promises_init_18 : qd prog_10_method_1_code 18 (.putfield 16) 3 21 := by decide +kernel
theorem d_Promises_init_21 : qd prog_10_method_1_code 21 (.return_) 1 22 := by decide +kernel
theorem b_Promises_init_13 {ρ : qRf} {σ : qMem} (hb : qbl 14 ρ σ) : qbl 27 (qru (qrn ρ 14) 13 0 (some 14)) (qmu σ 13 1 (0 : Int32)) := by
  have hb1 := qbl_rm (n0 := 14) (qbl_up (n' := 27) hb (by decide)) (by decide)
  have hb2 := qbl_ru (k := 13) (j := 0) (v := some 14) hb1 (by decide)
  have hb3 := qbl_mu (k := 13) (j := 1) (v := (0 : Int32)) hb2 (by decide)
  exact hb3
set_option maxHeartbeats 4000000 in
set_option maxRecDepth 20000 in
theorem k_Promises_init_13 (l : Launch) (G : qG) (hA : qAd G) (f : Nat) (hf : 1000 ≤ f) (ρ : qRf) (σ : qMem) (hb : qbl 14 ρ σ) : qCt l y_Promises_init prog_10_method_1_code 1 none 1 G (qKS.take 14) ρ σ [.ref 13] none (qKS.take 27) (qru (qrn ρ 14) 13 0 (some 14)) (qmu σ 13 1 (0 : Int32)) 13 144 := by
  refine qCt.of (lv := [some (.ref 13)]) (by decide) hA (Nat.le_of_ble_eq_true rfl) rfl ?_
  intro X hl hcc hss hni hX hT
  subst hl
  refine q_aload_n hX d_Promises_init_0 rfl ?_
  refine q_objInit hX xw_24 xw_2 xw_3 (by decide) (Nat.le_of_ble_eq_true rfl) d_Promises_init_1 ?_
  refine q_aload_n hX d_Promises_init_4 rfl ?_
  refine q_bipush hX (v := (12 : Int32)) d_Promises_init_5 (by decide +kernel) ?_
  refine q_bipush hX (v := (11 : Int32)) d_Promises_init_7 (by decide +kernel) ?_
  refine q_mna hX (N := 12) (M := 11) (n := 14) (ks' := (qKS.take 27)) xw_25 xw_8 (by decide) (by decide) (by decide +kernel) (by decide +kernel) (by decide) (by decide) rfl (by decide) hb.2 (by decide) ⟨by rw [hcc]; decide, by rw [hss]; decide⟩ d_Promises_init_9 ?_
  have hb1 := qbl_rm (n0 := 14) (qbl_up (n' := 27) hb (by decide)) (by decide)
  refine q_putR hX (hni rfl) (c := 2) (j := 0) (n := 2) (C := qR2) (T := qT2) rfl (by decide) rfl xw_26 rfl rfl (by decide) (by decide) d_Promises_init_13 ?_
  have hb2 := qbl_ru (k := 13) (j := 0) (v := some 14) hb1 (by decide)
  refine q_aload_n hX d_Promises_init_16 rfl ?_
  refine q_iconst hX (v := (0 : Int32)) d_Promises_init_17 (by decide +kernel) ?_
  refine q_putI hX (c := 2) (j := 1) (n := 2) ⟨qR2, qT2, rfl, by decide, rfl, xw_27, rfl⟩ (by decide) rfl (by decide) d_Promises_init_18 ?_
  have hb3 := qbl_mu (k := 13) (j := 1) (v := (0 : Int32)) hb2 (by decide)
  exact q_vret hX hT d_Promises_init_21
theorem xw_28 : Cond.instanceMethod y_Promises_init ∈ qAW := qw 125 (by decide +kernel) rfl
theorem xw_29 : Cond.code y_Promises_init prog_10_method_1_code 1 none ∈ qAW := qw 126 (by decide +kernel) rfl
theorem xn_C_18 : Cond.methodLinkNest "ChantryRolls" 18 y_Promises_init "ChantryRolls" ∈ qNW := List.mem_filter.mpr ⟨List.mem_of_getElem? (i := 124) (by decide +kernel), rfl⟩
theorem xw_30 : Cond.fieldLink "ChantryRolls" 19 "ChantryRolls" "promises" "LChantryRolls$Promises;" ∈ qAW := qw 391 (by decide +kernel) rfl
theorem xw_31 : Cond.classLink "ChantryRolls" 23 "ChantryRolls$Deeds" ∈ qAW := qw 136 (by decide +kernel) rfl
theorem xw_32 : Cond.instantiable "ChantryRolls$Deeds" 6 ∈ qAW := qw 137 (by decide +kernel) rfl
theorem xw_33 : Cond.initialized "ChantryRolls$Deeds" ∈ qAW := qw 75 (by decide +kernel) rfl
theorem xw_34 : Cond.methodLink "ChantryRolls$Deeds" 3 objectInit ∈ qAW := qw 141 (by decide +kernel) rfl
theorem xw_35 : Cond.arrayClass .byte ∈ qAW := qw 161 (by decide +kernel) rfl
theorem xw_36 : Cond.fieldLink "ChantryRolls$Deeds" 11 "ChantryRolls$Deeds" "bytes" "[B" ∈ qAW := qw 142 (by decide +kernel) rfl
theorem xw_37 : Cond.fieldLink "ChantryRolls$Deeds" 15 "ChantryRolls$Deeds" "length" "I" ∈ qAW := qw 143 (by decide +kernel) rfl
theorem xw_38 : Cond.fieldLink "ChantryRolls$Deeds" 19 "ChantryRolls$Deeds" "fault" "I" ∈ qAW := qw 144 (by decide +kernel) rfl
theorem xw_39 : Cond.fieldLink "ChantryRolls$Deeds" 22 "ChantryRolls$Deeds" "token" "I" ∈ qAW := qw 145 (by decide +kernel) rfl
theorem xw_40 : Cond.fieldLink "ChantryRolls$Deeds" 25 "ChantryRolls$Deeds" "tokenFrom" "I" ∈ qAW := qw 146 (by decide +kernel) rfl
theorem xw_41 : Cond.fieldLink "ChantryRolls$Deeds" 28 "ChantryRolls$Deeds" "tokenTo" "I" ∈ qAW := qw 147 (by decide +kernel) rfl
theorem d_Deeds_init_0 : qd prog_4_method_1_code 0 (.aload_n 0) 1 1 := by decide +kernel
theorem d_Deeds_init_1 : qd prog_4_method_1_code 1 (.invokespecial 3) 3 4 := by decide +kernel
theorem d_Deeds_init_4 : qd prog_4_method_1_code 4 (.aload_n 0) 1 5 := by decide +kernel
theorem d_Deeds_init_5 : qd prog_4_method_1_code 5 (.sipush 500) 3 8 := by decide +kernel
theorem d_Deeds_init_8 : qd prog_4_method_1_code 8 (.newarray .byte) 2 10 := by decide +kernel
theorem d_Deeds_init_10 : qd prog_4_method_1_code 10 (.putfield 11) 3 13 := by decide +kernel
theorem d_Deeds_init_13 : qd prog_4_method_1_code 13 (.aload_n 0) 1 14 := by decide +kernel
theorem d_Deeds_init_14 : qd prog_4_method_1_code 14 (.iconst 0) 1 15 := by decide +kernel
theorem d_Deeds_init_15 : qd prog_4_method_1_code 15 (.putfield 15) 3 18 := by decide +kernel
theorem d_Deeds_init_18 : qd prog_4_method_1_code 18 (.aload_n 0) 1 19 := by decide +kernel
theorem d_Deeds_init_19 : qd prog_4_method_1_code 19 (.iconst 0) 1 20 := by decide +kernel
theorem d_Deeds_init_20 : qd prog_4_method_1_code 20 (.putfield 19) 3 23 := by decide +kernel
theorem d_Deeds_init_23 : qd prog_4_method_1_code 23 (.aload_n 0) 1 24 := by decide +kernel
theorem d_Deeds_init_24 : qd prog_4_method_1_code 24 (.iconst 0) 1 25 := by decide +kernel
theorem d_Deeds_init_25 : qd prog_4_method_1_code 25 (.putfield 22) 3 28 := by decide +kernel
theorem d_Deeds_init_28 : qd prog_4_method_1_code 28 (.aload_n 0) 1 29 := by decide +kernel
theorem d_Deeds_init_29 : qd prog_4_method_1_code 29 (.iconst 0) 1 30 := by decide +kernel
theorem d_Deeds_init_30 : qd prog_4_method_1_code 30 (.putfield 25) 3 33 := by decide +kernel
theorem d_Deeds_init_33 : qd prog_4_method_1_code 33 (.aload_n 0) 1 34 := by decide +kernel
theorem d_Deeds_init_34 : qd prog_4_method_1_code 34 (.iconst 0) 1 35 := by decide +kernel
theorem d_Deeds_init_35 : qd prog_4_method_1_code 35 (.putfield 28) 3 38 := by decide +kernel
theorem d_Deeds_init_38 : qd prog_4_method_1_code 38 (.return_) 1 39 := by decide +kernel
theorem b_Deeds_init_27 {ρ : qRf} {σ : qMem} (hb : qbl 28 ρ σ) : qbl 29 (qru ρ 27 0 (some 28)) (qmu (qmu (qmu (qmu (qmu σ 27 1 (0 : Int32)) 27 2 (0 : Int32)) 27 3 (0 : Int32)) 27 4 (0 : Int32)) 27 5 (0 : Int32)) := by
  have hb1 := qbl_up hb (Nat.le_succ 28)
  have hb2 := qbl_ru (k := 27) (j := 0) (v := some 28) hb1 (by decide)
  have hb3 := qbl_mu (k := 27) (j := 1) (v := (0 : Int32)) hb2 (by decide)
  have hb4 := qbl_mu (k := 27) (j := 2) (v := (0 : Int32)) hb3 (by decide)
  have hb5 := qbl_mu (k := 27) (j := 3) (v := (0 : Int32)) hb4 (by decide)
  have hb6 := qbl_mu (k := 27) (j := 4) (v := (0 : Int32)) hb5 (by decide)
  have hb7 := qbl_mu (k := 27) (j := 5) (v := (0 : Int32)) hb6 (by decide)
  exact hb7
set_option maxHeartbeats 4000000 in
set_option maxRecDepth 20000 in
theorem k_Deeds_init_27 (l : Launch) (G : qG) (hA : qAd G) (f : Nat) (hf : 1000 ≤ f) (ρ : qRf) (σ : qMem) (hb : qbl 28 ρ σ) : qCt l y_Deeds_init prog_4_method_1_code 1 none 1 G (qKS.take 28) ρ σ [.ref 27] none (qKS.take 29) (qru ρ 27 0 (some 28)) (qmu (qmu (qmu (qmu (qmu σ 27 1 (0 : Int32)) 27 2 (0 : Int32)) 27 3 (0 : Int32)) 27 4 (0 : Int32)) 27 5 (0 : Int32)) 1 500 := by
  refine qCt.of (lv := [some (.ref 27)]) (by decide) hA (Nat.le_of_ble_eq_true rfl) rfl ?_
  intro X hl hcc hss hni hX hT
  subst hl
  refine q_aload_n hX d_Deeds_init_0 rfl ?_
  refine q_objInit hX xw_34 xw_2 xw_3 (by decide) (Nat.le_of_ble_eq_true rfl) d_Deeds_init_1 ?_
  refine q_aload_n hX d_Deeds_init_4 rfl ?_
  refine q_sipush hX (v := (500 : Int32)) d_Deeds_init_5 (by decide +kernel) ?_
  refine q_newa hX (atype := .byte) (ty := .byte) (tg := 101) (N := 500) (n := 28) (t0 := 1) (ks' := (qKS.take 29)) rfl rfl (by decide) xw_35 (by decide) (by decide +kernel) (by decide) rfl (by decide) (hb.2 _ (Nat.le_refl _)) (by decide) ⟨by rw [hcc]; decide, by rw [hss]; decide⟩ d_Deeds_init_8 ?_
  have hb1 := qbl_up hb (Nat.le_succ 28)
  refine q_putR hX (hni rfl) (c := 3) (j := 0) (n := 6) (C := qR3) (T := qT3) rfl (by decide) rfl xw_36 rfl rfl (by decide) (by decide) d_Deeds_init_10 ?_
  have hb2 := qbl_ru (k := 27) (j := 0) (v := some 28) hb1 (by decide)
  refine q_aload_n hX d_Deeds_init_13 rfl ?_
  refine q_iconst hX (v := (0 : Int32)) d_Deeds_init_14 (by decide +kernel) ?_
  refine q_putI hX (c := 3) (j := 1) (n := 6) ⟨qR3, qT3, rfl, by decide, rfl, xw_37, rfl⟩ (by decide) rfl (by decide) d_Deeds_init_15 ?_
  have hb3 := qbl_mu (k := 27) (j := 1) (v := (0 : Int32)) hb2 (by decide)
  refine q_aload_n hX d_Deeds_init_18 rfl ?_
  refine q_iconst hX (v := (0 : Int32)) d_Deeds_init_19 (by decide +kernel) ?_
  refine q_putI hX (c := 3) (j := 2) (n := 6) ⟨qR3, qT3, rfl, by decide, rfl, xw_38, rfl⟩ (by decide) rfl (by decide) d_Deeds_init_20 ?_
  have hb4 := qbl_mu (k := 27) (j := 2) (v := (0 : Int32)) hb3 (by decide)
  refine q_aload_n hX d_Deeds_init_23 rfl ?_
  refine q_iconst hX (v := (0 : Int32)) d_Deeds_init_24 (by decide +kernel) ?_
  refine q_putI hX (c := 3) (j := 3) (n := 6) ⟨qR3, qT3, rfl, by decide, rfl, xw_39, rfl⟩ (by decide) rfl (by decide) d_Deeds_init_25 ?_
  have hb5 := qbl_mu (k := 27) (j := 3) (v := (0 : Int32)) hb4 (by decide)
  refine q_aload_n hX d_Deeds_init_28 rfl ?_
  refine q_iconst hX (v := (0 : Int32)) d_Deeds_init_29 (by decide +kernel) ?_
  refine q_putI hX (c := 3) (j := 4) (n := 6) ⟨qR3, qT3, rfl, by decide, rfl, xw_40, rfl⟩ (by decide) rfl (by decide) d_Deeds_init_30 ?_
  have hb6 := qbl_mu (k := 27) (j := 4) (v := (0 : Int32)) hb5 (by decide)
  refine q_aload_n hX d_Deeds_init_33 rfl ?_
  refine q_iconst hX (v := (0 : Int32)) d_Deeds_init_34 (by decide +kernel) ?_
  refine q_putI hX (c := 3) (j := 5) (n := 6) ⟨qR3, qT3, rfl, by decide, rfl, xw_41, rfl⟩ (by decide) rfl (by decide) d_Deeds_init_35 ?_
  have hb7 := qbl_mu (k := 27) (j := 5) (v := (0 : Int32)) hb6 (by decide)
  exact q_vret hX hT d_Deeds_init_38
theorem xw_42 : Cond.instanceMethod y_Deeds_init ∈ qAW := qw 139 (by decide +kernel) rfl
theorem xw_43 : Cond.code y_Deeds_init prog_4_method_1_code 1 none ∈ qAW := qw 140 (by decide +kernel) rfl
theorem xn_C_25 : Cond.methodLinkNest "ChantryRolls" 25 y_Deeds_init "ChantryRolls" ∈ qNW := List.mem_filter.mpr ⟨List.mem_of_getElem? (i := 138) (by decide +kernel), rfl⟩
theorem xw_44 : Cond.fieldLink "ChantryRolls" 26 "ChantryRolls" "tape" "LChantryRolls$Deeds;" ∈ qAW := qw 392 (by decide +kernel) rfl
theorem xw_45 : Cond.classLink "ChantryRolls" 30 "ChantryRolls$Feasts" ∈ qAW := qw 162 (by decide +kernel) rfl
theorem xw_46 : Cond.instantiable "ChantryRolls$Feasts" 4 ∈ qAW := qw 163 (by decide +kernel) rfl
theorem xw_47 : Cond.initialized "ChantryRolls$Feasts" ∈ qAW := qw 76 (by decide +kernel) rfl
theorem xw_48 : Cond.methodLink "ChantryRolls$Feasts" 1 objectInit ∈ qAW := qw 167 (by decide +kernel) rfl
theorem xw_49 : Cond.fieldLink "ChantryRolls$Feasts" 9 "ChantryRolls$Feasts" "days" "[I" ∈ qAW := qw 168 (by decide +kernel) rfl
theorem xw_50 : Cond.fieldLink "ChantryRolls$Feasts" 13 "ChantryRolls$Feasts" "ranks" "[I" ∈ qAW := qw 169 (by decide +kernel) rfl
theorem xw_51 : Cond.fieldLink "ChantryRolls$Feasts" 16 "ChantryRolls$Feasts" "kept" "I" ∈ qAW := qw 170 (by decide +kernel) rfl
theorem xw_52 : Cond.fieldLink "ChantryRolls$Feasts" 20 "ChantryRolls$Feasts" "told" "I" ∈ qAW := qw 171 (by decide +kernel) rfl
theorem d_Feasts_init_0 : qd prog_5_method_1_code 0 (.aload_n 0) 1 1 := by decide +kernel
theorem d_Feasts_init_1 : qd prog_5_method_1_code 1 (.invokespecial 1) 3 4 := by decide +kernel
theorem d_Feasts_init_4 : qd prog_5_method_1_code 4 (.aload_n 0) 1 5 := by decide +kernel
theorem d_Feasts_init_5 : qd prog_5_method_1_code 5 (.bipush 30) 2 7 := by decide +kernel
theorem d_Feasts_init_7 : qd prog_5_method_1_code 7 (.newarray .int) 2 9 := by decide +kernel
theorem d_Feasts_init_9 : qd prog_5_method_1_code 9 (.putfield 9) 3 12 := by decide +kernel
theorem d_Feasts_init_12 : qd prog_5_method_1_code 12 (.aload_n 0) 1 13 := by decide +kernel
theorem d_Feasts_init_13 : qd prog_5_method_1_code 13 (.bipush 30) 2 15 := by decide +kernel
theorem d_Feasts_init_15 : qd prog_5_method_1_code 15 (.newarray .int) 2 17 := by decide +kernel
theorem d_Feasts_init_17 : qd prog_5_method_1_code 17 (.putfield 13) 3 20 := by decide +kernel
theorem d_Feasts_init_20 : qd prog_5_method_1_code 20 (.aload_n 0) 1 21 := by decide +kernel
theorem d_Feasts_init_21 : qd prog_5_method_1_code 21 (.iconst 0) 1 22 := by decide +kernel
theorem d_Feasts_init_22 : qd prog_5_method_1_code 22 (.putfield 16) 3 25 := by decide +kernel
theorem d_Feasts_init_25 : qd prog_5_method_1_code 25 (.aload_n 0) 1 26 := by decide +kernel
theorem d_Feasts_init_26 : qd prog_5_method_1_code 26 (.iconst 0) 1 27 := by decide +kernel
theorem d_Feasts_init_27 : qd prog_5_method_1_code 27 (.putfield 20) 3 30 := by decide +kernel
theorem d_Feasts_init_30 : qd prog_5_method_1_code 30 (.return_) 1 31 := by decide +kernel
theorem b_Feasts_init_29 {ρ : qRf} {σ : qMem} (hb : qbl 30 ρ σ) : qbl 32 (qru (qru ρ 29 0 (some 30)) 29 1 (some 31)) (qmu (qmu σ 29 2 (0 : Int32)) 29 3 (0 : Int32)) := by
  have hb1 := qbl_up hb (Nat.le_succ 30)
  have hb2 := qbl_ru (k := 29) (j := 0) (v := some 30) hb1 (by decide)
  have hb3 := qbl_up hb2 (Nat.le_succ 31)
  have hb4 := qbl_ru (k := 29) (j := 1) (v := some 31) hb3 (by decide)
  have hb5 := qbl_mu (k := 29) (j := 2) (v := (0 : Int32)) hb4 (by decide)
  have hb6 := qbl_mu (k := 29) (j := 3) (v := (0 : Int32)) hb5 (by decide)
  exact hb6
set_option maxHeartbeats 4000000 in
set_option maxRecDepth 20000 in
theorem k_Feasts_init_29 (l : Launch) (G : qG) (hA : qAd G) (f : Nat) (hf : 1000 ≤ f) (ρ : qRf) (σ : qMem) (hb : qbl 30 ρ σ) : qCt l y_Feasts_init prog_5_method_1_code 1 none 1 G (qKS.take 30) ρ σ [.ref 29] none (qKS.take 32) (qru (qru ρ 29 0 (some 30)) 29 1 (some 31)) (qmu (qmu σ 29 2 (0 : Int32)) 29 3 (0 : Int32)) 2 60 := by
  refine qCt.of (lv := [some (.ref 29)]) (by decide) hA (Nat.le_of_ble_eq_true rfl) rfl ?_
  intro X hl hcc hss hni hX hT
  subst hl
  refine q_aload_n hX d_Feasts_init_0 rfl ?_
  refine q_objInit hX xw_48 xw_2 xw_3 (by decide) (Nat.le_of_ble_eq_true rfl) d_Feasts_init_1 ?_
  refine q_aload_n hX d_Feasts_init_4 rfl ?_
  refine q_bipush hX (v := (30 : Int32)) d_Feasts_init_5 (by decide +kernel) ?_
  refine q_newa hX (atype := .int) (ty := .int) (tg := 100) (N := 30) (n := 30) (t0 := 0) (ks' := (qKS.take 31)) rfl rfl (by decide) xw_8 (by decide) (by decide +kernel) (by decide) rfl (by decide) (hb.2 _ (Nat.le_refl _)) (by decide) ⟨by rw [hcc]; decide, by rw [hss]; decide⟩ d_Feasts_init_7 ?_
  have hb1 := qbl_up hb (Nat.le_succ 30)
  refine q_putR hX (hni rfl) (c := 4) (j := 0) (n := 4) (C := qR4) (T := qT4) rfl (by decide) rfl xw_49 rfl rfl (by decide) (by decide) d_Feasts_init_9 ?_
  have hb2 := qbl_ru (k := 29) (j := 0) (v := some 30) hb1 (by decide)
  refine q_aload_n hX d_Feasts_init_12 rfl ?_
  refine q_bipush hX (v := (30 : Int32)) d_Feasts_init_13 (by decide +kernel) ?_
  refine q_newa hX (atype := .int) (ty := .int) (tg := 100) (N := 30) (n := 31) (t0 := 0) (ks' := (qKS.take 32)) rfl rfl (by decide) xw_8 (by decide) (by decide +kernel) (by decide) rfl (by decide) (hb2.2 _ (Nat.le_refl _)) (by decide) ⟨by rw [hcc]; decide, by rw [hss]; decide⟩ d_Feasts_init_15 ?_
  have hb3 := qbl_up hb2 (Nat.le_succ 31)
  refine q_putR hX (hni rfl) (c := 4) (j := 1) (n := 4) (C := qR4) (T := qT4) rfl (by decide) rfl xw_50 rfl rfl (by decide) (by decide) d_Feasts_init_17 ?_
  have hb4 := qbl_ru (k := 29) (j := 1) (v := some 31) hb3 (by decide)
  refine q_aload_n hX d_Feasts_init_20 rfl ?_
  refine q_iconst hX (v := (0 : Int32)) d_Feasts_init_21 (by decide +kernel) ?_
  refine q_putI hX (c := 4) (j := 2) (n := 4) ⟨qR4, qT4, rfl, by decide, rfl, xw_51, rfl⟩ (by decide) rfl (by decide) d_Feasts_init_22 ?_
  have hb5 := qbl_mu (k := 29) (j := 2) (v := (0 : Int32)) hb4 (by decide)
  refine q_aload_n hX d_Feasts_init_25 rfl ?_
  refine q_iconst hX (v := (0 : Int32)) d_Feasts_init_26 (by decide +kernel) ?_
  refine q_putI hX (c := 4) (j := 3) (n := 4) ⟨qR4, qT4, rfl, by decide, rfl, xw_52, rfl⟩ (by decide) rfl (by decide) d_Feasts_init_27 ?_
  have hb6 := qbl_mu (k := 29) (j := 3) (v := (0 : Int32)) hb5 (by decide)
  exact q_vret hX hT d_Feasts_init_30
theorem xw_53 : Cond.instanceMethod y_Feasts_init ∈ qAW := qw 165 (by decide +kernel) rfl
theorem xw_54 : Cond.code y_Feasts_init prog_5_method_1_code 1 none ∈ qAW := qw 166 (by decide +kernel) rfl
theorem xn_C_32 : Cond.methodLinkNest "ChantryRolls" 32 y_Feasts_init "ChantryRolls" ∈ qNW := List.mem_filter.mpr ⟨List.mem_of_getElem? (i := 164) (by decide +kernel), rfl⟩
theorem xw_55 : Cond.fieldLink "ChantryRolls" 33 "ChantryRolls" "feasts" "LChantryRolls$Feasts;" ∈ qAW := qw 393 (by decide +kernel) rfl
theorem xw_56 : Cond.fieldLink "ChantryRolls" 37 "ChantryRolls" "vows" "[I" ∈ qAW := qw 394 (by decide +kernel) rfl
theorem xw_57 : Cond.classLink "ChantryRolls" 41 "ChantryRolls$Spans" ∈ qAW := qw 181 (by decide +kernel) rfl
theorem xw_58 : Cond.instantiable "ChantryRolls$Spans" 4 ∈ qAW := qw 182 (by decide +kernel) rfl
theorem xw_59 : Cond.initialized "ChantryRolls$Spans" ∈ qAW := qw 77 (by decide +kernel) rfl
theorem xw_60 : Cond.methodLink "ChantryRolls$Spans" 3 objectInit ∈ qAW := qw 186 (by decide +kernel) rfl
theorem xw_61 : Cond.fieldLink "ChantryRolls$Spans" 11 "ChantryRolls$Spans" "owners" "[I" ∈ qAW := qw 187 (by decide +kernel) rfl
theorem xw_62 : Cond.fieldLink "ChantryRolls$Spans" 15 "ChantryRolls$Spans" "firsts" "[I" ∈ qAW := qw 188 (by decide +kernel) rfl
theorem xw_63 : Cond.fieldLink "ChantryRolls$Spans" 18 "ChantryRolls$Spans" "lasts" "[I" ∈ qAW := qw 189 (by decide +kernel) rfl
theorem xw_64 : Cond.fieldLink "ChantryRolls$Spans" 21 "ChantryRolls$Spans" "told" "I" ∈ qAW := qw 190 (by decide +kernel) rfl
theorem d_Spans_init_0 : qd prog_12_method_1_code 0 (.aload_n 0) 1 1 := by decide +kernel
theorem d_Spans_init_1 : qd prog_12_method_1_code 1 (.invokespecial 3) 3 4 := by decide +kernel
theorem d_Spans_init_4 : qd prog_12_method_1_code 4 (.aload_n 0) 1 5 := by decide +kernel
theorem d_Spans_init_5 : qd prog_12_method_1_code 5 (.bipush 20) 2 7 := by decide +kernel
theorem d_Spans_init_7 : qd prog_12_method_1_code 7 (.newarray .int) 2 9 := by decide +kernel
theorem d_Spans_init_9 : qd prog_12_method_1_code 9 (.putfield 11) 3 12 := by decide +kernel
theorem d_Spans_init_12 : qd prog_12_method_1_code 12 (.aload_n 0) 1 13 := by decide +kernel
theorem d_Spans_init_13 : qd prog_12_method_1_code 13 (.bipush 20) 2 15 := by decide +kernel
theorem d_Spans_init_15 : qd prog_12_method_1_code 15 (.newarray .int) 2 17 := by decide +kernel
theorem d_Spans_init_17 : qd prog_12_method_1_code 17 (.putfield 15) 3 20 := by decide +kernel
theorem d_Spans_init_20 : qd prog_12_method_1_code 20 (.aload_n 0) 1 21 := by decide +kernel
theorem d_Spans_init_21 : qd prog_12_method_1_code 21 (.bipush 20) 2 23 := by decide +kernel
theorem d_Spans_init_23 : qd prog_12_method_1_code 23 (.newarray .int) 2 25 := by decide +kernel
theorem d_Spans_init_25 : qd prog_12_method_1_code 25 (.putfield 18) 3 28 := by decide +kernel
theorem d_Spans_init_28 : qd prog_12_method_1_code 28 (.aload_n 0) 1 29 := by decide +kernel
theorem d_Spans_init_29 : qd prog_12_method_1_code 29 (.iconst 0) 1 30 := by decide +kernel
theorem d_Spans_init_30 : qd prog_12_method_1_code 30 (.putfield 21) 3 33 := by decide +kernel
theorem d_Spans_init_33 : qd prog_12_method_1_code 33 (.return_) 1 34 := by decide +kernel
theorem b_Spans_init_33 {ρ : qRf} {σ : qMem} (hb : qbl 34 ρ σ) : qbl 37 (qru (qru (qru ρ 33 0 (some 34)) 33 1 (some 35)) 33 2 (some 36)) (qmu σ 33 3 (0 : Int32)) := by
  have hb1 := qbl_up hb (Nat.le_succ 34)
  have hb2 := qbl_ru (k := 33) (j := 0) (v := some 34) hb1 (by decide)
  have hb3 := qbl_up hb2 (Nat.le_succ 35)
  have hb4 := qbl_ru (k := 33) (j := 1) (v := some 35) hb3 (by decide)
  have hb5 := qbl_up hb4 (Nat.le_succ 36)
  have hb6 := qbl_ru (k := 33) (j := 2) (v := some 36) hb5 (by decide)
  have hb7 := qbl_mu (k := 33) (j := 3) (v := (0 : Int32)) hb6 (by decide)
  exact hb7
set_option maxHeartbeats 4000000 in
set_option maxRecDepth 20000 in
theorem k_Spans_init_33 (l : Launch) (G : qG) (hA : qAd G) (f : Nat) (hf : 1000 ≤ f) (ρ : qRf) (σ : qMem) (hb : qbl 34 ρ σ) : qCt l y_Spans_init prog_12_method_1_code 1 none 1 G (qKS.take 34) ρ σ [.ref 33] none (qKS.take 37) (qru (qru (qru ρ 33 0 (some 34)) 33 1 (some 35)) 33 2 (some 36)) (qmu σ 33 3 (0 : Int32)) 3 60 := by
  refine qCt.of (lv := [some (.ref 33)]) (by decide) hA (Nat.le_of_ble_eq_true rfl) rfl ?_
  intro X hl hcc hss hni hX hT
  subst hl
  refine q_aload_n hX d_Spans_init_0 rfl ?_
  refine q_objInit hX xw_60 xw_2 xw_3 (by decide) (Nat.le_of_ble_eq_true rfl) d_Spans_init_1 ?_
  refine q_aload_n hX d_Spans_init_4 rfl ?_
  refine q_bipush hX (v := (20 : Int32)) d_Spans_init_5 (by decide +kernel) ?_
  refine q_newa hX (atype := .int) (ty := .int) (tg := 100) (N := 20) (n := 34) (t0 := 0) (ks' := (qKS.take 35)) rfl rfl (by decide) xw_8 (by decide) (by decide +kernel) (by decide) rfl (by decide) (hb.2 _ (Nat.le_refl _)) (by decide) ⟨by rw [hcc]; decide, by rw [hss]; decide⟩ d_Spans_init_7 ?_
  have hb1 := qbl_up hb (Nat.le_succ 34)
  refine q_putR hX (hni rfl) (c := 5) (j := 0) (n := 4) (C := qR5) (T := qT5) rfl (by decide) rfl xw_61 rfl rfl (by decide) (by decide) d_Spans_init_9 ?_
  have hb2 := qbl_ru (k := 33) (j := 0) (v := some 34) hb1 (by decide)
  refine q_aload_n hX d_Spans_init_12 rfl ?_
  refine q_bipush hX (v := (20 : Int32)) d_Spans_init_13 (by decide +kernel) ?_
  refine q_newa hX (atype := .int) (ty := .int) (tg := 100) (N := 20) (n := 35) (t0 := 0) (ks' := (qKS.take 36)) rfl rfl (by decide) xw_8 (by decide) (by decide +kernel) (by decide) rfl (by decide) (hb2.2 _ (Nat.le_refl _)) (by decide) ⟨by rw [hcc]; decide, by rw [hss]; decide⟩ d_Spans_init_15 ?_
  have hb3 := qbl_up hb2 (Nat.le_succ 35)
  refine q_putR hX (hni rfl) (c := 5) (j := 1) (n := 4) (C := qR5) (T := qT5) rfl (by decide) rfl xw_62 rfl rfl (by decide) (by decide) d_Spans_init_17 ?_
  have hb4 := qbl_ru (k := 33) (j := 1) (v := some 35) hb3 (by decide)
  refine q_aload_n hX d_Spans_init_20 rfl ?_
  refine q_bipush hX (v := (20 : Int32)) d_Spans_init_21 (by decide +kernel) ?_
  refine q_newa hX (atype := .int) (ty := .int) (tg := 100) (N := 20) (n := 36) (t0 := 0) (ks' := (qKS.take 37)) rfl rfl (by decide) xw_8 (by decide) (by decide +kernel) (by decide) rfl (by decide) (hb4.2 _ (Nat.le_refl _)) (by decide) ⟨by rw [hcc]; decide, by rw [hss]; decide⟩ d_Spans_init_23 ?_
  have hb5 := qbl_up hb4 (Nat.le_succ 36)
  refine q_putR hX (hni rfl) (c := 5) (j := 2) (n := 4) (C := qR5) (T := qT5) rfl (by decide) rfl xw_63 rfl rfl (by decide) (by decide) d_Spans_init_25 ?_
  have hb6 := qbl_ru (k := 33) (j := 2) (v := some 36) hb5 (by decide)
  refine q_aload_n hX d_Spans_init_28 rfl ?_
  refine q_iconst hX (v := (0 : Int32)) d_Spans_init_29 (by decide +kernel) ?_
  refine q_putI hX (c := 5) (j := 3) (n := 4) ⟨qR5, qT5, rfl, by decide, rfl, xw_64, rfl⟩ (by decide) rfl (by decide) d_Spans_init_30 ?_
  have hb7 := qbl_mu (k := 33) (j := 3) (v := (0 : Int32)) hb6 (by decide)
  exact q_vret hX hT d_Spans_init_33
theorem xw_65 : Cond.instanceMethod y_Spans_init ∈ qAW := qw 184 (by decide +kernel) rfl
theorem xw_66 : Cond.code y_Spans_init prog_12_method_1_code 1 none ∈ qAW := qw 185 (by decide +kernel) rfl
theorem xn_C_43 : Cond.methodLinkNest "ChantryRolls" 43 y_Spans_init "ChantryRolls" ∈ qNW := List.mem_filter.mpr ⟨List.mem_of_getElem? (i := 183) (by decide +kernel), rfl⟩
theorem xw_67 : Cond.fieldLink "ChantryRolls" 44 "ChantryRolls" "sickness" "LChantryRolls$Spans;" ∈ qAW := qw 395 (by decide +kernel) rfl
theorem xw_68 : Cond.classLink "ChantryRolls" 48 "ChantryRolls$Acts" ∈ qAW := qw 200 (by decide +kernel) rfl
theorem xw_69 : Cond.instantiable "ChantryRolls$Acts" 6 ∈ qAW := qw 201 (by decide +kernel) rfl
theorem xw_70 : Cond.initialized "ChantryRolls$Acts" ∈ qAW := qw 78 (by decide +kernel) rfl
theorem xw_71 : Cond.methodLink "ChantryRolls$Acts" 3 objectInit ∈ qAW := qw 205 (by decide +kernel) rfl
theorem xw_72 : Cond.fieldLink "ChantryRolls$Acts" 11 "ChantryRolls$Acts" "days" "[I" ∈ qAW := qw 207 (by decide +kernel) rfl
theorem xw_73 : Cond.fieldLink "ChantryRolls$Acts" 15 "ChantryRolls$Acts" "firstSouls" "[I" ∈ qAW := qw 208 (by decide +kernel) rfl
theorem xw_74 : Cond.fieldLink "ChantryRolls$Acts" 18 "ChantryRolls$Acts" "lastSouls" "[I" ∈ qAW := qw 209 (by decide +kernel) rfl
theorem xw_75 : Cond.fieldLink "ChantryRolls$Acts" 21 "ChantryRolls$Acts" "spares" "[I" ∈ qAW := qw 210 (by decide +kernel) rfl
theorem xw_76 : Cond.fieldLink "ChantryRolls$Acts" 24 "ChantryRolls$Acts" "told" "I" ∈ qAW := qw 211 (by decide +kernel) rfl
theorem xw_77 : Cond.fieldLink "ChantryRolls$Acts" 28 "ChantryRolls$Acts" "promises" "LChantryRolls$Promises;" ∈ qAW := qw 206 (by decide +kernel) rfl
theorem d_Acts_init_0 : qd prog_2_method_1_code 0 (.aload_n 0) 1 1 := by decide +kernel
theorem d_Acts_init_1 : qd prog_2_method_1_code 1 (.invokespecial 3) 3 4 := by decide +kernel
theorem d_Acts_init_4 : qd prog_2_method_1_code 4 (.aload_n 0) 1 5 := by decide +kernel
theorem d_Acts_init_5 : qd prog_2_method_1_code 5 (.bipush 10) 2 7 := by decide +kernel
theorem d_Acts_init_7 : qd prog_2_method_1_code 7 (.newarray .int) 2 9 := by decide +kernel
theorem d_Acts_init_9 : qd prog_2_method_1_code 9 (.putfield 11) 3 12 := by decide +kernel
theorem d_Acts_init_12 : qd prog_2_method_1_code 12 (.aload_n 0) 1 13 := by decide +kernel
theorem d_Acts_init_13 : qd prog_2_method_1_code 13 (.bipush 10) 2 15 := by decide +kernel
theorem d_Acts_init_15 : qd prog_2_method_1_code 15 (.newarray .int) 2 17 := by decide +kernel
theorem d_Acts_init_17 : qd prog_2_method_1_code 17 (.putfield 15) 3 20 := by decide +kernel
theorem d_Acts_init_20 : qd prog_2_method_1_code 20 (.aload_n 0) 1 21 := by decide +kernel
theorem d_Acts_init_21 : qd prog_2_method_1_code 21 (.bipush 10) 2 23 := by decide +kernel
theorem d_Acts_init_23 : qd prog_2_method_1_code 23 (.newarray .int) 2 25 := by decide +kernel
theorem d_Acts_init_25 : qd prog_2_method_1_code 25 (.putfield 18) 3 28 := by decide +kernel
theorem d_Acts_init_28 : qd prog_2_method_1_code 28 (.aload_n 0) 1 29 := by decide +kernel
theorem d_Acts_init_29 : qd prog_2_method_1_code 29 (.bipush 10) 2 31 := by decide +kernel
theorem d_Acts_init_31 : qd prog_2_method_1_code 31 (.newarray .int) 2 33 := by decide +kernel
theorem d_Acts_init_33 : qd prog_2_method_1_code 33 (.putfield 21) 3 36 := by decide +kernel
theorem d_Acts_init_36 : qd prog_2_method_1_code 36 (.aload_n 0) 1 37 := by decide +kernel
theorem d_Acts_init_37 : qd prog_2_method_1_code 37 (.iconst 0) 1 38 := by decide +kernel
theorem d_Acts_init_38 : qd prog_2_method_1_code 38 (.putfield 24) 3 41 := by decide +kernel
theorem d_Acts_init_41 : qd prog_2_method_1_code 41 (.aload_n 0) 1 42 := by decide +kernel
theorem d_Acts_init_42 : qd prog_2_method_1_code 42 (.aload_n 1) 1 43 := by decide +kernel
theorem d_Acts_init_43 : qd prog_2_method_1_code 43 (.putfield 28) 3 46 := by decide +kernel
theorem d_Acts_init_46 : qd prog_2_method_1_code 46 (.return_) 1 47 := by decide +kernel
theorem b_Acts_init_37 {ρ : qRf} {σ : qMem} (hb : qbl 38 ρ σ) : qbl 42 (qru (qru (qru (qru (qru ρ 37 1 (some 38)) 37 2 (some 39)) 37 3 (some 40)) 37 4 (some 41)) 37 0 (some 13)) (qmu σ 37 5 (0 : Int32)) := by
  have hb1 := qbl_up hb (Nat.le_succ 38)
  have hb2 := qbl_ru (k := 37) (j := 1) (v := some 38) hb1 (by decide)
  have hb3 := qbl_up hb2 (Nat.le_succ 39)
  have hb4 := qbl_ru (k := 37) (j := 2) (v := some 39) hb3 (by decide)
  have hb5 := qbl_up hb4 (Nat.le_succ 40)
  have hb6 := qbl_ru (k := 37) (j := 3) (v := some 40) hb5 (by decide)
  have hb7 := qbl_up hb6 (Nat.le_succ 41)
  have hb8 := qbl_ru (k := 37) (j := 4) (v := some 41) hb7 (by decide)
  have hb9 := qbl_mu (k := 37) (j := 5) (v := (0 : Int32)) hb8 (by decide)
  have hb10 := qbl_ru (k := 37) (j := 0) (v := some 13) hb9 (by decide)
  exact hb10
set_option maxHeartbeats 4000000 in
set_option maxRecDepth 20000 in
theorem k_Acts_init_37 (l : Launch) (G : qG) (hA : qAd G) (f : Nat) (hf : 1000 ≤ f) (ρ : qRf) (σ : qMem) (hb : qbl 38 ρ σ) : qCt l y_Acts_init prog_2_method_1_code 2 none 1 G (qKS.take 38) ρ σ [.ref 37, .ref 13] none (qKS.take 42) (qru (qru (qru (qru (qru ρ 37 1 (some 38)) 37 2 (some 39)) 37 3 (some 40)) 37 4 (some 41)) 37 0 (some 13)) (qmu σ 37 5 (0 : Int32)) 4 40 := by
  refine qCt.of (lv := [some (.ref 37), some (.ref 13)]) (by decide) hA (Nat.le_of_ble_eq_true rfl) rfl ?_
  intro X hl hcc hss hni hX hT
  subst hl
  refine q_aload_n hX d_Acts_init_0 rfl ?_
  refine q_objInit hX xw_71 xw_2 xw_3 (by decide) (Nat.le_of_ble_eq_true rfl) d_Acts_init_1 ?_
  refine q_aload_n hX d_Acts_init_4 rfl ?_
  refine q_bipush hX (v := (10 : Int32)) d_Acts_init_5 (by decide +kernel) ?_
  refine q_newa hX (atype := .int) (ty := .int) (tg := 100) (N := 10) (n := 38) (t0 := 0) (ks' := (qKS.take 39)) rfl rfl (by decide) xw_8 (by decide) (by decide +kernel) (by decide) rfl (by decide) (hb.2 _ (Nat.le_refl _)) (by decide) ⟨by rw [hcc]; decide, by rw [hss]; decide⟩ d_Acts_init_7 ?_
  have hb1 := qbl_up hb (Nat.le_succ 38)
  refine q_putR hX (hni rfl) (c := 6) (j := 1) (n := 6) (C := qR6) (T := qT6) rfl (by decide) rfl xw_72 rfl rfl (by decide) (by decide) d_Acts_init_9 ?_
  have hb2 := qbl_ru (k := 37) (j := 1) (v := some 38) hb1 (by decide)
  refine q_aload_n hX d_Acts_init_12 rfl ?_
  refine q_bipush hX (v := (10 : Int32)) d_Acts_init_13 (by decide +kernel) ?_
  refine q_newa hX (atype := .int) (ty := .int) (tg := 100) (N := 10) (n := 39) (t0 := 0) (ks' := (qKS.take 40)) rfl rfl (by decide) xw_8 (by decide) (by decide +kernel) (by decide) rfl (by decide) (hb2.2 _ (Nat.le_refl _)) (by decide) ⟨by rw [hcc]; decide, by rw [hss]; decide⟩ d_Acts_init_15 ?_
  have hb3 := qbl_up hb2 (Nat.le_succ 39)
  refine q_putR hX (hni rfl) (c := 6) (j := 2) (n := 6) (C := qR6) (T := qT6) rfl (by decide) rfl xw_73 rfl rfl (by decide) (by decide) d_Acts_init_17 ?_
  have hb4 := qbl_ru (k := 37) (j := 2) (v := some 39) hb3 (by decide)
  refine q_aload_n hX d_Acts_init_20 rfl ?_
  refine q_bipush hX (v := (10 : Int32)) d_Acts_init_21 (by decide +kernel) ?_
  refine q_newa hX (atype := .int) (ty := .int) (tg := 100) (N := 10) (n := 40) (t0 := 0) (ks' := (qKS.take 41)) rfl rfl (by decide) xw_8 (by decide) (by decide +kernel) (by decide) rfl (by decide) (hb4.2 _ (Nat.le_refl _)) (by decide) ⟨by rw [hcc]; decide, by rw [hss]; decide⟩ d_Acts_init_23 ?_
  have hb5 := qbl_up hb4 (Nat.le_succ 40)
  refine q_putR hX (hni rfl) (c := 6) (j := 3) (n := 6) (C := qR6) (T := qT6) rfl (by decide) rfl xw_74 rfl rfl (by decide) (by decide) d_Acts_init_25 ?_
  have hb6 := qbl_ru (k := 37) (j := 3) (v := some 40) hb5 (by decide)
  refine q_aload_n hX d_Acts_init_28 rfl ?_
  refine q_bipush hX (v := (10 : Int32)) d_Acts_init_29 (by decide +kernel) ?_
  refine q_newa hX (atype := .int) (ty := .int) (tg := 100) (N := 10) (n := 41) (t0 := 0) (ks' := (qKS.take 42)) rfl rfl (by decide) xw_8 (by decide) (by decide +kernel) (by decide) rfl (by decide) (hb6.2 _ (Nat.le_refl _)) (by decide) ⟨by rw [hcc]; decide, by rw [hss]; decide⟩ d_Acts_init_31 ?_
  have hb7 := qbl_up hb6 (Nat.le_succ 41)
  refine q_putR hX (hni rfl) (c := 6) (j := 4) (n := 6) (C := qR6) (T := qT6) rfl (by decide) rfl xw_75 rfl rfl (by decide) (by decide) d_Acts_init_33 ?_
  have hb8 := qbl_ru (k := 37) (j := 4) (v := some 41) hb7 (by decide)
  refine q_aload_n hX d_Acts_init_36 rfl ?_
  refine q_iconst hX (v := (0 : Int32)) d_Acts_init_37 (by decide +kernel) ?_
  refine q_putI hX (c := 6) (j := 5) (n := 6) ⟨qR6, qT6, rfl, by decide, rfl, xw_76, rfl⟩ (by decide) rfl (by decide) d_Acts_init_38 ?_
  have hb9 := qbl_mu (k := 37) (j := 5) (v := (0 : Int32)) hb8 (by decide)
  refine q_aload_n hX d_Acts_init_41 rfl ?_
  refine q_aload_n hX d_Acts_init_42 rfl ?_
  refine q_putR hX (hni rfl) (c := 6) (j := 0) (n := 6) (C := qR6) (T := qT6) rfl (by decide) rfl xw_77 rfl rfl (by decide) (by decide) d_Acts_init_43 ?_
  have hb10 := qbl_ru (k := 37) (j := 0) (v := some 13) hb9 (by decide)
  exact q_vret hX hT d_Acts_init_46
theorem xw_78 : Cond.instanceMethod y_Acts_init ∈ qAW := qw 203 (by decide +kernel) rfl
theorem xw_79 : Cond.code y_Acts_init prog_2_method_1_code 2 none ∈ qAW := qw 204 (by decide +kernel) rfl
theorem xw_80 : Cond.methodLink "ChantryRolls" 50 y_Acts_init ∈ qAW := qw 202 (by decide +kernel) rfl
theorem xw_81 : Cond.fieldLink "ChantryRolls" 53 "ChantryRolls" "acts" "LChantryRolls$Acts;" ∈ qAW := qw 396 (by decide +kernel) rfl
theorem xw_82 : Cond.classLink "ChantryRolls" 57 "ChantryRolls$Lines" ∈ qAW := qw 225 (by decide +kernel) rfl
theorem xw_83 : Cond.instantiable "ChantryRolls$Lines" 10 ∈ qAW := qw 226 (by decide +kernel) rfl
theorem xw_84 : Cond.initialized "ChantryRolls$Lines" ∈ qAW := qw 79 (by decide +kernel) rfl
theorem xw_85 : Cond.methodLink "ChantryRolls$Lines" 3 objectInit ∈ qAW := qw 230 (by decide +kernel) rfl
theorem xw_86 : Cond.fieldLink "ChantryRolls$Lines" 11 "ChantryRolls$Lines" "saidFor" "[I" ∈ qAW := qw 235 (by decide +kernel) rfl
theorem xw_87 : Cond.fieldLink "ChantryRolls$Lines" 15 "ChantryRolls$Lines" "days" "[I" ∈ qAW := qw 236 (by decide +kernel) rfl
theorem xw_88 : Cond.fieldLink "ChantryRolls$Lines" 18 "ChantryRolls$Lines" "hours" "[I" ∈ qAW := qw 237 (by decide +kernel) rfl
theorem xw_89 : Cond.arrayClass .boolean ∈ qAW := qw 262 (by decide +kernel) rfl
theorem xw_90 : Cond.fieldLink "ChantryRolls$Lines" 21 "ChantryRolls$Lines" "isGood" "[Z" ∈ qAW := qw 238 (by decide +kernel) rfl
theorem xw_91 : Cond.fieldLink "ChantryRolls$Lines" 25 "ChantryRolls$Lines" "order" "[I" ∈ qAW := qw 239 (by decide +kernel) rfl
theorem xw_92 : Cond.fieldLink "ChantryRolls$Lines" 28 "ChantryRolls$Lines" "told" "I" ∈ qAW := qw 240 (by decide +kernel) rfl
theorem xw_93 : Cond.fieldLink "ChantryRolls$Lines" 32 "ChantryRolls$Lines" "promises" "LChantryRolls$Promises;" ∈ qAW := qw 231 (by decide +kernel) rfl
theorem xw_94 : Cond.fieldLink "ChantryRolls$Lines" 36 "ChantryRolls$Lines" "acts" "LChantryRolls$Acts;" ∈ qAW := qw 232 (by decide +kernel) rfl
theorem xw_95 : Cond.fieldLink "ChantryRolls$Lines" 40 "ChantryRolls$Lines" "sickness" "LChantryRolls$Spans;" ∈ qAW := qw 233 (by decide +kernel) rfl
theorem xw_96 : Cond.fieldLink "ChantryRolls$Lines" 44 "ChantryRolls$Lines" "vows" "[I" ∈ qAW := qw 234 (by decide +kernel) rfl
theorem d_Lines_init_0 : qd prog_8_method_1_code 0 (.aload_n 0) 1 1 := by decide +kernel
theorem d_Lines_init_1 : qd prog_8_method_1_code 1 (.invokespecial 3) 3 4 := by decide +kernel
theorem d_Lines_init_4 : qd prog_8_method_1_code 4 (.aload_n 0) 1 5 := by decide +kernel
theorem d_Lines_init_5 : qd prog_8_method_1_code 5 (.bipush 60) 2 7 := by decide +kernel
theorem d_Lines_init_7 : qd prog_8_method_1_code 7 (.newarray .int) 2 9 := by decide +kernel
theorem d_Lines_init_9 : qd prog_8_method_1_code 9 (.putfield 11) 3 12 := by decide +kernel
theorem d_Lines_init_12 : qd prog_8_method_1_code 12 (.aload_n 0) 1 13 := by decide +kernel
theorem d_Lines_init_13 : qd prog_8_method_1_code 13 (.bipush 60) 2 15 := by decide +kernel
theorem d_Lines_init_15 : qd prog_8_method_1_code 15 (.newarray .int) 2 17 := by decide +kernel
theorem d_Lines_init_17 : qd prog_8_method_1_code 17 (.putfield 15) 3 20 := by decide +kernel
theorem d_Lines_init_20 : qd prog_8_method_1_code 20 (.aload_n 0) 1 21 := by decide +kernel
theorem d_Lines_init_21 : qd prog_8_method_1_code 21 (.bipush 60) 2 23 := by decide +kernel
theorem d_Lines_init_23 : qd prog_8_method_1_code 23 (.newarray .int) 2 25 := by decide +kernel
theorem d_Lines_init_25 : qd prog_8_method_1_code 25 (.putfield 18) 3 28 := by decide +kernel
theorem d_Lines_init_28 : qd prog_8_method_1_code 28 (.aload_n 0) 1 29 := by decide +kernel
theorem d_Lines_init_29 : qd prog_8_method_1_code 29 (.bipush 60) 2 31 := by decide +kernel
theorem d_Lines_init_31 : qd prog_8_method_1_code 31 (.newarray .boolean) 2 33 := by decide +kernel
theorem d_Lines_init_33 : qd prog_8_method_1_code 33 (.putfield 21) 3 36 := by decide +kernel
theorem d_Lines_init_36 : qd prog_8_method_1_code 36 (.aload_n 0) 1 37 := by decide +kernel
theorem d_Lines_init_37 : qd prog_8_method_1_code 37 (.bipush 60) 2 39 := by decide +kernel
theorem d_Lines_init_39 : qd prog_8_method_1_code 39 (.newarray .int) 2 41 := by decide +kernel
theorem d_Lines_init_41 : qd prog_8_method_1_code 41 (.putfield 25) 3 44 := by decide +kernel
theorem d_Lines_init_44 : qd prog_8_method_1_code 44 (.aload_n 0) 1 45 := by decide +kernel
theorem d_Lines_init_45 : qd prog_8_method_1_code 45 (.iconst 0) 1 46 := by decide +kernel
theorem d_Lines_init_46 : qd prog_8_method_1_code 46 (.putfield 28) 3 49 := by decide +kernel
theorem d_Lines_init_49 : qd prog_8_method_1_code 49 (.aload_n 0) 1 50 := by decide +kernel
theorem d_Lines_init_50 : qd prog_8_method_1_code 50 (.aload_n 1) 1 51 := by decide +kernel
theorem d_Lines_init_51 : qd prog_8_method_1_code 51 (.putfield 32) 3 54 := by decide +kernel
theorem d_Lines_init_54 : qd prog_8_method_1_code 54 (.aload_n 0) 1 55 := by decide +kernel
theorem d_Lines_init_55 : qd prog_8_method_1_code 55 (.aload_n 2) 1 56 := by decide +kernel
theorem d_Lines_init_56 : qd prog_8_method_1_code 56 (.putfield 36) 3 59 := by decide +kernel
theorem d_Lines_init_59 : qd prog_8_method_1_code 59 (.aload_n 0) 1 60 := by decide +kernel
theorem d_Lines_init_60 : qd prog_8_method_1_code 60 (.aload_n 3) 1 61 := by decide +kernel
theorem d_Lines_init_61 : qd prog_8_method_1_code 61 (.putfield 40) 3 64 := by decide +kernel
theorem d_Lines_init_64 : qd prog_8_method_1_code 64 (.aload_n 0) 1 65 := by decide +kernel
theorem d_Lines_init_65 : qd prog_8_method_1_code 65 (.aload 4) 2 67 := by decide +kernel
theorem d_Lines_init_67 : qd prog_8_method_1_code 67 (.putfield 44) 3 70 := by decide +kernel
theorem d_Lines_init_70 : qd prog_8_method_1_code 70 (.return_) 1 71 := by decide +kernel
theorem b_Lines_init_42 {ρ : qRf} {σ : qMem} (hb : qbl 43 ρ σ) : qbl 48 (qru (qru (qru (qru (qru (qru (qru (qru (qru ρ 42 4 (some 43)) 42 5 (some 44)) 42 6 (some 45)) 42 7 (some 46)) 42 8 (some 47)) 42 0 (some 13)) 42 1 (some 37)) 42 2 (some 33)) 42 3 (some 32)) (qmu σ 42 9 (0 : Int32)) := by
  have hb1 := qbl_up hb (Nat.le_succ 43)
  have hb2 := qbl_ru (k := 42) (j := 4) (v := some 43) hb1 (by decide)
  have hb3 := qbl_up hb2 (Nat.le_succ 44)
  have hb4 := qbl_ru (k := 42) (j := 5) (v := some 44) hb3 (by decide)
  have hb5 := qbl_up hb4 (Nat.le_succ 45)
  have hb6 := qbl_ru (k := 42) (j := 6) (v := some 45) hb5 (by decide)
  have hb7 := qbl_up hb6 (Nat.le_succ 46)
  have hb8 := qbl_ru (k := 42) (j := 7) (v := some 46) hb7 (by decide)
  have hb9 := qbl_up hb8 (Nat.le_succ 47)
  have hb10 := qbl_ru (k := 42) (j := 8) (v := some 47) hb9 (by decide)
  have hb11 := qbl_mu (k := 42) (j := 9) (v := (0 : Int32)) hb10 (by decide)
  have hb12 := qbl_ru (k := 42) (j := 0) (v := some 13) hb11 (by decide)
  have hb13 := qbl_ru (k := 42) (j := 1) (v := some 37) hb12 (by decide)
  have hb14 := qbl_ru (k := 42) (j := 2) (v := some 33) hb13 (by decide)
  have hb15 := qbl_ru (k := 42) (j := 3) (v := some 32) hb14 (by decide)
  exact hb15
set_option maxHeartbeats 4000000 in
set_option maxRecDepth 20000 in
theorem k_Lines_init_42 (l : Launch) (G : qG) (hA : qAd G) (f : Nat) (hf : 1000 ≤ f) (ρ : qRf) (σ : qMem) (hb : qbl 43 ρ σ) : qCt l y_Lines_init prog_8_method_1_code 5 none 1 G (qKS.take 43) ρ σ [.ref 42, .ref 13, .ref 37, .ref 33, .ref 32] none (qKS.take 48) (qru (qru (qru (qru (qru (qru (qru (qru (qru ρ 42 4 (some 43)) 42 5 (some 44)) 42 6 (some 45)) 42 7 (some 46)) 42 8 (some 47)) 42 0 (some 13)) 42 1 (some 37)) 42 2 (some 33)) 42 3 (some 32)) (qmu σ 42 9 (0 : Int32)) 5 300 := by
  refine qCt.of (lv := [some (.ref 42), some (.ref 13), some (.ref 37), some (.ref 33), some (.ref 32)]) (by decide) hA (Nat.le_of_ble_eq_true rfl) rfl ?_
  intro X hl hcc hss hni hX hT
  subst hl
  refine q_aload_n hX d_Lines_init_0 rfl ?_
  refine q_objInit hX xw_85 xw_2 xw_3 (by decide) (Nat.le_of_ble_eq_true rfl) d_Lines_init_1 ?_
  refine q_aload_n hX d_Lines_init_4 rfl ?_
  refine q_bipush hX (v := (60 : Int32)) d_Lines_init_5 (by decide +kernel) ?_
  refine q_newa hX (atype := .int) (ty := .int) (tg := 100) (N := 60) (n := 43) (t0 := 0) (ks' := (qKS.take 44)) rfl rfl (by decide) xw_8 (by decide) (by decide +kernel) (by decide) rfl (by decide) (hb.2 _ (Nat.le_refl _)) (by decide) ⟨by rw [hcc]; decide, by rw [hss]; decide⟩ d_Lines_init_7 ?_
  have hb1 := qbl_up hb (Nat.le_succ 43)
  refine q_putR hX (hni rfl) (c := 7) (j := 4) (n := 10) (C := qR7) (T := qT7) rfl (by decide) rfl xw_86 rfl rfl (by decide) (by decide) d_Lines_init_9 ?_
  have hb2 := qbl_ru (k := 42) (j := 4) (v := some 43) hb1 (by decide)
  refine q_aload_n hX d_Lines_init_12 rfl ?_
  refine q_bipush hX (v := (60 : Int32)) d_Lines_init_13 (by decide +kernel) ?_
  refine q_newa hX (atype := .int) (ty := .int) (tg := 100) (N := 60) (n := 44) (t0 := 0) (ks' := (qKS.take 45)) rfl rfl (by decide) xw_8 (by decide) (by decide +kernel) (by decide) rfl (by decide) (hb2.2 _ (Nat.le_refl _)) (by decide) ⟨by rw [hcc]; decide, by rw [hss]; decide⟩ d_Lines_init_15 ?_
  have hb3 := qbl_up hb2 (Nat.le_succ 44)
  refine q_putR hX (hni rfl) (c := 7) (j := 5) (n := 10) (C := qR7) (T := qT7) rfl (by decide) rfl xw_87 rfl rfl (by decide) (by decide) d_Lines_init_17 ?_
  have hb4 := qbl_ru (k := 42) (j := 5) (v := some 44) hb3 (by decide)
  refine q_aload_n hX d_Lines_init_20 rfl ?_
  refine q_bipush hX (v := (60 : Int32)) d_Lines_init_21 (by decide +kernel) ?_
  refine q_newa hX (atype := .int) (ty := .int) (tg := 100) (N := 60) (n := 45) (t0 := 0) (ks' := (qKS.take 46)) rfl rfl (by decide) xw_8 (by decide) (by decide +kernel) (by decide) rfl (by decide) (hb4.2 _ (Nat.le_refl _)) (by decide) ⟨by rw [hcc]; decide, by rw [hss]; decide⟩ d_Lines_init_23 ?_
  have hb5 := qbl_up hb4 (Nat.le_succ 45)
  refine q_putR hX (hni rfl) (c := 7) (j := 6) (n := 10) (C := qR7) (T := qT7) rfl (by decide) rfl xw_88 rfl rfl (by decide) (by decide) d_Lines_init_25 ?_
  have hb6 := qbl_ru (k := 42) (j := 6) (v := some 45) hb5 (by decide)
  refine q_aload_n hX d_Lines_init_28 rfl ?_
  refine q_bipush hX (v := (60 : Int32)) d_Lines_init_29 (by decide +kernel) ?_
  refine q_newa hX (atype := .boolean) (ty := .boolean) (tg := 102) (N := 60) (n := 46) (t0 := 2) (ks' := (qKS.take 47)) rfl rfl (by decide) xw_89 (by decide) (by decide +kernel) (by decide) rfl (by decide) (hb6.2 _ (Nat.le_refl _)) (by decide) ⟨by rw [hcc]; decide, by rw [hss]; decide⟩ d_Lines_init_31 ?_
  have hb7 := qbl_up hb6 (Nat.le_succ 46)
  refine q_putR hX (hni rfl) (c := 7) (j := 7) (n := 10) (C := qR7) (T := qT7) rfl (by decide) rfl xw_90 rfl rfl (by decide) (by decide) d_Lines_init_33 ?_
  have hb8 := qbl_ru (k := 42) (j := 7) (v := some 46) hb7 (by decide)
  refine q_aload_n hX d_Lines_init_36 rfl ?_
  refine q_bipush hX (v := (60 : Int32)) d_Lines_init_37 (by decide +kernel) ?_
  refine q_newa hX (atype := .int) (ty := .int) (tg := 100) (N := 60) (n := 47) (t0 := 0) (ks' := (qKS.take 48)) rfl rfl (by decide) xw_8 (by decide) (by decide +kernel) (by decide) rfl (by decide) (hb8.2 _ (Nat.le_refl _)) (by decide) ⟨by rw [hcc]; decide, by rw [hss]; decide⟩ d_Lines_init_39 ?_
  have hb9 := qbl_up hb8 (Nat.le_succ 47)
  refine q_putR hX (hni rfl) (c := 7) (j := 8) (n := 10) (C := qR7) (T := qT7) rfl (by decide) rfl xw_91 rfl rfl (by decide) (by decide) d_Lines_init_41 ?_
  have hb10 := qbl_ru (k := 42) (j := 8) (v := some 47) hb9 (by decide)
  refine q_aload_n hX d_Lines_init_44 rfl ?_
  refine q_iconst hX (v := (0 : Int32)) d_Lines_init_45 (by decide +kernel) ?_
  refine q_putI hX (c := 7) (j := 9) (n := 10) ⟨qR7, qT7, rfl, by decide, rfl, xw_92, rfl⟩ (by decide) rfl (by decide) d_Lines_init_46 ?_
  have hb11 := qbl_mu (k := 42) (j := 9) (v := (0 : Int32)) hb10 (by decide)
  refine q_aload_n hX d_Lines_init_49 rfl ?_
  refine q_aload_n hX d_Lines_init_50 rfl ?_
  refine q_putR hX (hni rfl) (c := 7) (j := 0) (n := 10) (C := qR7) (T := qT7) rfl (by decide) rfl xw_93 rfl rfl (by decide) (by decide) d_Lines_init_51 ?_
  have hb12 := qbl_ru (k := 42) (j := 0) (v := some 13) hb11 (by decide)
  refine q_aload_n hX d_Lines_init_54 rfl ?_
  refine q_aload_n hX d_Lines_init_55 rfl ?_
  refine q_putR hX (hni rfl) (c := 7) (j := 1) (n := 10) (C := qR7) (T := qT7) rfl (by decide) rfl xw_94 rfl rfl (by decide) (by decide) d_Lines_init_56 ?_
  have hb13 := qbl_ru (k := 42) (j := 1) (v := some 37) hb12 (by decide)
  refine q_aload_n hX d_Lines_init_59 rfl ?_
  refine q_aload_n hX d_Lines_init_60 rfl ?_
  refine q_putR hX (hni rfl) (c := 7) (j := 2) (n := 10) (C := qR7) (T := qT7) rfl (by decide) rfl xw_95 rfl rfl (by decide) (by decide) d_Lines_init_61 ?_
  have hb14 := qbl_ru (k := 42) (j := 2) (v := some 33) hb13 (by decide)
  refine q_aload_n hX d_Lines_init_64 rfl ?_
  refine q_aload hX d_Lines_init_65 rfl ?_
  refine q_putR hX (hni rfl) (c := 7) (j := 3) (n := 10) (C := qR7) (T := qT7) rfl (by decide) rfl xw_96 rfl rfl (by decide) (by decide) d_Lines_init_67 ?_
  have hb15 := qbl_ru (k := 42) (j := 3) (v := some 32) hb14 (by decide)
  exact q_vret hX hT d_Lines_init_70
theorem xw_97 : Cond.instanceMethod y_Lines_init ∈ qAW := qw 228 (by decide +kernel) rfl
theorem xw_98 : Cond.code y_Lines_init prog_8_method_1_code 5 none ∈ qAW := qw 229 (by decide +kernel) rfl
theorem xw_99 : Cond.methodLink "ChantryRolls" 59 y_Lines_init ∈ qAW := qw 227 (by decide +kernel) rfl
theorem xw_100 : Cond.fieldLink "ChantryRolls" 62 "ChantryRolls" "said" "LChantryRolls$Lines;" ∈ qAW := qw 397 (by decide +kernel) rfl
theorem xw_101 : Cond.classLink "ChantryRolls" 66 "ChantryRolls$Joins" ∈ qAW := qw 263 (by decide +kernel) rfl
theorem xw_102 : Cond.instantiable "ChantryRolls$Joins" 5 ∈ qAW := qw 264 (by decide +kernel) rfl
theorem xw_103 : Cond.initialized "ChantryRolls$Joins" ∈ qAW := qw 80 (by decide +kernel) rfl
theorem xw_104 : Cond.methodLink "ChantryRolls$Joins" 3 objectInit ∈ qAW := qw 268 (by decide +kernel) rfl
theorem xw_105 : Cond.fieldLink "ChantryRolls$Joins" 11 "ChantryRolls$Joins" "ones" "[I" ∈ qAW := qw 269 (by decide +kernel) rfl
theorem xw_106 : Cond.fieldLink "ChantryRolls$Joins" 15 "ChantryRolls$Joins" "others" "[I" ∈ qAW := qw 270 (by decide +kernel) rfl
theorem xw_107 : Cond.fieldLink "ChantryRolls$Joins" 18 "ChantryRolls$Joins" "joined" "[I" ∈ qAW := qw 271 (by decide +kernel) rfl
theorem xw_108 : Cond.fieldLink "ChantryRolls$Joins" 21 "ChantryRolls$Joins" "parted" "[I" ∈ qAW := qw 272 (by decide +kernel) rfl
theorem xw_109 : Cond.fieldLink "ChantryRolls$Joins" 24 "ChantryRolls$Joins" "told" "I" ∈ qAW := qw 273 (by decide +kernel) rfl
theorem d_Joins_init_0 : qd prog_7_method_1_code 0 (.aload_n 0) 1 1 := by decide +kernel
theorem d_Joins_init_1 : qd prog_7_method_1_code 1 (.invokespecial 3) 3 4 := by decide +kernel
theorem d_Joins_init_4 : qd prog_7_method_1_code 4 (.aload_n 0) 1 5 := by decide +kernel
theorem d_Joins_init_5 : qd prog_7_method_1_code 5 (.bipush 10) 2 7 := by decide +kernel
theorem d_Joins_init_7 : qd prog_7_method_1_code 7 (.newarray .int) 2 9 := by decide +kernel
theorem d_Joins_init_9 : qd prog_7_method_1_code 9 (.putfield 11) 3 12 := by decide +kernel
theorem d_Joins_init_12 : qd prog_7_method_1_code 12 (.aload_n 0) 1 13 := by decide +kernel
theorem d_Joins_init_13 : qd prog_7_method_1_code 13 (.bipush 10) 2 15 := by decide +kernel
theorem d_Joins_init_15 : qd prog_7_method_1_code 15 (.newarray .int) 2 17 := by decide +kernel
theorem d_Joins_init_17 : qd prog_7_method_1_code 17 (.putfield 15) 3 20 := by decide +kernel
theorem d_Joins_init_20 : qd prog_7_method_1_code 20 (.aload_n 0) 1 21 := by decide +kernel
theorem d_Joins_init_21 : qd prog_7_method_1_code 21 (.bipush 10) 2 23 := by decide +kernel
theorem d_Joins_init_23 : qd prog_7_method_1_code 23 (.newarray .int) 2 25 := by decide +kernel
theorem d_Joins_init_25 : qd prog_7_method_1_code 25 (.putfield 18) 3 28 := by decide +kernel
theorem d_Joins_init_28 : qd prog_7_method_1_code 28 (.aload_n 0) 1 29 := by decide +kernel
theorem d_Joins_init_29 : qd prog_7_method_1_code 29 (.bipush 10) 2 31 := by decide +kernel
theorem d_Joins_init_31 : qd prog_7_method_1_code 31 (.newarray .int) 2 33 := by decide +kernel
theorem d_Joins_init_33 : qd prog_7_method_1_code 33 (.putfield 21) 3 36 := by decide +kernel
theorem d_Joins_init_36 : qd prog_7_method_1_code 36 (.aload_n 0) 1 37 := by decide +kernel
theorem d_Joins_init_37 : qd prog_7_method_1_code 37 (.iconst 0) 1 38 := by decide +kernel
theorem d_Joins_init_38 : qd prog_7_method_1_code 38 (.putfield 24) 3 41 := by decide +kernel
theorem d_Joins_init_41 : qd prog_7_method_1_code 41 (.return_) 1 42 := by decide +kernel
theorem b_Joins_init_48 {ρ : qRf} {σ : qMem} (hb : qbl 49 ρ σ) : qbl 53 (qru (qru (qru (qru ρ 48 0 (some 49)) 48 1 (some 50)) 48 2 (some 51)) 48 3 (some 52)) (qmu σ 48 4 (0 : Int32)) := by
  have hb1 := qbl_up hb (Nat.le_succ 49)
  have hb2 := qbl_ru (k := 48) (j := 0) (v := some 49) hb1 (by decide)
  have hb3 := qbl_up hb2 (Nat.le_succ 50)
  have hb4 := qbl_ru (k := 48) (j := 1) (v := some 50) hb3 (by decide)
  have hb5 := qbl_up hb4 (Nat.le_succ 51)
  have hb6 := qbl_ru (k := 48) (j := 2) (v := some 51) hb5 (by decide)
  have hb7 := qbl_up hb6 (Nat.le_succ 52)
  have hb8 := qbl_ru (k := 48) (j := 3) (v := some 52) hb7 (by decide)
  have hb9 := qbl_mu (k := 48) (j := 4) (v := (0 : Int32)) hb8 (by decide)
  exact hb9
set_option maxHeartbeats 4000000 in
set_option maxRecDepth 20000 in
theorem k_Joins_init_48 (l : Launch) (G : qG) (hA : qAd G) (f : Nat) (hf : 1000 ≤ f) (ρ : qRf) (σ : qMem) (hb : qbl 49 ρ σ) : qCt l y_Joins_init prog_7_method_1_code 1 none 1 G (qKS.take 49) ρ σ [.ref 48] none (qKS.take 53) (qru (qru (qru (qru ρ 48 0 (some 49)) 48 1 (some 50)) 48 2 (some 51)) 48 3 (some 52)) (qmu σ 48 4 (0 : Int32)) 4 40 := by
  refine qCt.of (lv := [some (.ref 48)]) (by decide) hA (Nat.le_of_ble_eq_true rfl) rfl ?_
  intro X hl hcc hss hni hX hT
  subst hl
  refine q_aload_n hX d_Joins_init_0 rfl ?_
  refine q_objInit hX xw_104 xw_2 xw_3 (by decide) (Nat.le_of_ble_eq_true rfl) d_Joins_init_1 ?_
  refine q_aload_n hX d_Joins_init_4 rfl ?_
  refine q_bipush hX (v := (10 : Int32)) d_Joins_init_5 (by decide +kernel) ?_
  refine q_newa hX (atype := .int) (ty := .int) (tg := 100) (N := 10) (n := 49) (t0 := 0) (ks' := (qKS.take 50)) rfl rfl (by decide) xw_8 (by decide) (by decide +kernel) (by decide) rfl (by decide) (hb.2 _ (Nat.le_refl _)) (by decide) ⟨by rw [hcc]; decide, by rw [hss]; decide⟩ d_Joins_init_7 ?_
  have hb1 := qbl_up hb (Nat.le_succ 49)
  refine q_putR hX (hni rfl) (c := 8) (j := 0) (n := 5) (C := qR8) (T := qT8) rfl (by decide) rfl xw_105 rfl rfl (by decide) (by decide) d_Joins_init_9 ?_
  have hb2 := qbl_ru (k := 48) (j := 0) (v := some 49) hb1 (by decide)
  refine q_aload_n hX d_Joins_init_12 rfl ?_
  refine q_bipush hX (v := (10 : Int32)) d_Joins_init_13 (by decide +kernel) ?_
  refine q_newa hX (atype := .int) (ty := .int) (tg := 100) (N := 10) (n := 50) (t0 := 0) (ks' := (qKS.take 51)) rfl rfl (by decide) xw_8 (by decide) (by decide +kernel) (by decide) rfl (by decide) (hb2.2 _ (Nat.le_refl _)) (by decide) ⟨by rw [hcc]; decide, by rw [hss]; decide⟩ d_Joins_init_15 ?_
  have hb3 := qbl_up hb2 (Nat.le_succ 50)
  refine q_putR hX (hni rfl) (c := 8) (j := 1) (n := 5) (C := qR8) (T := qT8) rfl (by decide) rfl xw_106 rfl rfl (by decide) (by decide) d_Joins_init_17 ?_
  have hb4 := qbl_ru (k := 48) (j := 1) (v := some 50) hb3 (by decide)
  refine q_aload_n hX d_Joins_init_20 rfl ?_
  refine q_bipush hX (v := (10 : Int32)) d_Joins_init_21 (by decide +kernel) ?_
  refine q_newa hX (atype := .int) (ty := .int) (tg := 100) (N := 10) (n := 51) (t0 := 0) (ks' := (qKS.take 52)) rfl rfl (by decide) xw_8 (by decide) (by decide +kernel) (by decide) rfl (by decide) (hb4.2 _ (Nat.le_refl _)) (by decide) ⟨by rw [hcc]; decide, by rw [hss]; decide⟩ d_Joins_init_23 ?_
  have hb5 := qbl_up hb4 (Nat.le_succ 51)
  refine q_putR hX (hni rfl) (c := 8) (j := 2) (n := 5) (C := qR8) (T := qT8) rfl (by decide) rfl xw_107 rfl rfl (by decide) (by decide) d_Joins_init_25 ?_
  have hb6 := qbl_ru (k := 48) (j := 2) (v := some 51) hb5 (by decide)
  refine q_aload_n hX d_Joins_init_28 rfl ?_
  refine q_bipush hX (v := (10 : Int32)) d_Joins_init_29 (by decide +kernel) ?_
  refine q_newa hX (atype := .int) (ty := .int) (tg := 100) (N := 10) (n := 52) (t0 := 0) (ks' := (qKS.take 53)) rfl rfl (by decide) xw_8 (by decide) (by decide +kernel) (by decide) rfl (by decide) (hb6.2 _ (Nat.le_refl _)) (by decide) ⟨by rw [hcc]; decide, by rw [hss]; decide⟩ d_Joins_init_31 ?_
  have hb7 := qbl_up hb6 (Nat.le_succ 52)
  refine q_putR hX (hni rfl) (c := 8) (j := 3) (n := 5) (C := qR8) (T := qT8) rfl (by decide) rfl xw_108 rfl rfl (by decide) (by decide) d_Joins_init_33 ?_
  have hb8 := qbl_ru (k := 48) (j := 3) (v := some 52) hb7 (by decide)
  refine q_aload_n hX d_Joins_init_36 rfl ?_
  refine q_iconst hX (v := (0 : Int32)) d_Joins_init_37 (by decide +kernel) ?_
  refine q_putI hX (c := 8) (j := 4) (n := 5) ⟨qR8, qT8, rfl, by decide, rfl, xw_109, rfl⟩ (by decide) rfl (by decide) d_Joins_init_38 ?_
  have hb9 := qbl_mu (k := 48) (j := 4) (v := (0 : Int32)) hb8 (by decide)
  exact q_vret hX hT d_Joins_init_41
theorem xw_110 : Cond.instanceMethod y_Joins_init ∈ qAW := qw 266 (by decide +kernel) rfl
theorem xw_111 : Cond.code y_Joins_init prog_7_method_1_code 1 none ∈ qAW := qw 267 (by decide +kernel) rfl
theorem xn_C_68 : Cond.methodLinkNest "ChantryRolls" 68 y_Joins_init "ChantryRolls" ∈ qNW := List.mem_filter.mpr ⟨List.mem_of_getElem? (i := 265) (by decide +kernel), rfl⟩
theorem xw_112 : Cond.fieldLink "ChantryRolls" 69 "ChantryRolls" "joins" "LChantryRolls$Joins;" ∈ qAW := qw 398 (by decide +kernel) rfl
theorem xw_113 : Cond.classLink "ChantryRolls" 73 "ChantryRolls$Houses" ∈ qAW := qw 285 (by decide +kernel) rfl
theorem xw_114 : Cond.instantiable "ChantryRolls$Houses" 11 ∈ qAW := qw 286 (by decide +kernel) rfl
theorem xw_115 : Cond.initialized "ChantryRolls$Houses" ∈ qAW := qw 81 (by decide +kernel) rfl
theorem xw_116 : Cond.methodLink "ChantryRolls$Houses" 3 objectInit ∈ qAW := qw 290 (by decide +kernel) rfl
theorem xw_117 : Cond.fieldLink "ChantryRolls$Houses" 9 "ChantryRolls$Houses" "rents" "[I" ∈ qAW := qw 293 (by decide +kernel) rfl
theorem xw_118 : Cond.fieldLink "ChantryRolls$Houses" 15 "ChantryRolls$Houses" "shrinks" "[I" ∈ qAW := qw 294 (by decide +kernel) rfl
theorem xw_119 : Cond.fieldLink "ChantryRolls$Houses" 18 "ChantryRolls$Houses" "repairedHouses" "[I" ∈ qAW := qw 295 (by decide +kernel) rfl
theorem xw_120 : Cond.fieldLink "ChantryRolls$Houses" 21 "ChantryRolls$Houses" "repairYears" "[I" ∈ qAW := qw 296 (by decide +kernel) rfl
theorem xw_121 : Cond.fieldLink "ChantryRolls$Houses" 24 "ChantryRolls$Houses" "repairSums" "[I" ∈ qAW := qw 297 (by decide +kernel) rfl
theorem xw_122 : Cond.fieldLink "ChantryRolls$Houses" 27 "ChantryRolls$Houses" "repairs" "I" ∈ qAW := qw 298 (by decide +kernel) rfl
theorem xw_123 : Cond.classLink "ChantryRolls$Houses" 31 "ChantryRolls$Spans" ∈ qAW := qw 291 (by decide +kernel) rfl
theorem b_Spans_init_59 {ρ : qRf} {σ : qMem} (hb : qbl 60 ρ σ) : qbl 63 (qru (qru (qru ρ 59 0 (some 60)) 59 1 (some 61)) 59 2 (some 62)) (qmu σ 59 3 (0 : Int32)) := by
  have hb1 := qbl_up hb (Nat.le_succ 60)
  have hb2 := qbl_ru (k := 59) (j := 0) (v := some 60) hb1 (by decide)
  have hb3 := qbl_up hb2 (Nat.le_succ 61)
  have hb4 := qbl_ru (k := 59) (j := 1) (v := some 61) hb3 (by decide)
  have hb5 := qbl_up hb4 (Nat.le_succ 62)
  have hb6 := qbl_ru (k := 59) (j := 2) (v := some 62) hb5 (by decide)
  have hb7 := qbl_mu (k := 59) (j := 3) (v := (0 : Int32)) hb6 (by decide)
  exact hb7
set_option maxHeartbeats 4000000 in
set_option maxRecDepth 20000 in
theorem k_Spans_init_59 (l : Launch) (G : qG) (hA : qAd G) (f : Nat) (hf : 1000 ≤ f) (ρ : qRf) (σ : qMem) (hb : qbl 60 ρ σ) : qCt l y_Spans_init prog_12_method_1_code 1 none 1 G (qKS.take 60) ρ σ [.ref 59] none (qKS.take 63) (qru (qru (qru ρ 59 0 (some 60)) 59 1 (some 61)) 59 2 (some 62)) (qmu σ 59 3 (0 : Int32)) 3 60 := by
  refine qCt.of (lv := [some (.ref 59)]) (by decide) hA (Nat.le_of_ble_eq_true rfl) rfl ?_
  intro X hl hcc hss hni hX hT
  subst hl
  refine q_aload_n hX d_Spans_init_0 rfl ?_
  refine q_objInit hX xw_60 xw_2 xw_3 (by decide) (Nat.le_of_ble_eq_true rfl) d_Spans_init_1 ?_
  refine q_aload_n hX d_Spans_init_4 rfl ?_
  refine q_bipush hX (v := (20 : Int32)) d_Spans_init_5 (by decide +kernel) ?_
  refine q_newa hX (atype := .int) (ty := .int) (tg := 100) (N := 20) (n := 60) (t0 := 0) (ks' := (qKS.take 61)) rfl rfl (by decide) xw_8 (by decide) (by decide +kernel) (by decide) rfl (by decide) (hb.2 _ (Nat.le_refl _)) (by decide) ⟨by rw [hcc]; decide, by rw [hss]; decide⟩ d_Spans_init_7 ?_
  have hb1 := qbl_up hb (Nat.le_succ 60)
  refine q_putR hX (hni rfl) (c := 5) (j := 0) (n := 4) (C := qR5) (T := qT5) rfl (by decide) rfl xw_61 rfl rfl (by decide) (by decide) d_Spans_init_9 ?_
  have hb2 := qbl_ru (k := 59) (j := 0) (v := some 60) hb1 (by decide)
  refine q_aload_n hX d_Spans_init_12 rfl ?_
  refine q_bipush hX (v := (20 : Int32)) d_Spans_init_13 (by decide +kernel) ?_
  refine q_newa hX (atype := .int) (ty := .int) (tg := 100) (N := 20) (n := 61) (t0 := 0) (ks' := (qKS.take 62)) rfl rfl (by decide) xw_8 (by decide) (by decide +kernel) (by decide) rfl (by decide) (hb2.2 _ (Nat.le_refl _)) (by decide) ⟨by rw [hcc]; decide, by rw [hss]; decide⟩ d_Spans_init_15 ?_
  have hb3 := qbl_up hb2 (Nat.le_succ 61)
  refine q_putR hX (hni rfl) (c := 5) (j := 1) (n := 4) (C := qR5) (T := qT5) rfl (by decide) rfl xw_62 rfl rfl (by decide) (by decide) d_Spans_init_17 ?_
  have hb4 := qbl_ru (k := 59) (j := 1) (v := some 61) hb3 (by decide)
  refine q_aload_n hX d_Spans_init_20 rfl ?_
  refine q_bipush hX (v := (20 : Int32)) d_Spans_init_21 (by decide +kernel) ?_
  refine q_newa hX (atype := .int) (ty := .int) (tg := 100) (N := 20) (n := 62) (t0 := 0) (ks' := (qKS.take 63)) rfl rfl (by decide) xw_8 (by decide) (by decide +kernel) (by decide) rfl (by decide) (hb4.2 _ (Nat.le_refl _)) (by decide) ⟨by rw [hcc]; decide, by rw [hss]; decide⟩ d_Spans_init_23 ?_
  have hb5 := qbl_up hb4 (Nat.le_succ 62)
  refine q_putR hX (hni rfl) (c := 5) (j := 2) (n := 4) (C := qR5) (T := qT5) rfl (by decide) rfl xw_63 rfl rfl (by decide) (by decide) d_Spans_init_25 ?_
  have hb6 := qbl_ru (k := 59) (j := 2) (v := some 62) hb5 (by decide)
  refine q_aload_n hX d_Spans_init_28 rfl ?_
  refine q_iconst hX (v := (0 : Int32)) d_Spans_init_29 (by decide +kernel) ?_
  refine q_putI hX (c := 5) (j := 3) (n := 4) ⟨qR5, qT5, rfl, by decide, rfl, xw_64, rfl⟩ (by decide) rfl (by decide) d_Spans_init_30 ?_
  have hb7 := qbl_mu (k := 59) (j := 3) (v := (0 : Int32)) hb6 (by decide)
  exact q_vret hX hT d_Spans_init_33
theorem xn_Houses_33 : Cond.methodLinkNest "ChantryRolls$Houses" 33 y_Spans_init "ChantryRolls" ∈ qNW := List.mem_filter.mpr ⟨List.mem_of_getElem? (i := 292) (by decide +kernel), rfl⟩
theorem xw_124 : Cond.fieldLink "ChantryRolls$Houses" 34 "ChantryRolls$Houses" "empties" "LChantryRolls$Spans;" ∈ qAW := qw 299 (by decide +kernel) rfl
theorem xw_125 : Cond.fieldLink "ChantryRolls$Houses" 38 "ChantryRolls$Houses" "bidHouses" "[I" ∈ qAW := qw 300 (by decide +kernel) rfl
theorem xw_126 : Cond.fieldLink "ChantryRolls$Houses" 41 "ChantryRolls$Houses" "bidders" "[I" ∈ qAW := qw 301 (by decide +kernel) rfl
theorem xw_127 : Cond.fieldLink "ChantryRolls$Houses" 44 "ChantryRolls$Houses" "bidSums" "[I" ∈ qAW := qw 302 (by decide +kernel) rfl
theorem xw_128 : Cond.fieldLink "ChantryRolls$Houses" 47 "ChantryRolls$Houses" "bids" "I" ∈ qAW := qw 303 (by decide +kernel) rfl
theorem d_Houses_init_0 : qd prog_6_method_1_code 0 (.aload_n 0) 1 1 := by decide +kernel
theorem d_Houses_init_1 : qd prog_6_method_1_code 1 (.invokespecial 3) 3 4 := by decide +kernel
theorem d_Houses_init_4 : qd prog_6_method_1_code 4 (.aload_n 0) 1 5 := by decide +kernel
theorem d_Houses_init_5 : qd prog_6_method_1_code 5 (.bipush 6) 2 7 := by decide +kernel
theorem d_Houses_init_7 : qd prog_6_method_1_code 7 (.newarray .int) 2 9 := by decide +kernel
theorem d_Houses_init_9 : qd prog_6_method_1_code 9 (.putfield 9) 3 12 := by decide +kernel
theorem d_Houses_init_12 : qd prog_6_method_1_code 12 (.aload_n 0) 1 13 := by decide +kernel
theorem d_Houses_init_13 : qd prog_6_method_1_code 13 (.bipush 6) 2 15 := by decide +kernel
theorem d_Houses_init_15 : qd prog_6_method_1_code 15 (.newarray .int) 2 17 := by decide +kernel
theorem d_Houses_init_17 : qd prog_6_method_1_code 17 (.putfield 15) 3 20 := by decide +kernel
theorem d_Houses_init_20 : qd prog_6_method_1_code 20 (.aload_n 0) 1 21 := by decide +kernel
theorem d_Houses_init_21 : qd prog_6_method_1_code 21 (.bipush 20) 2 23 := by decide +kernel
theorem d_Houses_init_23 : qd prog_6_method_1_code 23 (.newarray .int) 2 25 := by decide +kernel
theorem d_Houses_init_25 : qd prog_6_method_1_code 25 (.putfield 18) 3 28 := by decide +kernel
theorem d_Houses_init_28 : qd prog_6_method_1_code 28 (.aload_n 0) 1 29 := by decide +kernel
theorem d_Houses_init_29 : qd prog_6_method_1_code 29 (.bipush 20) 2 31 := by decide +kernel
theorem d_Houses_init_31 : qd prog_6_method_1_code 31 (.newarray .int) 2 33 := by decide +kernel
theorem d_Houses_init_33 : qd prog_6_method_1_code 33 (.putfield 21) 3 36 := by decide +kernel
theorem d_Houses_init_36 : qd prog_6_method_1_code 36 (.aload_n 0) 1 37 := by decide +kernel
theorem d_Houses_init_37 : qd prog_6_method_1_code 37 (.bipush 20) 2 39 := by decide +kernel
theorem d_Houses_init_39 : qd prog_6_method_1_code 39 (.newarray .int) 2 41 := by decide +kernel
theorem d_Houses_init_41 : qd prog_6_method_1_code 41 (.putfield 24) 3 44 := by decide +kernel
theorem d_Houses_init_44 : qd prog_6_method_1_code 44 (.aload_n 0) 1 45 := by decide +kernel
theorem d_Houses_init_45 : qd prog_6_method_1_code 45 (.iconst 0) 1 46 := by decide +kernel
theorem d_Houses_init_46 : qd prog_6_method_1_code 46 (.putfield 27) 3 49 := by decide +kernel
theorem d_Houses_init_49 : qd prog_6_method_1_code 49 (.aload_n 0) 1 50 := by decide +kernel
theorem d_Houses_init_50 : qd prog_6_method_1_code 50 (.new 31) 3 53 := by decide +kernel
theorem d_Houses_init_53 : qd prog_6_method_1_code 53 (.dup) 1 54 := by decide +kernel
theorem d_Houses_init_54 : qd prog_6_method_1_code 54 (.invokespecial 33) 3 57 := by decide +kernel
theorem d_Houses_init_57 : qd prog_6_method_1_code 57 (.putfield 34) 3 60 := by decide +kernel
theorem d_Houses_init_60 : qd prog_6_method_1_code 60 (.aload_n 0) 1 61 := by decide +kernel
theorem d_Houses_init_61 : qd prog_6_method_1_code 61 (.bipush 20) 2 63 := by decide +kernel
theorem d_Houses_init_63 : qd prog_6_method_1_code 63 (.newarray .int) 2 65 := by decide +kernel
theorem d_Houses_init_65 : qd prog_6_method_1_code 65 (.putfield 38) 3 68 := by decide +kernel
theorem d_Houses_init_68 : qd prog_6_method_1_code 68 (.aload_n 0) 1 69 := by decide +kernel
theorem d_Houses_init_69 : qd prog_6_method_1_code 69 (.bipush 20) 2 71 := by decide +kernel
theorem d_Houses_init_71 : qd prog_6_method_1_code 71 (.newarray .int) 2 73 := by decide +kernel
theorem d_Houses_init_73 : qd prog_6_method_1_code 73 (.putfield 41) 3 76 := by decide +kernel
theorem d_Houses_init_76 : qd prog_6_method_1_code 76 (.aload_n 0) 1 77 := by decide +kernel
theorem d_Houses_init_77 : qd prog_6_method_1_code 77 (.bipush 20) 2 79 := by decide +kernel
theorem d_Houses_init_79 : qd prog_6_method_1_code 79 (.newarray .int) 2 81 := by decide +kernel
theorem d_Houses_init_81 : qd prog_6_method_1_code 81 (.putfield 44) 3 84 := by decide +kernel
theorem d_Houses_init_84 : qd prog_6_method_1_code 84 (.aload_n 0) 1 85 := by decide +kernel
theorem d_Houses_init_85 : qd prog_6_method_1_code 85 (.iconst 0) 1 86 := by decide +kernel
theorem d_Houses_init_86 : qd prog_6_method_1_code 86 (.putfield 47) 3 89 := by decide +kernel
theorem d_Houses_init_89 : qd prog_6_method_1_code 89 (.return_) 1 90 := by decide +kernel
theorem b_Houses_init_53 {ρ : qRf} {σ : qMem} (hb : qbl 54 ρ σ) : qbl 66 (qru (qru (qru (qru (qru (qru (qru (qru (qru (qru (qru (qru ρ 53 0 (some 54)) 53 1 (some 55)) 53 2 (some 56)) 53 3 (some 57)) 53 4 (some 58)) 59 0 (some 60)) 59 1 (some 61)) 59 2 (some 62)) 53 6 (some 59)) 53 7 (some 63)) 53 8 (some 64)) 53 9 (some 65)) (qmu (qmu (qmu σ 53 5 (0 : Int32)) 59 3 (0 : Int32)) 53 10 (0 : Int32)) := by
  have hb1 := qbl_up hb (Nat.le_succ 54)
  have hb2 := qbl_ru (k := 53) (j := 0) (v := some 54) hb1 (by decide)
  have hb3 := qbl_up hb2 (Nat.le_succ 55)
  have hb4 := qbl_ru (k := 53) (j := 1) (v := some 55) hb3 (by decide)
  have hb5 := qbl_up hb4 (Nat.le_succ 56)
  have hb6 := qbl_ru (k := 53) (j := 2) (v := some 56) hb5 (by decide)
  have hb7 := qbl_up hb6 (Nat.le_succ 57)
  have hb8 := qbl_ru (k := 53) (j := 3) (v := some 57) hb7 (by decide)
  have hb9 := qbl_up hb8 (Nat.le_succ 58)
  have hb10 := qbl_ru (k := 53) (j := 4) (v := some 58) hb9 (by decide)
  have hb11 := qbl_mu (k := 53) (j := 5) (v := (0 : Int32)) hb10 (by decide)
  have hb12 := qbl_up hb11 (Nat.le_succ 59)
  have hb13 := b_Spans_init_59 hb12
  have hb14 := qbl_ru (k := 53) (j := 6) (v := some 59) hb13 (by decide)
  have hb15 := qbl_up hb14 (Nat.le_succ 63)
  have hb16 := qbl_ru (k := 53) (j := 7) (v := some 63) hb15 (by decide)
  have hb17 := qbl_up hb16 (Nat.le_succ 64)
  have hb18 := qbl_ru (k := 53) (j := 8) (v := some 64) hb17 (by decide)
  have hb19 := qbl_up hb18 (Nat.le_succ 65)
  have hb20 := qbl_ru (k := 53) (j := 9) (v := some 65) hb19 (by decide)
  have hb21 := qbl_mu (k := 53) (j := 10) (v := (0 : Int32)) hb20 (by decide)
  exact hb21
set_option maxHeartbeats 4000000 in
set_option maxRecDepth 20000 in
theorem k_Houses_init_53 (l : Launch) (G : qG) (hA : qAd G) (f : Nat) (hf : 1000 ≤ f) (ρ : qRf) (σ : qMem) (hb : qbl 54 ρ σ) : qCt l y_Houses_init prog_6_method_1_code 1 none 2 G (qKS.take 54) ρ σ [.ref 53] none (qKS.take 66) (qru (qru (qru (qru (qru (qru (qru (qru (qru (qru (qru (qru ρ 53 0 (some 54)) 53 1 (some 55)) 53 2 (some 56)) 53 3 (some 57)) 53 4 (some 58)) 59 0 (some 60)) 59 1 (some 61)) 59 2 (some 62)) 53 6 (some 59)) 53 7 (some 63)) 53 8 (some 64)) 53 9 (some 65)) (qmu (qmu (qmu σ 53 5 (0 : Int32)) 59 3 (0 : Int32)) 53 10 (0 : Int32)) 12 196 := by
  refine qCt.of (lv := [some (.ref 53)]) (by decide) hA (Nat.le_of_ble_eq_true rfl) rfl ?_
  intro X hl hcc hss hni hX hT
  subst hl
  refine q_aload_n hX d_Houses_init_0 rfl ?_
  refine q_objInit hX xw_116 xw_2 xw_3 (by decide) (Nat.le_of_ble_eq_true rfl) d_Houses_init_1 ?_
  refine q_aload_n hX d_Houses_init_4 rfl ?_
  refine q_bipush hX (v := (6 : Int32)) d_Houses_init_5 (by decide +kernel) ?_
  refine q_newa hX (atype := .int) (ty := .int) (tg := 100) (N := 6) (n := 54) (t0 := 0) (ks' := (qKS.take 55)) rfl rfl (by decide) xw_8 (by decide) (by decide +kernel) (by decide) rfl (by decide) (hb.2 _ (Nat.le_refl _)) (by decide) ⟨by rw [hcc]; decide, by rw [hss]; decide⟩ d_Houses_init_7 ?_
  have hb1 := qbl_up hb (Nat.le_succ 54)
  refine q_putR hX (hni rfl) (c := 9) (j := 0) (n := 11) (C := qR9) (T := qT9) rfl (by decide) rfl xw_117 rfl rfl (by decide) (by decide) d_Houses_init_9 ?_
  have hb2 := qbl_ru (k := 53) (j := 0) (v := some 54) hb1 (by decide)
  refine q_aload_n hX d_Houses_init_12 rfl ?_
  refine q_bipush hX (v := (6 : Int32)) d_Houses_init_13 (by decide +kernel) ?_
  refine q_newa hX (atype := .int) (ty := .int) (tg := 100) (N := 6) (n := 55) (t0 := 0) (ks' := (qKS.take 56)) rfl rfl (by decide) xw_8 (by decide) (by decide +kernel) (by decide) rfl (by decide) (hb2.2 _ (Nat.le_refl _)) (by decide) ⟨by rw [hcc]; decide, by rw [hss]; decide⟩ d_Houses_init_15 ?_
  have hb3 := qbl_up hb2 (Nat.le_succ 55)
  refine q_putR hX (hni rfl) (c := 9) (j := 1) (n := 11) (C := qR9) (T := qT9) rfl (by decide) rfl xw_118 rfl rfl (by decide) (by decide) d_Houses_init_17 ?_
  have hb4 := qbl_ru (k := 53) (j := 1) (v := some 55) hb3 (by decide)
  refine q_aload_n hX d_Houses_init_20 rfl ?_
  refine q_bipush hX (v := (20 : Int32)) d_Houses_init_21 (by decide +kernel) ?_
  refine q_newa hX (atype := .int) (ty := .int) (tg := 100) (N := 20) (n := 56) (t0 := 0) (ks' := (qKS.take 57)) rfl rfl (by decide) xw_8 (by decide) (by decide +kernel) (by decide) rfl (by decide) (hb4.2 _ (Nat.le_refl _)) (by decide) ⟨by rw [hcc]; decide, by rw [hss]; decide⟩ d_Houses_init_23 ?_
  have hb5 := qbl_up hb4 (Nat.le_succ 56)
  refine q_putR hX (hni rfl) (c := 9) (j := 2) (n := 11) (C := qR9) (T := qT9) rfl (by decide) rfl xw_119 rfl rfl (by decide) (by decide) d_Houses_init_25 ?_
  have hb6 := qbl_ru (k := 53) (j := 2) (v := some 56) hb5 (by decide)
  refine q_aload_n hX d_Houses_init_28 rfl ?_
  refine q_bipush hX (v := (20 : Int32)) d_Houses_init_29 (by decide +kernel) ?_
  refine q_newa hX (atype := .int) (ty := .int) (tg := 100) (N := 20) (n := 57) (t0 := 0) (ks' := (qKS.take 58)) rfl rfl (by decide) xw_8 (by decide) (by decide +kernel) (by decide) rfl (by decide) (hb6.2 _ (Nat.le_refl _)) (by decide) ⟨by rw [hcc]; decide, by rw [hss]; decide⟩ d_Houses_init_31 ?_
  have hb7 := qbl_up hb6 (Nat.le_succ 57)
  refine q_putR hX (hni rfl) (c := 9) (j := 3) (n := 11) (C := qR9) (T := qT9) rfl (by decide) rfl xw_120 rfl rfl (by decide) (by decide) d_Houses_init_33 ?_
  have hb8 := qbl_ru (k := 53) (j := 3) (v := some 57) hb7 (by decide)
  refine q_aload_n hX d_Houses_init_36 rfl ?_
  refine q_bipush hX (v := (20 : Int32)) d_Houses_init_37 (by decide +kernel) ?_
  refine q_newa hX (atype := .int) (ty := .int) (tg := 100) (N := 20) (n := 58) (t0 := 0) (ks' := (qKS.take 59)) rfl rfl (by decide) xw_8 (by decide) (by decide +kernel) (by decide) rfl (by decide) (hb8.2 _ (Nat.le_refl _)) (by decide) ⟨by rw [hcc]; decide, by rw [hss]; decide⟩ d_Houses_init_39 ?_
  have hb9 := qbl_up hb8 (Nat.le_succ 58)
  refine q_putR hX (hni rfl) (c := 9) (j := 4) (n := 11) (C := qR9) (T := qT9) rfl (by decide) rfl xw_121 rfl rfl (by decide) (by decide) d_Houses_init_41 ?_
  have hb10 := qbl_ru (k := 53) (j := 4) (v := some 58) hb9 (by decide)
  refine q_aload_n hX d_Houses_init_44 rfl ?_
  refine q_iconst hX (v := (0 : Int32)) d_Houses_init_45 (by decide +kernel) ?_
  refine q_putI hX (c := 9) (j := 5) (n := 11) ⟨qR9, qT9, rfl, by decide, rfl, xw_122, rfl⟩ (by decide) rfl (by decide) d_Houses_init_46 ?_
  have hb11 := qbl_mu (k := 53) (j := 5) (v := (0 : Int32)) hb10 (by decide)
  refine q_aload_n hX d_Houses_init_49 rfl ?_
  refine q_new hX (c := 5) (nf := 4) (n := 59) (ks' := (qKS.take 60)) rfl xw_123 xw_58 xw_59 rfl (by decide) (hb11.1 _ (Nat.le_refl _)) (hb11.2 _ (Nat.le_refl _)) (by decide) ⟨by rw [hcc]; decide, by rw [hss]; decide⟩ d_Houses_init_50 ?_
  have hb12 := qbl_up hb11 (Nat.le_succ 59)
  refine q_dup hX rfl d_Houses_init_53 ?_
  refine q_callIN hX (n := 0) (r := none) (k_Spans_init_59 X.l G hX.ad f hf _ _ hb12) ⟨⟨xn_Houses_33, xw_65, xw_59, xw_66⟩, ⟨by decide +kernel, by decide +kernel, by decide +kernel⟩, by decide, rfl⟩ rfl (Nat.le_of_ble_eq_true rfl) rfl (Nat.le_of_ble_eq_true rfl) ⟨by rw [hcc]; decide, by rw [hss]; decide⟩ d_Houses_init_54 ?_
  have hb13 := b_Spans_init_59 hb12
  refine q_putR hX (hni rfl) (c := 9) (j := 6) (n := 11) (C := qR9) (T := qT9) rfl (by decide) rfl xw_124 rfl rfl (by decide) (by decide) d_Houses_init_57 ?_
  have hb14 := qbl_ru (k := 53) (j := 6) (v := some 59) hb13 (by decide)
  refine q_aload_n hX d_Houses_init_60 rfl ?_
  refine q_bipush hX (v := (20 : Int32)) d_Houses_init_61 (by decide +kernel) ?_
  refine q_newa hX (atype := .int) (ty := .int) (tg := 100) (N := 20) (n := 63) (t0 := 0) (ks' := (qKS.take 64)) rfl rfl (by decide) xw_8 (by decide) (by decide +kernel) (by decide) rfl (by decide) (hb14.2 _ (Nat.le_refl _)) (by decide) ⟨by rw [hcc]; decide, by rw [hss]; decide⟩ d_Houses_init_63 ?_
  have hb15 := qbl_up hb14 (Nat.le_succ 63)
  refine q_putR hX (hni rfl) (c := 9) (j := 7) (n := 11) (C := qR9) (T := qT9) rfl (by decide) rfl xw_125 rfl rfl (by decide) (by decide) d_Houses_init_65 ?_
  have hb16 := qbl_ru (k := 53) (j := 7) (v := some 63) hb15 (by decide)
  refine q_aload_n hX d_Houses_init_68 rfl ?_
  refine q_bipush hX (v := (20 : Int32)) d_Houses_init_69 (by decide +kernel) ?_
  refine q_newa hX (atype := .int) (ty := .int) (tg := 100) (N := 20) (n := 64) (t0 := 0) (ks' := (qKS.take 65)) rfl rfl (by decide) xw_8 (by decide) (by decide +kernel) (by decide) rfl (by decide) (hb16.2 _ (Nat.le_refl _)) (by decide) ⟨by rw [hcc]; decide, by rw [hss]; decide⟩ d_Houses_init_71 ?_
  have hb17 := qbl_up hb16 (Nat.le_succ 64)
  refine q_putR hX (hni rfl) (c := 9) (j := 8) (n := 11) (C := qR9) (T := qT9) rfl (by decide) rfl xw_126 rfl rfl (by decide) (by decide) d_Houses_init_73 ?_
  have hb18 := qbl_ru (k := 53) (j := 8) (v := some 64) hb17 (by decide)
  refine q_aload_n hX d_Houses_init_76 rfl ?_
  refine q_bipush hX (v := (20 : Int32)) d_Houses_init_77 (by decide +kernel) ?_
  refine q_newa hX (atype := .int) (ty := .int) (tg := 100) (N := 20) (n := 65) (t0 := 0) (ks' := (qKS.take 66)) rfl rfl (by decide) xw_8 (by decide) (by decide +kernel) (by decide) rfl (by decide) (hb18.2 _ (Nat.le_refl _)) (by decide) ⟨by rw [hcc]; decide, by rw [hss]; decide⟩ d_Houses_init_79 ?_
  have hb19 := qbl_up hb18 (Nat.le_succ 65)
  refine q_putR hX (hni rfl) (c := 9) (j := 9) (n := 11) (C := qR9) (T := qT9) rfl (by decide) rfl xw_127 rfl rfl (by decide) (by decide) d_Houses_init_81 ?_
  have hb20 := qbl_ru (k := 53) (j := 9) (v := some 65) hb19 (by decide)
  refine q_aload_n hX d_Houses_init_84 rfl ?_
  refine q_iconst hX (v := (0 : Int32)) d_Houses_init_85 (by decide +kernel) ?_
  refine q_putI hX (c := 9) (j := 10) (n := 11) ⟨qR9, qT9, rfl, by decide, rfl, xw_128, rfl⟩ (by decide) rfl (by decide) d_Houses_init_86 ?_
  have hb21 := qbl_mu (k := 53) (j := 10) (v := (0 : Int32)) hb20 (by decide)
  exact q_vret hX hT d_Houses_init_89
theorem xw_129 : Cond.instanceMethod y_Houses_init ∈ qAW := qw 288 (by decide +kernel) rfl
theorem xw_130 : Cond.code y_Houses_init prog_6_method_1_code 1 none ∈ qAW := qw 289 (by decide +kernel) rfl
theorem xn_C_75 : Cond.methodLinkNest "ChantryRolls" 75 y_Houses_init "ChantryRolls" ∈ qNW := List.mem_filter.mpr ⟨List.mem_of_getElem? (i := 287) (by decide +kernel), rfl⟩
theorem xw_131 : Cond.fieldLink "ChantryRolls" 76 "ChantryRolls" "houses" "LChantryRolls$Houses;" ∈ qAW := qw 399 (by decide +kernel) rfl
theorem xw_132 : Cond.fieldLink "ChantryRolls" 80 "ChantryRolls" "prices" "[I" ∈ qAW := qw 400 (by decide +kernel) rfl
theorem xw_133 : Cond.classLink "ChantryRolls" 83 "ChantryRolls$Namings" ∈ qAW := qw 327 (by decide +kernel) rfl
theorem xw_134 : Cond.instantiable "ChantryRolls$Namings" 4 ∈ qAW := qw 328 (by decide +kernel) rfl
theorem xw_135 : Cond.initialized "ChantryRolls$Namings" ∈ qAW := qw 82 (by decide +kernel) rfl
theorem xw_136 : Cond.methodLink "ChantryRolls$Namings" 3 objectInit ∈ qAW := qw 332 (by decide +kernel) rfl
theorem xw_137 : Cond.fieldLink "ChantryRolls$Namings" 9 "ChantryRolls$Namings" "vacantFrom" "[I" ∈ qAW := qw 336 (by decide +kernel) rfl
theorem xw_138 : Cond.fieldLink "ChantryRolls$Namings" 15 "ChantryRolls$Namings" "patrons" "[I" ∈ qAW := qw 337 (by decide +kernel) rfl
theorem xw_139 : Cond.classLink "ChantryRolls$Namings" 18 "[[I" ∈ qAW := qw 333 (by decide +kernel) rfl
theorem xw_140 : Cond.fieldLink "ChantryRolls$Namings" 20 "ChantryRolls$Namings" "names" "[[I" ∈ qAW := qw 338 (by decide +kernel) rfl
theorem xw_141 : Cond.fieldLink "ChantryRolls$Namings" 23 "ChantryRolls$Namings" "turns" "[[I" ∈ qAW := qw 339 (by decide +kernel) rfl
theorem xw_142 : Cond.constant "ChantryRolls$Namings" 26 (-1000000 : Int32) ∈ qAW := qw 334 (by decide +kernel) rfl
theorem xw_143 : Cond.methodLink "ChantryRolls$Namings" 27 y_Ar_fill ∈ qAW := qw 335 (by decide +kernel) rfl
theorem d_Namings_init_0 : qd prog_9_method_1_code 0 (.aload_n 0) 1 1 := by decide +kernel
theorem d_Namings_init_1 : qd prog_9_method_1_code 1 (.invokespecial 3) 3 4 := by decide +kernel
theorem d_Namings_init_4 : qd prog_9_method_1_code 4 (.aload_n 0) 1 5 := by decide +kernel
theorem d_Namings_init_5 : qd prog_9_method_1_code 5 (.bipush 12) 2 7 := by decide +kernel
theorem d_Namings_init_7 : qd prog_9_method_1_code 7 (.newarray .int) 2 9 := by decide +kernel
theorem d_Namings_init_9 : qd prog_9_method_1_code 9 (.putfield 9) 3 12 := by decide +kernel
theorem d_Namings_init_12 : qd prog_9_method_1_code 12 (.aload_n 0) 1 13 := by decide +kernel
theorem d_Namings_init_13 : qd prog_9_method_1_code 13 (.bipush 12) 2 15 := by decide +kernel
theorem d_Namings_init_15 : qd prog_9_method_1_code 15 (.newarray .int) 2 17 := by decide +kernel
theorem d_Namings_init_17 : qd prog_9_method_1_code 17 (.putfield 15) 3 20 := by decide +kernel
theorem d_Namings_init_20 : qd prog_9_method_1_code 20 (.aload_n 0) 1 21 := by decide +kernel
theorem d_Namings_init_21 : qd prog_9_method_1_code 21 (.bipush 12) 2 23 := by decide +kernel
theorem d_Namings_init_23 : qd prog_9_method_1_code 23 (.iconst 4) 1 24 := by decide +kernel
theorem d_Namings_init_24 : qd prog_9_method_1_code 24 (.multianewarray 18 2) 4 28 := by decide +kernel
theorem d_Namings_init_28 : qd prog_9_method_1_code 28 (.putfield 20) 3 31 := by decide +kernel
theorem d_Namings_init_31 : qd prog_9_method_1_code 31 (.aload_n 0) 1 32 := by decide +kernel
theorem d_Namings_init_32 : qd prog_9_method_1_code 32 (.bipush 12) 2 34 := by decide +kernel
theorem d_Namings_init_34 : qd prog_9_method_1_code 34 (.iconst 4) 1 35 := by decide +kernel
theorem d_Namings_init_35 : qd prog_9_method_1_code 35 (.multianewarray 18 2) 4 39 := by decide +kernel
theorem d_Namings_init_39 : qd prog_9_method_1_code 39 (.putfield 23) 3 42 := by decide +kernel
theorem d_Namings_init_42 : qd prog_9_method_1_code 42 (.aload_n 0) 1 43 := by decide +kernel
theorem d_Namings_init_43 : qd prog_9_method_1_code 43 (.getfield 9) 3 46 := by decide +kernel
theorem d_Namings_init_46 : qd prog_9_method_1_code 46 (.ldc 26) 2 48 := by decide +kernel
theorem d_Namings_init_48 : qd prog_9_method_1_code 48 (.invokestatic 27) 3 51 := by decide +kernel
theorem d_Namings_init_51 : qd prog_9_method_1_code 51 (.return_) 1 52 := by decide +kernel
theorem b_Namings_init_67 {ρ : qRf} {σ : qMem} (hb : qbl 68 ρ σ) : qbl 96 (qru (qrn (qru (qrn (qru (qru ρ 67 0 (some 68)) 67 1 (some 69)) 70) 67 2 (some 70)) 83) 67 3 (some 83)) (qfl σ 68 12 (-1000000 : Int32)) := by
  have hb1 := qbl_up hb (Nat.le_succ 68)
  have hb2 := qbl_ru (k := 67) (j := 0) (v := some 68) hb1 (by decide)
  have hb3 := qbl_up hb2 (Nat.le_succ 69)
  have hb4 := qbl_ru (k := 67) (j := 1) (v := some 69) hb3 (by decide)
  have hb5 := qbl_rm (n0 := 70) (qbl_up (n' := 83) hb4 (by decide)) (by decide)
  have hb6 := qbl_ru (k := 67) (j := 2) (v := some 70) hb5 (by decide)
  have hb7 := qbl_rm (n0 := 83) (qbl_up (n' := 96) hb6 (by decide)) (by decide)
  have hb8 := qbl_ru (k := 67) (j := 3) (v := some 83) hb7 (by decide)
  have hb9 := qbl_fl (k := 68) (n1 := 12) (v := (-1000000 : Int32)) hb8 (by decide)
  exact hb9
set_option maxHeartbeats 4000000 in
set_option maxRecDepth 20000 in
theorem k_Namings_init_67 (l : Launch) (G : qG) (hA : qAd G) (f : Nat) (hf : 1000 ≤ f) (ρ : qRf) (σ : qMem) (hb : qbl 68 ρ σ) : qCt l y_Namings_init prog_9_method_1_code 1 none 2 G (qKS.take 68) ρ σ [.ref 67] none (qKS.take 96) (qru (qrn (qru (qrn (qru (qru ρ 67 0 (some 68)) 67 1 (some 69)) 70) 67 2 (some 70)) 83) 67 3 (some 83)) (qfl σ 68 12 (-1000000 : Int32)) 28 144 := by
  refine qCt.of (lv := [some (.ref 67)]) (by decide) hA (Nat.le_of_ble_eq_true rfl) rfl ?_
  intro X hl hcc hss hni hX hT
  subst hl
  refine q_aload_n hX d_Namings_init_0 rfl ?_
  refine q_objInit hX xw_136 xw_2 xw_3 (by decide) (Nat.le_of_ble_eq_true rfl) d_Namings_init_1 ?_
  refine q_aload_n hX d_Namings_init_4 rfl ?_
  refine q_bipush hX (v := (12 : Int32)) d_Namings_init_5 (by decide +kernel) ?_
  refine q_newa hX (atype := .int) (ty := .int) (tg := 100) (N := 12) (n := 68) (t0 := 0) (ks' := (qKS.take 69)) rfl rfl (by decide) xw_8 (by decide) (by decide +kernel) (by decide) rfl (by decide) (hb.2 _ (Nat.le_refl _)) (by decide) ⟨by rw [hcc]; decide, by rw [hss]; decide⟩ d_Namings_init_7 ?_
  have hb1 := qbl_up hb (Nat.le_succ 68)
  refine q_putR hX (hni rfl) (c := 10) (j := 0) (n := 4) (C := qR10) (T := qT10) rfl (by decide) rfl xw_137 rfl rfl (by decide) (by decide) d_Namings_init_9 ?_
  have hb2 := qbl_ru (k := 67) (j := 0) (v := some 68) hb1 (by decide)
  refine q_aload_n hX d_Namings_init_12 rfl ?_
  refine q_bipush hX (v := (12 : Int32)) d_Namings_init_13 (by decide +kernel) ?_
  refine q_newa hX (atype := .int) (ty := .int) (tg := 100) (N := 12) (n := 69) (t0 := 0) (ks' := (qKS.take 70)) rfl rfl (by decide) xw_8 (by decide) (by decide +kernel) (by decide) rfl (by decide) (hb2.2 _ (Nat.le_refl _)) (by decide) ⟨by rw [hcc]; decide, by rw [hss]; decide⟩ d_Namings_init_15 ?_
  have hb3 := qbl_up hb2 (Nat.le_succ 69)
  refine q_putR hX (hni rfl) (c := 10) (j := 1) (n := 4) (C := qR10) (T := qT10) rfl (by decide) rfl xw_138 rfl rfl (by decide) (by decide) d_Namings_init_17 ?_
  have hb4 := qbl_ru (k := 67) (j := 1) (v := some 69) hb3 (by decide)
  refine q_aload_n hX d_Namings_init_20 rfl ?_
  refine q_bipush hX (v := (12 : Int32)) d_Namings_init_21 (by decide +kernel) ?_
  refine q_iconst hX (v := (4 : Int32)) d_Namings_init_23 (by decide +kernel) ?_
  refine q_mna hX (N := 12) (M := 4) (n := 70) (ks' := (qKS.take 83)) xw_139 xw_8 (by decide) (by decide) (by decide +kernel) (by decide +kernel) (by decide) (by decide) rfl (by decide) hb4.2 (by decide) ⟨by rw [hcc]; decide, by rw [hss]; decide⟩ d_Namings_init_24 ?_
  have hb5 := qbl_rm (n0 := 70) (qbl_up (n' := 83) hb4 (by decide)) (by decide)
  refine q_putR hX (hni rfl) (c := 10) (j := 2) (n := 4) (C := qR10) (T := qT10) rfl (by decide) rfl xw_140 rfl rfl (by decide) (by decide) d_Namings_init_28 ?_
  have hb6 := qbl_ru (k := 67) (j := 2) (v := some 70) hb5 (by decide)
  refine q_aload_n hX d_Namings_init_31 rfl ?_
  refine q_bipush hX (v := (12 : Int32)) d_Namings_init_32 (by decide +kernel) ?_
  refine q_iconst hX (v := (4 : Int32)) d_Namings_init_34 (by decide +kernel) ?_
  refine q_mna hX (N := 12) (M := 4) (n := 83) (ks' := (qKS.take 96)) xw_139 xw_8 (by decide) (by decide) (by decide +kernel) (by decide +kernel) (by decide) (by decide) rfl (by decide) hb6.2 (by decide) ⟨by rw [hcc]; decide, by rw [hss]; decide⟩ d_Namings_init_35 ?_
  have hb7 := qbl_rm (n0 := 83) (qbl_up (n' := 96) hb6 (by decide)) (by decide)
  refine q_putR hX (hni rfl) (c := 10) (j := 3) (n := 4) (C := qR10) (T := qT10) rfl (by decide) rfl xw_141 rfl rfl (by decide) (by decide) d_Namings_init_39 ?_
  have hb8 := qbl_ru (k := 67) (j := 3) (v := some 83) hb7 (by decide)
  refine q_aload_n hX d_Namings_init_42 rfl ?_
  refine q_getR hX (c := 10) (j := 0) (n := 4) (t := 68) ⟨qR10, qT10, rfl, by decide, rfl, xw_137, rfl⟩ (by decide) (by simp [qru, qrn]) d_Namings_init_43 ?_
  refine q_ldc hX xw_142 d_Namings_init_46 ?_
  refine q_callS hX (n := 2) (r := none) (c_fillG X.l G hX.ad f hf (ks := (qKS.take 96)) (by decide) (k := 68) (n := 12) (by decide) (by decide) (-1000000 : Int32)) ⟨⟨xw_143, xw_14, xw_15, xw_16⟩, ⟨by decide +kernel, by decide +kernel, by decide +kernel⟩, by decide⟩ rfl (Nat.le_of_ble_eq_true rfl) rfl (Nat.le_of_ble_eq_true rfl) ⟨by rw [hcc]; decide, by rw [hss]; decide⟩ d_Namings_init_48 ?_
  have hb9 := qbl_fl (k := 68) (n1 := 12) (v := (-1000000 : Int32)) hb8 (by decide)
  exact q_vret hX hT d_Namings_init_51
theorem xw_144 : Cond.instanceMethod y_Namings_init ∈ qAW := qw 330 (by decide +kernel) rfl
theorem xw_145 : Cond.code y_Namings_init prog_9_method_1_code 1 none ∈ qAW := qw 331 (by decide +kernel) rfl
theorem xw_146 : Cond.methodLink "ChantryRolls" 85 y_Namings_init ∈ qAW := qw 329 (by decide +kernel) rfl
theorem xw_147 : Cond.fieldLink "ChantryRolls" 86 "ChantryRolls" "namings" "LChantryRolls$Namings;" ∈ qAW := qw 401 (by decide +kernel) rfl
theorem xw_148 : Cond.classLink "ChantryRolls" 90 "ChantryRolls$Dawn" ∈ qAW := qw 349 (by decide +kernel) rfl
theorem xw_149 : Cond.instantiable "ChantryRolls$Dawn" 11 ∈ qAW := qw 350 (by decide +kernel) rfl
theorem xw_150 : Cond.initialized "ChantryRolls$Dawn" ∈ qAW := qw 83 (by decide +kernel) rfl
theorem xw_151 : Cond.methodLink "ChantryRolls$Dawn" 3 objectInit ∈ qAW := qw 354 (by decide +kernel) rfl
theorem xw_152 : Cond.fieldLink "ChantryRolls$Dawn" 11 "ChantryRolls$Dawn" "members" "[I" ∈ qAW := qw 358 (by decide +kernel) rfl
theorem xw_153 : Cond.fieldLink "ChantryRolls$Dawn" 15 "ChantryRolls$Dawn" "hours" "[I" ∈ qAW := qw 359 (by decide +kernel) rfl
theorem xw_154 : Cond.fieldLink "ChantryRolls$Dawn" 18 "ChantryRolls$Dawn" "isSick" "[Z" ∈ qAW := qw 360 (by decide +kernel) rfl
theorem xw_155 : Cond.fieldLink "ChantryRolls$Dawn" 22 "ChantryRolls$Dawn" "size" "I" ∈ qAW := qw 361 (by decide +kernel) rfl
theorem xw_156 : Cond.fieldLink "ChantryRolls$Dawn" 26 "ChantryRolls$Dawn" "isLargest" "[Z" ∈ qAW := qw 362 (by decide +kernel) rfl
theorem xw_157 : Cond.fieldLink "ChantryRolls$Dawn" 29 "ChantryRolls$Dawn" "most" "I" ∈ qAW := qw 363 (by decide +kernel) rfl
theorem xw_158 : Cond.fieldLink "ChantryRolls$Dawn" 32 "ChantryRolls$Dawn" "altarUse" "[I" ∈ qAW := qw 364 (by decide +kernel) rfl
theorem xw_159 : Cond.fieldLink "ChantryRolls$Dawn" 35 "ChantryRolls$Dawn" "priestUse" "[I" ∈ qAW := qw 365 (by decide +kernel) rfl
theorem xw_160 : Cond.fieldLink "ChantryRolls$Dawn" 38 "ChantryRolls$Dawn" "promises" "LChantryRolls$Promises;" ∈ qAW := qw 355 (by decide +kernel) rfl
theorem xw_161 : Cond.fieldLink "ChantryRolls$Dawn" 42 "ChantryRolls$Dawn" "sickness" "LChantryRolls$Spans;" ∈ qAW := qw 356 (by decide +kernel) rfl
theorem xw_162 : Cond.fieldLink "ChantryRolls$Dawn" 46 "ChantryRolls$Dawn" "vows" "[I" ∈ qAW := qw 357 (by decide +kernel) rfl
theorem d_Dawn_init_0 : qd prog_3_method_1_code 0 (.aload_n 0) 1 1 := by decide +kernel
theorem d_Dawn_init_1 : qd prog_3_method_1_code 1 (.invokespecial 3) 3 4 := by decide +kernel
theorem d_Dawn_init_4 : qd prog_3_method_1_code 4 (.aload_n 0) 1 5 := by decide +kernel
theorem d_Dawn_init_5 : qd prog_3_method_1_code 5 (.bipush 8) 2 7 := by decide +kernel
theorem d_Dawn_init_7 : qd prog_3_method_1_code 7 (.newarray .int) 2 9 := by decide +kernel
theorem d_Dawn_init_9 : qd prog_3_method_1_code 9 (.putfield 11) 3 12 := by decide +kernel
theorem d_Dawn_init_12 : qd prog_3_method_1_code 12 (.aload_n 0) 1 13 := by decide +kernel
theorem d_Dawn_init_13 : qd prog_3_method_1_code 13 (.bipush 8) 2 15 := by decide +kernel
theorem d_Dawn_init_15 : qd prog_3_method_1_code 15 (.newarray .int) 2 17 := by decide +kernel
theorem d_Dawn_init_17 : qd prog_3_method_1_code 17 (.putfield 15) 3 20 := by decide +kernel
theorem d_Dawn_init_20 : qd prog_3_method_1_code 20 (.aload_n 0) 1 21 := by decide +kernel
theorem d_Dawn_init_21 : qd prog_3_method_1_code 21 (.bipush 8) 2 23 := by decide +kernel
theorem d_Dawn_init_23 : qd prog_3_method_1_code 23 (.newarray .boolean) 2 25 := by decide +kernel
theorem d_Dawn_init_25 : qd prog_3_method_1_code 25 (.putfield 18) 3 28 := by decide +kernel
theorem d_Dawn_init_28 : qd prog_3_method_1_code 28 (.aload_n 0) 1 29 := by decide +kernel
theorem d_Dawn_init_29 : qd prog_3_method_1_code 29 (.iconst 0) 1 30 := by decide +kernel
theorem d_Dawn_init_30 : qd prog_3_method_1_code 30 (.putfield 22) 3 33 := by decide +kernel
theorem d_Dawn_init_33 : qd prog_3_method_1_code 33 (.aload_n 0) 1 34 := by decide +kernel
theorem d_Dawn_init_34 : qd prog_3_method_1_code 34 (.sipush 256) 3 37 := by decide +kernel
theorem d_Dawn_init_37 : qd prog_3_method_1_code 37 (.newarray .boolean) 2 39 := by decide +kernel
theorem d_Dawn_init_39 : qd prog_3_method_1_code 39 (.putfield 26) 3 42 := by decide +kernel
theorem d_Dawn_init_42 : qd prog_3_method_1_code 42 (.aload_n 0) 1 43 := by decide +kernel
theorem d_Dawn_init_43 : qd prog_3_method_1_code 43 (.iconst 0) 1 44 := by decide +kernel
theorem d_Dawn_init_44 : qd prog_3_method_1_code 44 (.putfield 29) 3 47 := by decide +kernel
theorem d_Dawn_init_47 : qd prog_3_method_1_code 47 (.aload_n 0) 1 48 := by decide +kernel
theorem d_Dawn_init_48 : qd prog_3_method_1_code 48 (.iconst 4) 1 49 := by decide +kernel
theorem d_Dawn_init_49 : qd prog_3_method_1_code 49 (.newarray .int) 2 51 := by decide +kernel
theorem d_Dawn_init_51 : qd prog_3_method_1_code 51 (.putfield 32) 3 54 := by decide +kernel
theorem d_Dawn_init_54 : qd prog_3_method_1_code 54 (.aload_n 0) 1 55 := by decide +kernel
theorem d_Dawn_init_55 : qd prog_3_method_1_code 55 (.bipush 8) 2 57 := by decide +kernel
theorem d_Dawn_init_57 : qd prog_3_method_1_code 57 (.newarray .int) 2 59 := by decide +kernel
theorem d_Dawn_init_59 : qd prog_3_method_1_code 59 (.putfield 35) 3 62 := by decide +kernel
theorem d_Dawn_init_62 : qd prog_3_method_1_code 62 (.aload_n 0) 1 63 := by decide +kernel
theorem d_Dawn_init_63 : qd prog_3_method_1_code 63 (.aload_n 1) 1 64 := by decide +kernel
theorem d_Dawn_init_64 : qd prog_3_method_1_code 64 (.putfield 38) 3 67 := by decide +kernel
theorem d_Dawn_init_67 : qd prog_3_method_1_code 67 (.aload_n 0) 1 68 := by decide +kernel
theorem d_Dawn_init_68 : qd prog_3_method_1_code 68 (.aload_n 2) 1 69 := by decide +kernel
theorem d_Dawn_init_69 : qd prog_3_method_1_code 69 (.putfield 42) 3 72 := by decide +kernel
theorem d_Dawn_init_72 : qd prog_3_method_1_code 72 (.aload_n 0) 1 73 := by decide +kernel
theorem d_Dawn_init_73 : qd prog_3_method_1_code 73 (.aload_n 3) 1 74 := by decide +kernel
theorem d_Dawn_init_74 : qd prog_3_method_1_code 74 (.putfield 46) 3 77 := by decide +kernel
theorem d_Dawn_init_77 : qd prog_3_method_1_code 77 (.return_) 1 78 := by decide +kernel
theorem b_Dawn_init_96 {ρ : qRf} {σ : qMem} (hb : qbl 97 ρ σ) : qbl 103 (qru (qru (qru (qru (qru (qru (qru (qru (qru ρ 96 3 (some 97)) 96 4 (some 98)) 96 5 (some 99)) 96 7 (some 100)) 96 9 (some 101)) 96 10 (some 102)) 96 0 (some 13)) 96 1 (some 33)) 96 2 (some 32)) (qmu (qmu σ 96 6 (0 : Int32)) 96 8 (0 : Int32)) := by
  have hb1 := qbl_up hb (Nat.le_succ 97)
  have hb2 := qbl_ru (k := 96) (j := 3) (v := some 97) hb1 (by decide)
  have hb3 := qbl_up hb2 (Nat.le_succ 98)
  have hb4 := qbl_ru (k := 96) (j := 4) (v := some 98) hb3 (by decide)
  have hb5 := qbl_up hb4 (Nat.le_succ 99)
  have hb6 := qbl_ru (k := 96) (j := 5) (v := some 99) hb5 (by decide)
  have hb7 := qbl_mu (k := 96) (j := 6) (v := (0 : Int32)) hb6 (by decide)
  have hb8 := qbl_up hb7 (Nat.le_succ 100)
  have hb9 := qbl_ru (k := 96) (j := 7) (v := some 100) hb8 (by decide)
  have hb10 := qbl_mu (k := 96) (j := 8) (v := (0 : Int32)) hb9 (by decide)
  have hb11 := qbl_up hb10 (Nat.le_succ 101)
  have hb12 := qbl_ru (k := 96) (j := 9) (v := some 101) hb11 (by decide)
  have hb13 := qbl_up hb12 (Nat.le_succ 102)
  have hb14 := qbl_ru (k := 96) (j := 10) (v := some 102) hb13 (by decide)
  have hb15 := qbl_ru (k := 96) (j := 0) (v := some 13) hb14 (by decide)
  have hb16 := qbl_ru (k := 96) (j := 1) (v := some 33) hb15 (by decide)
  have hb17 := qbl_ru (k := 96) (j := 2) (v := some 32) hb16 (by decide)
  exact hb17
set_option maxHeartbeats 4000000 in
set_option maxRecDepth 20000 in
theorem k_Dawn_init_96 (l : Launch) (G : qG) (hA : qAd G) (f : Nat) (hf : 1000 ≤ f) (ρ : qRf) (σ : qMem) (hb : qbl 97 ρ σ) : qCt l y_Dawn_init prog_3_method_1_code 4 none 1 G (qKS.take 97) ρ σ [.ref 96, .ref 13, .ref 33, .ref 32] none (qKS.take 103) (qru (qru (qru (qru (qru (qru (qru (qru (qru ρ 96 3 (some 97)) 96 4 (some 98)) 96 5 (some 99)) 96 7 (some 100)) 96 9 (some 101)) 96 10 (some 102)) 96 0 (some 13)) 96 1 (some 33)) 96 2 (some 32)) (qmu (qmu σ 96 6 (0 : Int32)) 96 8 (0 : Int32)) 6 292 := by
  refine qCt.of (lv := [some (.ref 96), some (.ref 13), some (.ref 33), some (.ref 32)]) (by decide) hA (Nat.le_of_ble_eq_true rfl) rfl ?_
  intro X hl hcc hss hni hX hT
  subst hl
  refine q_aload_n hX d_Dawn_init_0 rfl ?_
  refine q_objInit hX xw_151 xw_2 xw_3 (by decide) (Nat.le_of_ble_eq_true rfl) d_Dawn_init_1 ?_
  refine q_aload_n hX d_Dawn_init_4 rfl ?_
  refine q_bipush hX (v := (8 : Int32)) d_Dawn_init_5 (by decide +kernel) ?_
  refine q_newa hX (atype := .int) (ty := .int) (tg := 100) (N := 8) (n := 97) (t0 := 0) (ks' := (qKS.take 98)) rfl rfl (by decide) xw_8 (by decide) (by decide +kernel) (by decide) rfl (by decide) (hb.2 _ (Nat.le_refl _)) (by decide) ⟨by rw [hcc]; decide, by rw [hss]; decide⟩ d_Dawn_init_7 ?_
  have hb1 := qbl_up hb (Nat.le_succ 97)
  refine q_putR hX (hni rfl) (c := 11) (j := 3) (n := 11) (C := qR11) (T := qT11) rfl (by decide) rfl xw_152 rfl rfl (by decide) (by decide) d_Dawn_init_9 ?_
  have hb2 := qbl_ru (k := 96) (j := 3) (v := some 97) hb1 (by decide)
  refine q_aload_n hX d_Dawn_init_12 rfl ?_
  refine q_bipush hX (v := (8 : Int32)) d_Dawn_init_13 (by decide +kernel) ?_
  refine q_newa hX (atype := .int) (ty := .int) (tg := 100) (N := 8) (n := 98) (t0 := 0) (ks' := (qKS.take 99)) rfl rfl (by decide) xw_8 (by decide) (by decide +kernel) (by decide) rfl (by decide) (hb2.2 _ (Nat.le_refl _)) (by decide) ⟨by rw [hcc]; decide, by rw [hss]; decide⟩ d_Dawn_init_15 ?_
  have hb3 := qbl_up hb2 (Nat.le_succ 98)
  refine q_putR hX (hni rfl) (c := 11) (j := 4) (n := 11) (C := qR11) (T := qT11) rfl (by decide) rfl xw_153 rfl rfl (by decide) (by decide) d_Dawn_init_17 ?_
  have hb4 := qbl_ru (k := 96) (j := 4) (v := some 98) hb3 (by decide)
  refine q_aload_n hX d_Dawn_init_20 rfl ?_
  refine q_bipush hX (v := (8 : Int32)) d_Dawn_init_21 (by decide +kernel) ?_
  refine q_newa hX (atype := .boolean) (ty := .boolean) (tg := 102) (N := 8) (n := 99) (t0 := 2) (ks' := (qKS.take 100)) rfl rfl (by decide) xw_89 (by decide) (by decide +kernel) (by decide) rfl (by decide) (hb4.2 _ (Nat.le_refl _)) (by decide) ⟨by rw [hcc]; decide, by rw [hss]; decide⟩ d_Dawn_init_23 ?_
  have hb5 := qbl_up hb4 (Nat.le_succ 99)
  refine q_putR hX (hni rfl) (c := 11) (j := 5) (n := 11) (C := qR11) (T := qT11) rfl (by decide) rfl xw_154 rfl rfl (by decide) (by decide) d_Dawn_init_25 ?_
  have hb6 := qbl_ru (k := 96) (j := 5) (v := some 99) hb5 (by decide)
  refine q_aload_n hX d_Dawn_init_28 rfl ?_
  refine q_iconst hX (v := (0 : Int32)) d_Dawn_init_29 (by decide +kernel) ?_
  refine q_putI hX (c := 11) (j := 6) (n := 11) ⟨qR11, qT11, rfl, by decide, rfl, xw_155, rfl⟩ (by decide) rfl (by decide) d_Dawn_init_30 ?_
  have hb7 := qbl_mu (k := 96) (j := 6) (v := (0 : Int32)) hb6 (by decide)
  refine q_aload_n hX d_Dawn_init_33 rfl ?_
  refine q_sipush hX (v := (256 : Int32)) d_Dawn_init_34 (by decide +kernel) ?_
  refine q_newa hX (atype := .boolean) (ty := .boolean) (tg := 102) (N := 256) (n := 100) (t0 := 2) (ks' := (qKS.take 101)) rfl rfl (by decide) xw_89 (by decide) (by decide +kernel) (by decide) rfl (by decide) (hb7.2 _ (Nat.le_refl _)) (by decide) ⟨by rw [hcc]; decide, by rw [hss]; decide⟩ d_Dawn_init_37 ?_
  have hb8 := qbl_up hb7 (Nat.le_succ 100)
  refine q_putR hX (hni rfl) (c := 11) (j := 7) (n := 11) (C := qR11) (T := qT11) rfl (by decide) rfl xw_156 rfl rfl (by decide) (by decide) d_Dawn_init_39 ?_
  have hb9 := qbl_ru (k := 96) (j := 7) (v := some 100) hb8 (by decide)
  refine q_aload_n hX d_Dawn_init_42 rfl ?_
  refine q_iconst hX (v := (0 : Int32)) d_Dawn_init_43 (by decide +kernel) ?_
  refine q_putI hX (c := 11) (j := 8) (n := 11) ⟨qR11, qT11, rfl, by decide, rfl, xw_157, rfl⟩ (by decide) rfl (by decide) d_Dawn_init_44 ?_
  have hb10 := qbl_mu (k := 96) (j := 8) (v := (0 : Int32)) hb9 (by decide)
  refine q_aload_n hX d_Dawn_init_47 rfl ?_
  refine q_iconst hX (v := (4 : Int32)) d_Dawn_init_48 (by decide +kernel) ?_
  refine q_newa hX (atype := .int) (ty := .int) (tg := 100) (N := 4) (n := 101) (t0 := 0) (ks' := (qKS.take 102)) rfl rfl (by decide) xw_8 (by decide) (by decide +kernel) (by decide) rfl (by decide) (hb10.2 _ (Nat.le_refl _)) (by decide) ⟨by rw [hcc]; decide, by rw [hss]; decide⟩ d_Dawn_init_49 ?_
  have hb11 := qbl_up hb10 (Nat.le_succ 101)
  refine q_putR hX (hni rfl) (c := 11) (j := 9) (n := 11) (C := qR11) (T := qT11) rfl (by decide) rfl xw_158 rfl rfl (by decide) (by decide) d_Dawn_init_51 ?_
  have hb12 := qbl_ru (k := 96) (j := 9) (v := some 101) hb11 (by decide)
  refine q_aload_n hX d_Dawn_init_54 rfl ?_
  refine q_bipush hX (v := (8 : Int32)) d_Dawn_init_55 (by decide +kernel) ?_
  refine q_newa hX (atype := .int) (ty := .int) (tg := 100) (N := 8) (n := 102) (t0 := 0) (ks' := (qKS.take 103)) rfl rfl (by decide) xw_8 (by decide) (by decide +kernel) (by decide) rfl (by decide) (hb12.2 _ (Nat.le_refl _)) (by decide) ⟨by rw [hcc]; decide, by rw [hss]; decide⟩ d_Dawn_init_57 ?_
  have hb13 := qbl_up hb12 (Nat.le_succ 102)
  refine q_putR hX (hni rfl) (c := 11) (j := 10) (n := 11) (C := qR11) (T := qT11) rfl (by decide) rfl xw_159 rfl rfl (by decide) (by decide) d_Dawn_init_59 ?_
  have hb14 := qbl_ru (k := 96) (j := 10) (v := some 102) hb13 (by decide)
  refine q_aload_n hX d_Dawn_init_62 rfl ?_
  refine q_aload_n hX d_Dawn_init_63 rfl ?_
  refine q_putR hX (hni rfl) (c := 11) (j := 0) (n := 11) (C := qR11) (T := qT11) rfl (by decide) rfl xw_160 rfl rfl (by decide) (by decide) d_Dawn_init_64 ?_
  have hb15 := qbl_ru (k := 96) (j := 0) (v := some 13) hb14 (by decide)
  refine q_aload_n hX d_Dawn_init_67 rfl ?_
  refine q_aload_n hX d_Dawn_init_68 rfl ?_
  refine q_putR hX (hni rfl) (c := 11) (j := 1) (n := 11) (C := qR11) (T := qT11) rfl (by decide) rfl xw_161 rfl rfl (by decide) (by decide) d_Dawn_init_69 ?_
  have hb16 := qbl_ru (k := 96) (j := 1) (v := some 33) hb15 (by decide)
  refine q_aload_n hX d_Dawn_init_72 rfl ?_
  refine q_aload_n hX d_Dawn_init_73 rfl ?_
  refine q_putR hX (hni rfl) (c := 11) (j := 2) (n := 11) (C := qR11) (T := qT11) rfl (by decide) rfl xw_162 rfl rfl (by decide) (by decide) d_Dawn_init_74 ?_
  have hb17 := qbl_ru (k := 96) (j := 2) (v := some 32) hb16 (by decide)
  exact q_vret hX hT d_Dawn_init_77
theorem xw_163 : Cond.instanceMethod y_Dawn_init ∈ qAW := qw 352 (by decide +kernel) rfl
theorem xw_164 : Cond.code y_Dawn_init prog_3_method_1_code 4 none ∈ qAW := qw 353 (by decide +kernel) rfl
theorem xw_165 : Cond.methodLink "ChantryRolls" 92 y_Dawn_init ∈ qAW := qw 351 (by decide +kernel) rfl
theorem xw_166 : Cond.fieldLink "ChantryRolls" 95 "ChantryRolls" "dealt" "LChantryRolls$Dawn;" ∈ qAW := qw 402 (by decide +kernel) rfl
theorem xw_167 : Cond.fieldLink "ChantryRolls" 99 "ChantryRolls" "traced" "[I" ∈ qAW := qw 403 (by decide +kernel) rfl
theorem xw_168 : Cond.fieldLink "ChantryRolls" 102 "ChantryRolls" "traceLength" "I" ∈ qAW := qw 404 (by decide +kernel) rfl
theorem xw_169 : Cond.fieldLink "ChantryRolls" 106 "ChantryRolls" "theDay" "I" ∈ qAW := qw 405 (by decide +kernel) rfl
theorem xw_170 : Cond.fieldLink "ChantryRolls" 109 "ChantryRolls" "finding" "I" ∈ qAW := qw 406 (by decide +kernel) rfl
theorem xw_171 : Cond.methodLink "ChantryRolls" 112 y_Ar_fill ∈ qAW := qw 389 (by decide +kernel) rfl
theorem d_C_init_0 : qd prog_1_method_1_code 0 (.aload_n 0) 1 1 := by decide +kernel
theorem d_C_init_1 : qd prog_1_method_1_code 1 (.invokespecial 1) 3 4 := by decide +kernel
theorem d_C_init_4 : qd prog_1_method_1_code 4 (.aload_n 0) 1 5 := by decide +kernel
theorem d_C_init_5 : qd prog_1_method_1_code 5 (.new 7) 3 8 := by decide +kernel
theorem d_C_init_8 : qd prog_1_method_1_code 8 (.dup) 1 9 := by decide +kernel
theorem d_C_init_9 : qd prog_1_method_1_code 9 (.invokespecial 9) 3 12 := by decide +kernel
theorem d_C_init_12 : qd prog_1_method_1_code 12 (.putfield 10) 3 15 := by decide +kernel
theorem d_C_init_15 : qd prog_1_method_1_code 15 (.aload_n 0) 1 16 := by decide +kernel
theorem d_C_init_16 : qd prog_1_method_1_code 16 (.new 16) 3 19 := by decide +kernel
theorem d_C_init_19 : qd prog_1_method_1_code 19 (.dup) 1 20 := by decide +kernel
theorem d_C_init_20 : qd prog_1_method_1_code 20 (.invokespecial 18) 3 23 := by decide +kernel
theorem d_C_init_23 : qd prog_1_method_1_code 23 (.putfield 19) 3 26 := by decide +kernel
theorem d_C_init_26 : qd prog_1_method_1_code 26 (.aload_n 0) 1 27 := by decide +kernel
theorem d_C_init_27 : qd prog_1_method_1_code 27 (.new 23) 3 30 := by decide +kernel
theorem d_C_init_30 : qd prog_1_method_1_code 30 (.dup) 1 31 := by decide +kernel
theorem d_C_init_31 : qd prog_1_method_1_code 31 (.invokespecial 25) 3 34 := by decide +kernel
theorem d_C_init_34 : qd prog_1_method_1_code 34 (.putfield 26) 3 37 := by decide +kernel
theorem d_C_init_37 : qd prog_1_method_1_code 37 (.aload_n 0) 1 38 := by decide +kernel
theorem d_C_init_38 : qd prog_1_method_1_code 38 (.new 30) 3 41 := by decide +kernel
theorem d_C_init_41 : qd prog_1_method_1_code 41 (.dup) 1 42 := by decide +kernel
theorem d_C_init_42 : qd prog_1_method_1_code 42 (.invokespecial 32) 3 45 := by decide +kernel
theorem d_C_init_45 : qd prog_1_method_1_code 45 (.putfield 33) 3 48 := by decide +kernel
theorem d_C_init_48 : qd prog_1_method_1_code 48 (.aload_n 0) 1 49 := by decide +kernel
theorem d_C_init_49 : qd prog_1_method_1_code 49 (.bipush 8) 2 51 := by decide +kernel
theorem d_C_init_51 : qd prog_1_method_1_code 51 (.newarray .int) 2 53 := by decide +kernel
theorem d_C_init_53 : qd prog_1_method_1_code 53 (.putfield 37) 3 56 := by decide +kernel
theorem d_C_init_56 : qd prog_1_method_1_code 56 (.aload_n 0) 1 57 := by decide +kernel
theorem d_C_init_57 : qd prog_1_method_1_code 57 (.new 41) 3 60 := by decide +kernel
theorem d_C_init_60 : qd prog_1_method_1_code 60 (.dup) 1 61 := by decide +kernel
theorem d_C_init_61 : qd prog_1_method_1_code 61 (.invokespecial 43) 3 64 := by decide +kernel
theorem d_C_init_64 : qd prog_1_method_1_code 64 (.putfield 44) 3 67 := by decide +kernel
theorem d_C_init_67 : qd prog_1_method_1_code 67 (.aload_n 0) 1 68 := by decide +kernel
theorem d_C_init_68 : qd prog_1_method_1_code 68 (.new 48) 3 71 := by decide +kernel
theorem d_C_init_71 : qd prog_1_method_1_code 71 (.dup) 1 72 := by decide +kernel
theorem d_C_init_72 : qd prog_1_method_1_code 72 (.aload_n 0) 1 73 := by decide +kernel
theorem d_C_init_73 : qd prog_1_method_1_code 73 (.getfield 19) 3 76 := by decide +kernel
theorem d_C_init_76 : qd prog_1_method_1_code 76 (.invokespecial 50) 3 79 := by decide +kernel
theorem d_C_init_79 : qd prog_1_method_1_code 79 (.putfield 53) 3 82 := by decide +kernel
theorem d_C_init_82 : qd prog_1_method_1_code 82 (.aload_n 0) 1 83 := by decide +kernel
theorem d_C_init_83 : qd prog_1_method_1_code 83 (.new 57) 3 86 := by decide +kernel
theorem d_C_init_86 : qd prog_1_method_1_code 86 (.dup) 1 87 := by decide +kernel
theorem d_C_init_87 : qd prog_1_method_1_code 87 (.aload_n 0) 1 88 := by decide +kernel
theorem d_C_init_88 : qd prog_1_method_1_code 88 (.getfield 19) 3 91 := by decide +kernel
theorem d_C_init_91 : qd prog_1_method_1_code 91 (.aload_n 0) 1 92 := by decide +kernel
theorem d_C_init_92 : qd prog_1_method_1_code 92 (.getfield 53) 3 95 := by decide +kernel
theorem d_C_init_95 : qd prog_1_method_1_code 95 (.aload_n 0) 1 96 := by decide +kernel
theorem d_C_init_96 : qd prog_1_method_1_code 96 (.getfield 44) 3 99 := by decide +kernel
theorem d_C_init_99 : qd prog_1_method_1_code 99 (.aload_n 0) 1 100 := by decide +kernel
theorem d_C_init_100 : qd prog_1_method_1_code 100 (.getfield 37) 3 103 := by decide +kernel
theorem d_C_init_103 : qd prog_1_method_1_code 103 (.invokespecial 59) 3 106 := by decide +kernel
theorem d_C_init_106 : qd prog_1_method_1_code 106 (.putfield 62) 3 109 := by decide +kernel
theorem d_C_init_109 : qd prog_1_method_1_code 109 (.aload_n 0) 1 110 := by decide +kernel
theorem d_C_init_110 : qd prog_1_method_1_code 110 (.new 66) 3 113 := by decide +kernel
theorem d_C_init_113 : qd prog_1_method_1_code 113 (.dup) 1 114 := by decide +kernel
theorem d_C_init_114 : qd prog_1_method_1_code 114 (.invokespecial 68) 3 117 := by decide +kernel
theorem d_C_init_117 : qd prog_1_method_1_code 117 (.putfield 69) 3 120 := by decide +kernel
theorem d_C_init_120 : qd prog_1_method_1_code 120 (.aload_n 0) 1 121 := by decide +kernel
theorem d_C_init_121 : qd prog_1_method_1_code 121 (.new 73) 3 124 := by decide +kernel
theorem d_C_init_124 : qd prog_1_method_1_code 124 (.dup) 1 125 := by decide +kernel
theorem d_C_init_125 : qd prog_1_method_1_code 125 (.invokespecial 75) 3 128 := by decide +kernel
theorem d_C_init_128 : qd prog_1_method_1_code 128 (.putfield 76) 3 131 := by decide +kernel
theorem d_C_init_131 : qd prog_1_method_1_code 131 (.aload_n 0) 1 132 := by decide +kernel
theorem d_C_init_132 : qd prog_1_method_1_code 132 (.iconst 3) 1 133 := by decide +kernel
theorem d_C_init_133 : qd prog_1_method_1_code 133 (.newarray .int) 2 135 := by decide +kernel
theorem d_C_init_135 : qd prog_1_method_1_code 135 (.putfield 80) 3 138 := by decide +kernel
theorem d_C_init_138 : qd prog_1_method_1_code 138 (.aload_n 0) 1 139 := by decide +kernel
theorem d_C_init_139 : qd prog_1_method_1_code 139 (.new 83) 3 142 := by decide +kernel
theorem d_C_init_142 : qd prog_1_method_1_code 142 (.dup) 1 143 := by decide +kernel
theorem d_C_init_143 : qd prog_1_method_1_code 143 (.invokespecial 85) 3 146 := by decide +kernel
theorem d_C_init_146 : qd prog_1_method_1_code 146 (.putfield 86) 3 149 := by decide +kernel
theorem d_C_init_149 : qd prog_1_method_1_code 149 (.aload_n 0) 1 150 := by decide +kernel
theorem d_C_init_150 : qd prog_1_method_1_code 150 (.new 90) 3 153 := by decide +kernel
theorem d_C_init_153 : qd prog_1_method_1_code 153 (.dup) 1 154 := by decide +kernel
theorem d_C_init_154 : qd prog_1_method_1_code 154 (.aload_n 0) 1 155 := by decide +kernel
theorem d_C_init_155 : qd prog_1_method_1_code 155 (.getfield 19) 3 158 := by decide +kernel
theorem d_C_init_158 : qd prog_1_method_1_code 158 (.aload_n 0) 1 159 := by decide +kernel
theorem d_C_init_159 : qd prog_1_method_1_code 159 (.getfield 44) 3 162 := by decide +kernel
theorem d_C_init_162 : qd prog_1_method_1_code 162 (.aload_n 0) 1 163 := by decide +kernel
theorem d_C_init_163 : qd prog_1_method_1_code 163 (.getfield 37) 3 166 := by decide +kernel
theorem d_C_init_166 : qd prog_1_method_1_code 166 (.invokespecial 92) 3 169 := by decide +kernel
theorem d_C_init_169 : qd prog_1_method_1_code 169 (.putfield 95) 3 172 := by decide +kernel
theorem d_C_init_172 : qd prog_1_method_1_code 172 (.aload_n 0) 1 173 := by decide +kernel
theorem d_C_init_173 : qd prog_1_method_1_code 173 (.bipush 16) 2 175 := by decide +kernel
theorem d_C_init_175 : qd prog_1_method_1_code 175 (.newarray .int) 2 177 := by decide +kernel
theorem d_C_init_177 : qd prog_1_method_1_code 177 (.putfield 99) 3 180 := by decide +kernel
theorem d_C_init_180 : qd prog_1_method_1_code 180 (.aload_n 0) 1 181 := by decide +kernel
theorem d_C_init_181 : qd prog_1_method_1_code 181 (.iconst 0) 1 182 := by decide +kernel
theorem d_C_init_182 : qd prog_1_method_1_code 182 (.putfield 102) 3 185 := by decide +kernel
theorem d_C_init_185 : qd prog_1_method_1_code 185 (.aload_n 0) 1 186 := by decide +kernel
theorem d_C_init_186 : qd prog_1_method_1_code 186 (.iconst 0) 1 187 := by decide +kernel
theorem d_C_init_187 : qd prog_1_method_1_code 187 (.putfield 106) 3 190 := by decide +kernel
theorem d_C_init_190 : qd prog_1_method_1_code 190 (.aload_n 0) 1 191 := by decide +kernel
theorem d_C_init_191 : qd prog_1_method_1_code 191 (.iconst 0) 1 192 := by decide +kernel
theorem d_C_init_192 : qd prog_1_method_1_code 192 (.putfield 109) 3 195 := by decide +kernel
theorem d_C_init_195 : qd prog_1_method_1_code 195 (.aload_n 0) 1 196 := by decide +kernel
theorem d_C_init_196 : qd prog_1_method_1_code 196 (.getfield 37) 3 199 := by decide +kernel
theorem d_C_init_199 : qd prog_1_method_1_code 199 (.iconst 1) 1 200 := by decide +kernel
theorem d_C_init_200 : qd prog_1_method_1_code 200 (.invokestatic 112) 3 203 := by decide +kernel
theorem d_C_init_203 : qd prog_1_method_1_code 203 (.aload_n 0) 1 204 := by decide +kernel
theorem d_C_init_204 : qd prog_1_method_1_code 204 (.getfield 80) 3 207 := by decide +kernel
theorem d_C_init_207 : qd prog_1_method_1_code 207 (.iconst 0) 1 208 := by decide +kernel
theorem d_C_init_208 : qd prog_1_method_1_code 208 (.bipush 100) 2 210 := by decide +kernel
theorem d_C_init_210 : qd prog_1_method_1_code 210 (.iastore) 1 211 := by decide +kernel
theorem d_C_init_211 : qd prog_1_method_1_code 211 (.aload_n 0) 1 212 := by decide +kernel
theorem d_C_init_212 : qd prog_1_method_1_code 212 (.getfield 80) 3 215 := by decide +kernel
theorem d_C_init_215 : qd prog_1_method_1_code 215 (.iconst 1) 1 216 := by decide +kernel
theorem d_C_init_216 : qd prog_1_method_1_code 216 (.iconst 1) 1 217 := by decide +kernel
theorem d_C_init_217 : qd prog_1_method_1_code 217 (.iastore) 1 218 := by decide +kernel
theorem d_C_init_218 : qd prog_1_method_1_code 218 (.aload_n 0) 1 219 := by decide +kernel
theorem d_C_init_219 : qd prog_1_method_1_code 219 (.getfield 80) 3 222 := by decide +kernel
theorem d_C_init_222 : qd prog_1_method_1_code 222 (.iconst 2) 1 223 := by decide +kernel
theorem d_C_init_223 : qd prog_1_method_1_code 223 (.iconst 1) 1 224 := by decide +kernel
theorem d_C_init_224 : qd prog_1_method_1_code 224 (.iastore) 1 225 := by decide +kernel
theorem d_C_init_225 : qd prog_1_method_1_code 225 (.return_) 1 226 := by decide +kernel
theorem b_C_init_0 {ρ : qRf} {σ : qMem} (hb : qbl 1 ρ σ) : qbl 104 (qru (qru (qru (qru (qru (qru (qru (qru (qru (qru (qru (qru (qru (qrn (qru (qrn (qru (qru (qru (qru (qru (qru (qru (qru (qru (qru (qru (qru (qru (qru (qru (qru (qru (qru (qru (qru (qru (qru (qru (qru (qru (qru (qru (qru (qru (qru (qru (qru (qru (qru (qru (qru (qru (qru (qru (qru (qru (qru (qru (qru (qru (qru (qru (qru (qru (qrn (qru (qru (qrn (qru (qru ρ 1 0 (some 2)) 1 1 (some 3)) 4) 1 2 (some 4)) 0 0 (some 1)) 14) 13 0 (some 14)) 0 1 (some 13)) 27 0 (some 28)) 0 2 (some 27)) 29 0 (some 30)) 29 1 (some 31)) 0 3 (some 29)) 0 4 (some 32)) 33 0 (some 34)) 33 1 (some 35)) 33 2 (some 36)) 0 5 (some 33)) 37 1 (some 38)) 37 2 (some 39)) 37 3 (some 40)) 37 4 (some 41)) 37 0 (some 13)) 0 6 (some 37)) 42 4 (some 43)) 42 5 (some 44)) 42 6 (some 45)) 42 7 (some 46)) 42 8 (some 47)) 42 0 (some 13)) 42 1 (some 37)) 42 2 (some 33)) 42 3 (some 32)) 0 7 (some 42)) 48 0 (some 49)) 48 1 (some 50)) 48 2 (some 51)) 48 3 (some 52)) 0 8 (some 48)) 53 0 (some 54)) 53 1 (some 55)) 53 2 (some 56)) 53 3 (some 57)) 53 4 (some 58)) 59 0 (some 60)) 59 1 (some 61)) 59 2 (some 62)) 53 6 (some 59)) 53 7 (some 63)) 53 8 (some 64)) 53 9 (some 65)) 0 9 (some 53)) 0 10 (some 66)) 67 0 (some 68)) 67 1 (some 69)) 70) 67 2 (some 70)) 83) 67 3 (some 83)) 0 11 (some 67)) 96 3 (some 97)) 96 4 (some 98)) 96 5 (some 99)) 96 7 (some 100)) 96 9 (some 101)) 96 10 (some 102)) 96 0 (some 13)) 96 1 (some 33)) 96 2 (some 32)) 0 12 (some 96)) 0 13 (some 103)) (qmu (qmu (qmu (qfl (qmu (qmu (qmu (qmu (qmu (qfl (qmu (qmu (qmu (qmu (qmu (qmu (qmu (qmu (qmu (qmu (qmu (qmu (qmu (qmu (qmu (qfl σ 2 8 (-1 : Int32)) 13 1 (0 : Int32)) 27 1 (0 : Int32)) 27 2 (0 : Int32)) 27 3 (0 : Int32)) 27 4 (0 : Int32)) 27 5 (0 : Int32)) 29 2 (0 : Int32)) 29 3 (0 : Int32)) 33 3 (0 : Int32)) 37 5 (0 : Int32)) 42 9 (0 : Int32)) 48 4 (0 : Int32)) 53 5 (0 : Int32)) 59 3 (0 : Int32)) 53 10 (0 : Int32)) 68 12 (-1000000 : Int32)) 96 6 (0 : Int32)) 96 8 (0 : Int32)) 0 14 (0 : Int32)) 0 15 (0 : Int32)) 0 16 (0 : Int32)) 32 8 (1 : Int32)) 66 (qi (0 : Int32)) (100 : Int32)) 66 (qi (1 : Int32)) (1 : Int32)) 66 (qi (2 : Int32)) (1 : Int32)) := by
  have hb1 := qbl_up hb (Nat.le_succ 1)
  have hb2 := b_Sheets_init_1 hb1
  have hb3 := qbl_ru (k := 0) (j := 0) (v := some 1) hb2 (by decide)
  have hb4 := qbl_up hb3 (Nat.le_succ 13)
  have hb5 := b_Promises_init_13 hb4
  have hb6 := qbl_ru (k := 0) (j := 1) (v := some 13) hb5 (by decide)
  have hb7 := qbl_up hb6 (Nat.le_succ 27)
  have hb8 := b_Deeds_init_27 hb7
  have hb9 := qbl_ru (k := 0) (j := 2) (v := some 27) hb8 (by decide)
  have hb10 := qbl_up hb9 (Nat.le_succ 29)
  have hb11 := b_Feasts_init_29 hb10
  have hb12 := qbl_ru (k := 0) (j := 3) (v := some 29) hb11 (by decide)
  have hb13 := qbl_up hb12 (Nat.le_succ 32)
  have hb14 := qbl_ru (k := 0) (j := 4) (v := some 32) hb13 (by decide)
  have hb15 := qbl_up hb14 (Nat.le_succ 33)
  have hb16 := b_Spans_init_33 hb15
  have hb17 := qbl_ru (k := 0) (j := 5) (v := some 33) hb16 (by decide)
  have hb18 := qbl_up hb17 (Nat.le_succ 37)
  have hb19 := b_Acts_init_37 hb18
  have hb20 := qbl_ru (k := 0) (j := 6) (v := some 37) hb19 (by decide)
  have hb21 := qbl_up hb20 (Nat.le_succ 42)
  have hb22 := b_Lines_init_42 hb21
  have hb23 := qbl_ru (k := 0) (j := 7) (v := some 42) hb22 (by decide)
  have hb24 := qbl_up hb23 (Nat.le_succ 48)
  have hb25 := b_Joins_init_48 hb24
  have hb26 := qbl_ru (k := 0) (j := 8) (v := some 48) hb25 (by decide)
  have hb27 := qbl_up hb26 (Nat.le_succ 53)
  have hb28 := b_Houses_init_53 hb27
  have hb29 := qbl_ru (k := 0) (j := 9) (v := some 53) hb28 (by decide)
  have hb30 := qbl_up hb29 (Nat.le_succ 66)
  have hb31 := qbl_ru (k := 0) (j := 10) (v := some 66) hb30 (by decide)
  have hb32 := qbl_up hb31 (Nat.le_succ 67)
  have hb33 := b_Namings_init_67 hb32
  have hb34 := qbl_ru (k := 0) (j := 11) (v := some 67) hb33 (by decide)
  have hb35 := qbl_up hb34 (Nat.le_succ 96)
  have hb36 := b_Dawn_init_96 hb35
  have hb37 := qbl_ru (k := 0) (j := 12) (v := some 96) hb36 (by decide)
  have hb38 := qbl_up hb37 (Nat.le_succ 103)
  have hb39 := qbl_ru (k := 0) (j := 13) (v := some 103) hb38 (by decide)
  have hb40 := qbl_mu (k := 0) (j := 14) (v := (0 : Int32)) hb39 (by decide)
  have hb41 := qbl_mu (k := 0) (j := 15) (v := (0 : Int32)) hb40 (by decide)
  have hb42 := qbl_mu (k := 0) (j := 16) (v := (0 : Int32)) hb41 (by decide)
  have hb43 := qbl_fl (k := 32) (n1 := 8) (v := (1 : Int32)) hb42 (by decide)
  have hb44 := qbl_mu (k := 66) (j := qi (0 : Int32)) (v := (100 : Int32)) hb43 (by decide)
  have hb45 := qbl_mu (k := 66) (j := qi (1 : Int32)) (v := (1 : Int32)) hb44 (by decide)
  have hb46 := qbl_mu (k := 66) (j := qi (2 : Int32)) (v := (1 : Int32)) hb45 (by decide)
  exact hb46
set_option maxHeartbeats 4000000 in
set_option maxRecDepth 20000 in
theorem k_C_init_0 (l : Launch) (G : qG) (hA : qAd G) (f : Nat) (hf : 1000 ≤ f) (ρ : qRf) (σ : qMem) (hb : qbl 1 ρ σ) : qCt l y_C_init prog_1_method_1_code 1 none 3 G (qKS.take 1) ρ σ [.ref 0] none (qKS.take 104) (qru (qru (qru (qru (qru (qru (qru (qru (qru (qru (qru (qru (qru (qrn (qru (qrn (qru (qru (qru (qru (qru (qru (qru (qru (qru (qru (qru (qru (qru (qru (qru (qru (qru (qru (qru (qru (qru (qru (qru (qru (qru (qru (qru (qru (qru (qru (qru (qru (qru (qru (qru (qru (qru (qru (qru (qru (qru (qru (qru (qru (qru (qru (qru (qru (qru (qrn (qru (qru (qrn (qru (qru ρ 1 0 (some 2)) 1 1 (some 3)) 4) 1 2 (some 4)) 0 0 (some 1)) 14) 13 0 (some 14)) 0 1 (some 13)) 27 0 (some 28)) 0 2 (some 27)) 29 0 (some 30)) 29 1 (some 31)) 0 3 (some 29)) 0 4 (some 32)) 33 0 (some 34)) 33 1 (some 35)) 33 2 (some 36)) 0 5 (some 33)) 37 1 (some 38)) 37 2 (some 39)) 37 3 (some 40)) 37 4 (some 41)) 37 0 (some 13)) 0 6 (some 37)) 42 4 (some 43)) 42 5 (some 44)) 42 6 (some 45)) 42 7 (some 46)) 42 8 (some 47)) 42 0 (some 13)) 42 1 (some 37)) 42 2 (some 33)) 42 3 (some 32)) 0 7 (some 42)) 48 0 (some 49)) 48 1 (some 50)) 48 2 (some 51)) 48 3 (some 52)) 0 8 (some 48)) 53 0 (some 54)) 53 1 (some 55)) 53 2 (some 56)) 53 3 (some 57)) 53 4 (some 58)) 59 0 (some 60)) 59 1 (some 61)) 59 2 (some 62)) 53 6 (some 59)) 53 7 (some 63)) 53 8 (some 64)) 53 9 (some 65)) 0 9 (some 53)) 0 10 (some 66)) 67 0 (some 68)) 67 1 (some 69)) 70) 67 2 (some 70)) 83) 67 3 (some 83)) 0 11 (some 67)) 96 3 (some 97)) 96 4 (some 98)) 96 5 (some 99)) 96 7 (some 100)) 96 9 (some 101)) 96 10 (some 102)) 96 0 (some 13)) 96 1 (some 33)) 96 2 (some 32)) 0 12 (some 96)) 0 13 (some 103)) (qmu (qmu (qmu (qfl (qmu (qmu (qmu (qmu (qmu (qfl (qmu (qmu (qmu (qmu (qmu (qmu (qmu (qmu (qmu (qmu (qmu (qmu (qmu (qmu (qmu (qfl σ 2 8 (-1 : Int32)) 13 1 (0 : Int32)) 27 1 (0 : Int32)) 27 2 (0 : Int32)) 27 3 (0 : Int32)) 27 4 (0 : Int32)) 27 5 (0 : Int32)) 29 2 (0 : Int32)) 29 3 (0 : Int32)) 33 3 (0 : Int32)) 37 5 (0 : Int32)) 42 9 (0 : Int32)) 48 4 (0 : Int32)) 53 5 (0 : Int32)) 59 3 (0 : Int32)) 53 10 (0 : Int32)) 68 12 (-1000000 : Int32)) 96 6 (0 : Int32)) 96 8 (0 : Int32)) 0 14 (0 : Int32)) 0 15 (0 : Int32)) 0 16 (0 : Int32)) 32 8 (1 : Int32)) 66 (qi (0 : Int32)) (100 : Int32)) 66 (qi (1 : Int32)) (1 : Int32)) 66 (qi (2 : Int32)) (1 : Int32)) 103 2373 := by
  refine qCt.of (lv := [some (.ref 0)]) (by decide) hA (Nat.le_of_ble_eq_true rfl) rfl ?_
  intro X hl hcc hss hni hX hT
  subst hl
  refine q_aload_n hX d_C_init_0 rfl ?_
  refine q_objInit hX xw_1 xw_2 xw_3 (by decide) (Nat.le_of_ble_eq_true rfl) d_C_init_1 ?_
  refine q_aload_n hX d_C_init_4 rfl ?_
  refine q_new hX (c := 1) (nf := 3) (n := 1) (ks' := (qKS.take 2)) rfl xw_4 xw_5 xw_6 rfl (by decide) (hb.1 _ (Nat.le_refl _)) (hb.2 _ (Nat.le_refl _)) (by decide) ⟨by rw [hcc]; decide, by rw [hss]; decide⟩ d_C_init_5 ?_
  have hb1 := qbl_up hb (Nat.le_succ 1)
  refine q_dup hX rfl d_C_init_8 ?_
  refine q_callI hX (n := 0) (r := none) (k_Sheets_init_1 X.l G hX.ad f hf _ _ hb1) ⟨⟨xw_19, xw_17, xw_6, xw_18⟩, ⟨by decide +kernel, by decide +kernel, by decide +kernel⟩, by decide, rfl⟩ rfl (Nat.le_of_ble_eq_true rfl) rfl (Nat.le_of_ble_eq_true rfl) ⟨by rw [hcc]; decide, by rw [hss]; decide⟩ d_C_init_9 ?_
  have hb2 := b_Sheets_init_1 hb1
  refine q_putR hX (hni rfl) (c := 0) (j := 0) (n := 17) (C := qR0) (T := qT0) rfl (by decide) rfl xw_20 rfl rfl (by decide) (by decide) d_C_init_12 ?_
  have hb3 := qbl_ru (k := 0) (j := 0) (v := some 1) hb2 (by decide)
  refine q_aload_n hX d_C_init_15 rfl ?_
  refine q_new hX (c := 2) (nf := 2) (n := 13) (ks' := (qKS.take 14)) rfl xw_21 xw_22 xw_23 rfl (by decide) (hb3.1 _ (Nat.le_refl _)) (hb3.2 _ (Nat.le_refl _)) (by decide) ⟨by rw [hcc]; decide, by rw [hss]; decide⟩ d_C_init_16 ?_
  have hb4 := qbl_up hb3 (Nat.le_succ 13)
  refine q_dup hX rfl d_C_init_19 ?_
  refine q_callIN hX (n := 0) (r := none) (k_Promises_init_13 X.l G hX.ad f hf _ _ hb4) ⟨⟨xn_C_18, xw_28, xw_23, xw_29⟩, ⟨by decide +kernel, by decide +kernel, by decide +kernel⟩, by decide, rfl⟩ rfl (Nat.le_of_ble_eq_true rfl) rfl (Nat.le_of_ble_eq_true rfl) ⟨by rw [hcc]; decide, by rw [hss]; decide⟩ d_C_init_20 ?_
  have hb5 := b_Promises_init_13 hb4
  refine q_putR hX (hni rfl) (c := 0) (j := 1) (n := 17) (C := qR0) (T := qT0) rfl (by decide) rfl xw_30 rfl rfl (by decide) (by decide) d_C_init_23 ?_
  have hb6 := qbl_ru (k := 0) (j := 1) (v := some 13) hb5 (by decide)
  refine q_aload_n hX d_C_init_26 rfl ?_
  refine q_new hX (c := 3) (nf := 6) (n := 27) (ks' := (qKS.take 28)) rfl xw_31 xw_32 xw_33 rfl (by decide) (hb6.1 _ (Nat.le_refl _)) (hb6.2 _ (Nat.le_refl _)) (by decide) ⟨by rw [hcc]; decide, by rw [hss]; decide⟩ d_C_init_27 ?_
  have hb7 := qbl_up hb6 (Nat.le_succ 27)
  refine q_dup hX rfl d_C_init_30 ?_
  refine q_callIN hX (n := 0) (r := none) (k_Deeds_init_27 X.l G hX.ad f hf _ _ hb7) ⟨⟨xn_C_25, xw_42, xw_33, xw_43⟩, ⟨by decide +kernel, by decide +kernel, by decide +kernel⟩, by decide, rfl⟩ rfl (Nat.le_of_ble_eq_true rfl) rfl (Nat.le_of_ble_eq_true rfl) ⟨by rw [hcc]; decide, by rw [hss]; decide⟩ d_C_init_31 ?_
  have hb8 := b_Deeds_init_27 hb7
  refine q_putR hX (hni rfl) (c := 0) (j := 2) (n := 17) (C := qR0) (T := qT0) rfl (by decide) rfl xw_44 rfl rfl (by decide) (by decide) d_C_init_34 ?_
  have hb9 := qbl_ru (k := 0) (j := 2) (v := some 27) hb8 (by decide)
  refine q_aload_n hX d_C_init_37 rfl ?_
  refine q_new hX (c := 4) (nf := 4) (n := 29) (ks' := (qKS.take 30)) rfl xw_45 xw_46 xw_47 rfl (by decide) (hb9.1 _ (Nat.le_refl _)) (hb9.2 _ (Nat.le_refl _)) (by decide) ⟨by rw [hcc]; decide, by rw [hss]; decide⟩ d_C_init_38 ?_
  have hb10 := qbl_up hb9 (Nat.le_succ 29)
  refine q_dup hX rfl d_C_init_41 ?_
  refine q_callIN hX (n := 0) (r := none) (k_Feasts_init_29 X.l G hX.ad f hf _ _ hb10) ⟨⟨xn_C_32, xw_53, xw_47, xw_54⟩, ⟨by decide +kernel, by decide +kernel, by decide +kernel⟩, by decide, rfl⟩ rfl (Nat.le_of_ble_eq_true rfl) rfl (Nat.le_of_ble_eq_true rfl) ⟨by rw [hcc]; decide, by rw [hss]; decide⟩ d_C_init_42 ?_
  have hb11 := b_Feasts_init_29 hb10
  refine q_putR hX (hni rfl) (c := 0) (j := 3) (n := 17) (C := qR0) (T := qT0) rfl (by decide) rfl xw_55 rfl rfl (by decide) (by decide) d_C_init_45 ?_
  have hb12 := qbl_ru (k := 0) (j := 3) (v := some 29) hb11 (by decide)
  refine q_aload_n hX d_C_init_48 rfl ?_
  refine q_bipush hX (v := (8 : Int32)) d_C_init_49 (by decide +kernel) ?_
  refine q_newa hX (atype := .int) (ty := .int) (tg := 100) (N := 8) (n := 32) (t0 := 0) (ks' := (qKS.take 33)) rfl rfl (by decide) xw_8 (by decide) (by decide +kernel) (by decide) rfl (by decide) (hb12.2 _ (Nat.le_refl _)) (by decide) ⟨by rw [hcc]; decide, by rw [hss]; decide⟩ d_C_init_51 ?_
  have hb13 := qbl_up hb12 (Nat.le_succ 32)
  refine q_putR hX (hni rfl) (c := 0) (j := 4) (n := 17) (C := qR0) (T := qT0) rfl (by decide) rfl xw_56 rfl rfl (by decide) (by decide) d_C_init_53 ?_
  have hb14 := qbl_ru (k := 0) (j := 4) (v := some 32) hb13 (by decide)
  refine q_aload_n hX d_C_init_56 rfl ?_
  refine q_new hX (c := 5) (nf := 4) (n := 33) (ks' := (qKS.take 34)) rfl xw_57 xw_58 xw_59 rfl (by decide) (hb14.1 _ (Nat.le_refl _)) (hb14.2 _ (Nat.le_refl _)) (by decide) ⟨by rw [hcc]; decide, by rw [hss]; decide⟩ d_C_init_57 ?_
  have hb15 := qbl_up hb14 (Nat.le_succ 33)
  refine q_dup hX rfl d_C_init_60 ?_
  refine q_callIN hX (n := 0) (r := none) (k_Spans_init_33 X.l G hX.ad f hf _ _ hb15) ⟨⟨xn_C_43, xw_65, xw_59, xw_66⟩, ⟨by decide +kernel, by decide +kernel, by decide +kernel⟩, by decide, rfl⟩ rfl (Nat.le_of_ble_eq_true rfl) rfl (Nat.le_of_ble_eq_true rfl) ⟨by rw [hcc]; decide, by rw [hss]; decide⟩ d_C_init_61 ?_
  have hb16 := b_Spans_init_33 hb15
  refine q_putR hX (hni rfl) (c := 0) (j := 5) (n := 17) (C := qR0) (T := qT0) rfl (by decide) rfl xw_67 rfl rfl (by decide) (by decide) d_C_init_64 ?_
  have hb17 := qbl_ru (k := 0) (j := 5) (v := some 33) hb16 (by decide)
  refine q_aload_n hX d_C_init_67 rfl ?_
  refine q_new hX (c := 6) (nf := 6) (n := 37) (ks' := (qKS.take 38)) rfl xw_68 xw_69 xw_70 rfl (by decide) (hb17.1 _ (Nat.le_refl _)) (hb17.2 _ (Nat.le_refl _)) (by decide) ⟨by rw [hcc]; decide, by rw [hss]; decide⟩ d_C_init_68 ?_
  have hb18 := qbl_up hb17 (Nat.le_succ 37)
  refine q_dup hX rfl d_C_init_71 ?_
  refine q_aload_n hX d_C_init_72 rfl ?_
  refine q_getR hX (c := 0) (j := 1) (n := 17) (t := 13) ⟨qR0, qT0, rfl, by decide, rfl, xw_30, rfl⟩ (by decide) (by simp [qru, qrn]) d_C_init_73 ?_
  refine q_callI hX (n := 1) (r := none) (k_Acts_init_37 X.l G hX.ad f hf _ _ hb18) ⟨⟨xw_80, xw_78, xw_70, xw_79⟩, ⟨by decide +kernel, by decide +kernel, by decide +kernel⟩, by decide, rfl⟩ rfl (Nat.le_of_ble_eq_true rfl) rfl (Nat.le_of_ble_eq_true rfl) ⟨by rw [hcc]; decide, by rw [hss]; decide⟩ d_C_init_76 ?_
  have hb19 := b_Acts_init_37 hb18
  refine q_putR hX (hni rfl) (c := 0) (j := 6) (n := 17) (C := qR0) (T := qT0) rfl (by decide) rfl xw_81 rfl rfl (by decide) (by decide) d_C_init_79 ?_
  have hb20 := qbl_ru (k := 0) (j := 6) (v := some 37) hb19 (by decide)
  refine q_aload_n hX d_C_init_82 rfl ?_
  refine q_new hX (c := 7) (nf := 10) (n := 42) (ks' := (qKS.take 43)) rfl xw_82 xw_83 xw_84 rfl (by decide) (hb20.1 _ (Nat.le_refl _)) (hb20.2 _ (Nat.le_refl _)) (by decide) ⟨by rw [hcc]; decide, by rw [hss]; decide⟩ d_C_init_83 ?_
  have hb21 := qbl_up hb20 (Nat.le_succ 42)
  refine q_dup hX rfl d_C_init_86 ?_
  refine q_aload_n hX d_C_init_87 rfl ?_
  refine q_getR hX (c := 0) (j := 1) (n := 17) (t := 13) ⟨qR0, qT0, rfl, by decide, rfl, xw_30, rfl⟩ (by decide) (by simp [qru, qrn]) d_C_init_88 ?_
  refine q_aload_n hX d_C_init_91 rfl ?_
  refine q_getR hX (c := 0) (j := 6) (n := 17) (t := 37) ⟨qR0, qT0, rfl, by decide, rfl, xw_81, rfl⟩ (by decide) (by simp [qru, qrn]) d_C_init_92 ?_
  refine q_aload_n hX d_C_init_95 rfl ?_
  refine q_getR hX (c := 0) (j := 5) (n := 17) (t := 33) ⟨qR0, qT0, rfl, by decide, rfl, xw_67, rfl⟩ (by decide) (by simp [qru, qrn]) d_C_init_96 ?_
  refine q_aload_n hX d_C_init_99 rfl ?_
  refine q_getR hX (c := 0) (j := 4) (n := 17) (t := 32) ⟨qR0, qT0, rfl, by decide, rfl, xw_56, rfl⟩ (by decide) (by simp [qru, qrn]) d_C_init_100 ?_
  refine q_callI hX (n := 4) (r := none) (k_Lines_init_42 X.l G hX.ad f hf _ _ hb21) ⟨⟨xw_99, xw_97, xw_84, xw_98⟩, ⟨by decide +kernel, by decide +kernel, by decide +kernel⟩, by decide, rfl⟩ rfl (Nat.le_of_ble_eq_true rfl) rfl (Nat.le_of_ble_eq_true rfl) ⟨by rw [hcc]; decide, by rw [hss]; decide⟩ d_C_init_103 ?_
  have hb22 := b_Lines_init_42 hb21
  refine q_putR hX (hni rfl) (c := 0) (j := 7) (n := 17) (C := qR0) (T := qT0) rfl (by decide) rfl xw_100 rfl rfl (by decide) (by decide) d_C_init_106 ?_
  have hb23 := qbl_ru (k := 0) (j := 7) (v := some 42) hb22 (by decide)
  refine q_aload_n hX d_C_init_109 rfl ?_
  refine q_new hX (c := 8) (nf := 5) (n := 48) (ks' := (qKS.take 49)) rfl xw_101 xw_102 xw_103 rfl (by decide) (hb23.1 _ (Nat.le_refl _)) (hb23.2 _ (Nat.le_refl _)) (by decide) ⟨by rw [hcc]; decide, by rw [hss]; decide⟩ d_C_init_110 ?_
  have hb24 := qbl_up hb23 (Nat.le_succ 48)
  refine q_dup hX rfl d_C_init_113 ?_
  refine q_callIN hX (n := 0) (r := none) (k_Joins_init_48 X.l G hX.ad f hf _ _ hb24) ⟨⟨xn_C_68, xw_110, xw_103, xw_111⟩, ⟨by decide +kernel, by decide +kernel, by decide +kernel⟩, by decide, rfl⟩ rfl (Nat.le_of_ble_eq_true rfl) rfl (Nat.le_of_ble_eq_true rfl) ⟨by rw [hcc]; decide, by rw [hss]; decide⟩ d_C_init_114 ?_
  have hb25 := b_Joins_init_48 hb24
  refine q_putR hX (hni rfl) (c := 0) (j := 8) (n := 17) (C := qR0) (T := qT0) rfl (by decide) rfl xw_112 rfl rfl (by decide) (by decide) d_C_init_117 ?_
  have hb26 := qbl_ru (k := 0) (j := 8) (v := some 48) hb25 (by decide)
  refine q_aload_n hX d_C_init_120 rfl ?_
  refine q_new hX (c := 9) (nf := 11) (n := 53) (ks' := (qKS.take 54)) rfl xw_113 xw_114 xw_115 rfl (by decide) (hb26.1 _ (Nat.le_refl _)) (hb26.2 _ (Nat.le_refl _)) (by decide) ⟨by rw [hcc]; decide, by rw [hss]; decide⟩ d_C_init_121 ?_
  have hb27 := qbl_up hb26 (Nat.le_succ 53)
  refine q_dup hX rfl d_C_init_124 ?_
  refine q_callIN hX (n := 0) (r := none) (k_Houses_init_53 X.l G hX.ad f hf _ _ hb27) ⟨⟨xn_C_75, xw_129, xw_115, xw_130⟩, ⟨by decide +kernel, by decide +kernel, by decide +kernel⟩, by decide, rfl⟩ rfl (Nat.le_of_ble_eq_true rfl) rfl (Nat.le_of_ble_eq_true rfl) ⟨by rw [hcc]; decide, by rw [hss]; decide⟩ d_C_init_125 ?_
  have hb28 := b_Houses_init_53 hb27
  refine q_putR hX (hni rfl) (c := 0) (j := 9) (n := 17) (C := qR0) (T := qT0) rfl (by decide) rfl xw_131 rfl rfl (by decide) (by decide) d_C_init_128 ?_
  have hb29 := qbl_ru (k := 0) (j := 9) (v := some 53) hb28 (by decide)
  refine q_aload_n hX d_C_init_131 rfl ?_
  refine q_iconst hX (v := (3 : Int32)) d_C_init_132 (by decide +kernel) ?_
  refine q_newa hX (atype := .int) (ty := .int) (tg := 100) (N := 3) (n := 66) (t0 := 0) (ks' := (qKS.take 67)) rfl rfl (by decide) xw_8 (by decide) (by decide +kernel) (by decide) rfl (by decide) (hb29.2 _ (Nat.le_refl _)) (by decide) ⟨by rw [hcc]; decide, by rw [hss]; decide⟩ d_C_init_133 ?_
  have hb30 := qbl_up hb29 (Nat.le_succ 66)
  refine q_putR hX (hni rfl) (c := 0) (j := 10) (n := 17) (C := qR0) (T := qT0) rfl (by decide) rfl xw_132 rfl rfl (by decide) (by decide) d_C_init_135 ?_
  have hb31 := qbl_ru (k := 0) (j := 10) (v := some 66) hb30 (by decide)
  refine q_aload_n hX d_C_init_138 rfl ?_
  refine q_new hX (c := 10) (nf := 4) (n := 67) (ks' := (qKS.take 68)) rfl xw_133 xw_134 xw_135 rfl (by decide) (hb31.1 _ (Nat.le_refl _)) (hb31.2 _ (Nat.le_refl _)) (by decide) ⟨by rw [hcc]; decide, by rw [hss]; decide⟩ d_C_init_139 ?_
  have hb32 := qbl_up hb31 (Nat.le_succ 67)
  refine q_dup hX rfl d_C_init_142 ?_
  refine q_callI hX (n := 0) (r := none) (k_Namings_init_67 X.l G hX.ad f hf _ _ hb32) ⟨⟨xw_146, xw_144, xw_135, xw_145⟩, ⟨by decide +kernel, by decide +kernel, by decide +kernel⟩, by decide, rfl⟩ rfl (Nat.le_of_ble_eq_true rfl) rfl (Nat.le_of_ble_eq_true rfl) ⟨by rw [hcc]; decide, by rw [hss]; decide⟩ d_C_init_143 ?_
  have hb33 := b_Namings_init_67 hb32
  refine q_putR hX (hni rfl) (c := 0) (j := 11) (n := 17) (C := qR0) (T := qT0) rfl (by decide) rfl xw_147 rfl rfl (by decide) (by decide) d_C_init_146 ?_
  have hb34 := qbl_ru (k := 0) (j := 11) (v := some 67) hb33 (by decide)
  refine q_aload_n hX d_C_init_149 rfl ?_
  refine q_new hX (c := 11) (nf := 11) (n := 96) (ks' := (qKS.take 97)) rfl xw_148 xw_149 xw_150 rfl (by decide) (hb34.1 _ (Nat.le_refl _)) (hb34.2 _ (Nat.le_refl _)) (by decide) ⟨by rw [hcc]; decide, by rw [hss]; decide⟩ d_C_init_150 ?_
  have hb35 := qbl_up hb34 (Nat.le_succ 96)
  refine q_dup hX rfl d_C_init_153 ?_
  refine q_aload_n hX d_C_init_154 rfl ?_
  refine q_getR hX (c := 0) (j := 1) (n := 17) (t := 13) ⟨qR0, qT0, rfl, by decide, rfl, xw_30, rfl⟩ (by decide) (by simp [qru, qrn]) d_C_init_155 ?_
  refine q_aload_n hX d_C_init_158 rfl ?_
  refine q_getR hX (c := 0) (j := 5) (n := 17) (t := 33) ⟨qR0, qT0, rfl, by decide, rfl, xw_67, rfl⟩ (by decide) (by simp [qru, qrn]) d_C_init_159 ?_
  refine q_aload_n hX d_C_init_162 rfl ?_
  refine q_getR hX (c := 0) (j := 4) (n := 17) (t := 32) ⟨qR0, qT0, rfl, by decide, rfl, xw_56, rfl⟩ (by decide) (by simp [qru, qrn]) d_C_init_163 ?_
  refine q_callI hX (n := 3) (r := none) (k_Dawn_init_96 X.l G hX.ad f hf _ _ hb35) ⟨⟨xw_165, xw_163, xw_150, xw_164⟩, ⟨by decide +kernel, by decide +kernel, by decide +kernel⟩, by decide, rfl⟩ rfl (Nat.le_of_ble_eq_true rfl) rfl (Nat.le_of_ble_eq_true rfl) ⟨by rw [hcc]; decide, by rw [hss]; decide⟩ d_C_init_166 ?_
  have hb36 := b_Dawn_init_96 hb35
  refine q_putR hX (hni rfl) (c := 0) (j := 12) (n := 17) (C := qR0) (T := qT0) rfl (by decide) rfl xw_166 rfl rfl (by decide) (by decide) d_C_init_169 ?_
  have hb37 := qbl_ru (k := 0) (j := 12) (v := some 96) hb36 (by decide)
  refine q_aload_n hX d_C_init_172 rfl ?_
  refine q_bipush hX (v := (16 : Int32)) d_C_init_173 (by decide +kernel) ?_
  refine q_newa hX (atype := .int) (ty := .int) (tg := 100) (N := 16) (n := 103) (t0 := 0) (ks' := (qKS.take 104)) rfl rfl (by decide) xw_8 (by decide) (by decide +kernel) (by decide) rfl (by decide) (hb37.2 _ (Nat.le_refl _)) (by decide) ⟨by rw [hcc]; decide, by rw [hss]; decide⟩ d_C_init_175 ?_
  have hb38 := qbl_up hb37 (Nat.le_succ 103)
  refine q_putR hX (hni rfl) (c := 0) (j := 13) (n := 17) (C := qR0) (T := qT0) rfl (by decide) rfl xw_167 rfl rfl (by decide) (by decide) d_C_init_177 ?_
  have hb39 := qbl_ru (k := 0) (j := 13) (v := some 103) hb38 (by decide)
  refine q_aload_n hX d_C_init_180 rfl ?_
  refine q_iconst hX (v := (0 : Int32)) d_C_init_181 (by decide +kernel) ?_
  refine q_putI hX (c := 0) (j := 14) (n := 17) ⟨qR0, qT0, rfl, by decide, rfl, xw_168, rfl⟩ (by decide) rfl (by decide) d_C_init_182 ?_
  have hb40 := qbl_mu (k := 0) (j := 14) (v := (0 : Int32)) hb39 (by decide)
  refine q_aload_n hX d_C_init_185 rfl ?_
  refine q_iconst hX (v := (0 : Int32)) d_C_init_186 (by decide +kernel) ?_
  refine q_putI hX (c := 0) (j := 15) (n := 17) ⟨qR0, qT0, rfl, by decide, rfl, xw_169, rfl⟩ (by decide) rfl (by decide) d_C_init_187 ?_
  have hb41 := qbl_mu (k := 0) (j := 15) (v := (0 : Int32)) hb40 (by decide)
  refine q_aload_n hX d_C_init_190 rfl ?_
  refine q_iconst hX (v := (0 : Int32)) d_C_init_191 (by decide +kernel) ?_
  refine q_putI hX (c := 0) (j := 16) (n := 17) ⟨qR0, qT0, rfl, by decide, rfl, xw_170, rfl⟩ (by decide) rfl (by decide) d_C_init_192 ?_
  have hb42 := qbl_mu (k := 0) (j := 16) (v := (0 : Int32)) hb41 (by decide)
  refine q_aload_n hX d_C_init_195 rfl ?_
  refine q_getR hX (c := 0) (j := 4) (n := 17) (t := 32) ⟨qR0, qT0, rfl, by decide, rfl, xw_56, rfl⟩ (by decide) (by simp [qru, qrn]) d_C_init_196 ?_
  refine q_iconst hX (v := (1 : Int32)) d_C_init_199 (by decide +kernel) ?_
  refine q_callS hX (n := 2) (r := none) (c_fillG X.l G hX.ad f hf (ks := (qKS.take 104)) (by decide) (k := 32) (n := 8) (by decide) (by decide) (1 : Int32)) ⟨⟨xw_171, xw_14, xw_15, xw_16⟩, ⟨by decide +kernel, by decide +kernel, by decide +kernel⟩, by decide⟩ rfl (Nat.le_of_ble_eq_true rfl) rfl (Nat.le_of_ble_eq_true rfl) ⟨by rw [hcc]; decide, by rw [hss]; decide⟩ d_C_init_200 ?_
  have hb43 := qbl_fl (k := 32) (n1 := 8) (v := (1 : Int32)) hb42 (by decide)
  refine q_aload_n hX d_C_init_203 rfl ?_
  refine q_getR hX (c := 0) (j := 10) (n := 17) (t := 66) ⟨qR0, qT0, rfl, by decide, rfl, xw_132, rfl⟩ (by decide) (by simp [qru, qrn]) d_C_init_204 ?_
  refine q_iconst hX (v := (0 : Int32)) d_C_init_207 (by decide +kernel) ?_
  refine q_bipush hX (v := (100 : Int32)) d_C_init_208 (by decide +kernel) ?_
  refine q_iast (α := Unit) (a := some ()) (q := ()) hX (n := 3) (by decide) (by decide) d_C_init_210 (by decide +kernel) (fun _ _ => ?_)
  have hb44 := qbl_mu (k := 66) (j := qi (0 : Int32)) (v := (100 : Int32)) hb43 (by decide)
  refine q_aload_n hX d_C_init_211 rfl ?_
  refine q_getR hX (c := 0) (j := 10) (n := 17) (t := 66) ⟨qR0, qT0, rfl, by decide, rfl, xw_132, rfl⟩ (by decide) (by simp [qru, qrn]) d_C_init_212 ?_
  refine q_iconst hX (v := (1 : Int32)) d_C_init_215 (by decide +kernel) ?_
  refine q_iconst hX (v := (1 : Int32)) d_C_init_216 (by decide +kernel) ?_
  refine q_iast (α := Unit) (a := some ()) (q := ()) hX (n := 3) (by decide) (by decide) d_C_init_217 (by decide +kernel) (fun _ _ => ?_)
  have hb45 := qbl_mu (k := 66) (j := qi (1 : Int32)) (v := (1 : Int32)) hb44 (by decide)
  refine q_aload_n hX d_C_init_218 rfl ?_
  refine q_getR hX (c := 0) (j := 10) (n := 17) (t := 66) ⟨qR0, qT0, rfl, by decide, rfl, xw_132, rfl⟩ (by decide) (by simp [qru, qrn]) d_C_init_219 ?_
  refine q_iconst hX (v := (2 : Int32)) d_C_init_222 (by decide +kernel) ?_
  refine q_iconst hX (v := (1 : Int32)) d_C_init_223 (by decide +kernel) ?_
  refine q_iast (α := Unit) (a := some ()) (q := ()) hX (n := 3) (by decide) (by decide) d_C_init_224 (by decide +kernel) (fun _ _ => ?_)
  have hb46 := qbl_mu (k := 66) (j := qi (2 : Int32)) (v := (1 : Int32)) hb45 (by decide)
  exact q_vret hX hT d_C_init_225
theorem xw_172 : Cond.methodLink "ChantryRollsModel" 1 objectInit ∈ qAW := qw 1159 (by decide +kernel) rfl
theorem xw_173 : Cond.fieldLink "ChantryRollsModel" 7 "ChantryRollsModel" "lane" "[I" ∈ qAW := qw 1162 (by decide +kernel) rfl
theorem xw_174 : Cond.fieldLink "ChantryRollsModel" 13 "ChantryRollsModel" "many" "[I" ∈ qAW := qw 1163 (by decide +kernel) rfl
theorem xw_175 : Cond.fieldLink "ChantryRollsModel" 16 "ChantryRollsModel" "item" "[I" ∈ qAW := qw 1164 (by decide +kernel) rfl
theorem xw_176 : Cond.fieldLink "ChantryRollsModel" 19 "ChantryRollsModel" "row" "[I" ∈ qAW := qw 1166 (by decide +kernel) rfl
theorem xw_177 : Cond.fieldLink "ChantryRollsModel" 22 "ChantryRollsModel" "tape" "[I" ∈ qAW := qw 1167 (by decide +kernel) rfl
theorem xw_178 : Cond.fieldLink "ChantryRollsModel" 25 "ChantryRollsModel" "feastDay" "[I" ∈ qAW := qw 1179 (by decide +kernel) rfl
theorem xw_179 : Cond.fieldLink "ChantryRollsModel" 28 "ChantryRollsModel" "feastRank" "[I" ∈ qAW := qw 1180 (by decide +kernel) rfl
theorem xw_180 : Cond.fieldLink "ChantryRollsModel" 31 "ChantryRollsModel" "linePromise" "[I" ∈ qAW := qw 1182 (by decide +kernel) rfl
theorem xw_181 : Cond.fieldLink "ChantryRollsModel" 34 "ChantryRollsModel" "lineDay" "[I" ∈ qAW := qw 1183 (by decide +kernel) rfl
theorem xw_182 : Cond.fieldLink "ChantryRollsModel" 37 "ChantryRollsModel" "lineHour" "[I" ∈ qAW := qw 1184 (by decide +kernel) rfl
theorem xw_183 : Cond.fieldLink "ChantryRollsModel" 40 "ChantryRollsModel" "isGood" "[Z" ∈ qAW := qw 1185 (by decide +kernel) rfl
theorem xw_184 : Cond.fieldLink "ChantryRollsModel" 44 "ChantryRollsModel" "vows" "[I" ∈ qAW := qw 1186 (by decide +kernel) rfl
theorem xw_185 : Cond.fieldLink "ChantryRollsModel" 47 "ChantryRollsModel" "sickPriest" "[I" ∈ qAW := qw 1188 (by decide +kernel) rfl
theorem xw_186 : Cond.fieldLink "ChantryRollsModel" 50 "ChantryRollsModel" "sickFrom" "[I" ∈ qAW := qw 1189 (by decide +kernel) rfl
theorem xw_187 : Cond.fieldLink "ChantryRollsModel" 53 "ChantryRollsModel" "sickTo" "[I" ∈ qAW := qw 1190 (by decide +kernel) rfl
theorem xw_188 : Cond.fieldLink "ChantryRollsModel" 56 "ChantryRollsModel" "joinOne" "[I" ∈ qAW := qw 1192 (by decide +kernel) rfl
theorem xw_189 : Cond.fieldLink "ChantryRollsModel" 59 "ChantryRollsModel" "joinOther" "[I" ∈ qAW := qw 1193 (by decide +kernel) rfl
theorem xw_190 : Cond.fieldLink "ChantryRollsModel" 62 "ChantryRollsModel" "joinFrom" "[I" ∈ qAW := qw 1194 (by decide +kernel) rfl
theorem xw_191 : Cond.fieldLink "ChantryRollsModel" 65 "ChantryRollsModel" "joinTo" "[I" ∈ qAW := qw 1195 (by decide +kernel) rfl
theorem xw_192 : Cond.fieldLink "ChantryRollsModel" 68 "ChantryRollsModel" "rents" "[I" ∈ qAW := qw 1196 (by decide +kernel) rfl
theorem xw_193 : Cond.fieldLink "ChantryRollsModel" 71 "ChantryRollsModel" "shrinks" "[I" ∈ qAW := qw 1197 (by decide +kernel) rfl
theorem xw_194 : Cond.fieldLink "ChantryRollsModel" 74 "ChantryRollsModel" "repairHouse" "[I" ∈ qAW := qw 1199 (by decide +kernel) rfl
theorem xw_195 : Cond.fieldLink "ChantryRollsModel" 77 "ChantryRollsModel" "repairYear" "[I" ∈ qAW := qw 1200 (by decide +kernel) rfl
theorem xw_196 : Cond.fieldLink "ChantryRollsModel" 80 "ChantryRollsModel" "repairSum" "[I" ∈ qAW := qw 1201 (by decide +kernel) rfl
theorem xw_197 : Cond.fieldLink "ChantryRollsModel" 83 "ChantryRollsModel" "emptyHouse" "[I" ∈ qAW := qw 1203 (by decide +kernel) rfl
theorem xw_198 : Cond.fieldLink "ChantryRollsModel" 86 "ChantryRollsModel" "emptyFrom" "[I" ∈ qAW := qw 1204 (by decide +kernel) rfl
theorem xw_199 : Cond.fieldLink "ChantryRollsModel" 89 "ChantryRollsModel" "emptyTo" "[I" ∈ qAW := qw 1205 (by decide +kernel) rfl
theorem xw_200 : Cond.fieldLink "ChantryRollsModel" 92 "ChantryRollsModel" "prices" "[I" ∈ qAW := qw 1206 (by decide +kernel) rfl
theorem xw_201 : Cond.fieldLink "ChantryRollsModel" 95 "ChantryRollsModel" "vacantOn" "[I" ∈ qAW := qw 1207 (by decide +kernel) rfl
theorem xw_202 : Cond.fieldLink "ChantryRollsModel" 98 "ChantryRollsModel" "patrons" "[I" ∈ qAW := qw 1208 (by decide +kernel) rfl
theorem xw_203 : Cond.fieldLink "ChantryRollsModel" 101 "ChantryRollsModel" "patron" "[I" ∈ qAW := qw 1209 (by decide +kernel) rfl
theorem xw_204 : Cond.fieldLink "ChantryRollsModel" 104 "ChantryRollsModel" "actDay" "[I" ∈ qAW := qw 1211 (by decide +kernel) rfl
theorem xw_205 : Cond.fieldLink "ChantryRollsModel" 107 "ChantryRollsModel" "actFrom" "[I" ∈ qAW := qw 1212 (by decide +kernel) rfl
theorem xw_206 : Cond.fieldLink "ChantryRollsModel" 110 "ChantryRollsModel" "actTo" "[I" ∈ qAW := qw 1213 (by decide +kernel) rfl
theorem xw_207 : Cond.fieldLink "ChantryRollsModel" 113 "ChantryRollsModel" "actSpares" "[I" ∈ qAW := qw 1214 (by decide +kernel) rfl
theorem xw_208 : Cond.fieldLink "ChantryRollsModel" 116 "ChantryRollsModel" "bidHouse" "[I" ∈ qAW := qw 1216 (by decide +kernel) rfl
theorem xw_209 : Cond.fieldLink "ChantryRollsModel" 119 "ChantryRollsModel" "bidPerson" "[I" ∈ qAW := qw 1217 (by decide +kernel) rfl
theorem xw_210 : Cond.fieldLink "ChantryRollsModel" 122 "ChantryRollsModel" "bidSum" "[I" ∈ qAW := qw 1218 (by decide +kernel) rfl
theorem xw_211 : Cond.fieldLink "ChantryRollsModel" 125 "ChantryRollsModel" "dealt" "[I" ∈ qAW := qw 1219 (by decide +kernel) rfl
theorem xw_212 : Cond.fieldLink "ChantryRollsModel" 128 "ChantryRollsModel" "bestDealt" "[I" ∈ qAW := qw 1220 (by decide +kernel) rfl
theorem xw_213 : Cond.fieldLink "ChantryRollsModel" 131 "ChantryRollsModel" "whose" "[I" ∈ qAW := qw 1221 (by decide +kernel) rfl
theorem xw_214 : Cond.fieldLink "ChantryRollsModel" 134 "ChantryRollsModel" "trace" "[I" ∈ qAW := qw 1223 (by decide +kernel) rfl
theorem d_M_init_0 : qd prog_14_method_1_code 0 (.aload_n 0) 1 1 := by decide +kernel
theorem d_M_init_1 : qd prog_14_method_1_code 1 (.invokespecial 1) 3 4 := by decide +kernel
theorem d_M_init_4 : qd prog_14_method_1_code 4 (.aload_n 0) 1 5 := by decide +kernel
theorem d_M_init_5 : qd prog_14_method_1_code 5 (.bipush 8) 2 7 := by decide +kernel
theorem d_M_init_7 : qd prog_14_method_1_code 7 (.newarray .int) 2 9 := by decide +kernel
theorem d_M_init_9 : qd prog_14_method_1_code 9 (.dup) 1 10 := by decide +kernel
theorem d_M_init_10 : qd prog_14_method_1_code 10 (.iconst 0) 1 11 := by decide +kernel
theorem d_M_init_11 : qd prog_14_method_1_code 11 (.iconst (-1)) 1 12 := by decide +kernel
theorem d_M_init_12 : qd prog_14_method_1_code 12 (.iastore) 1 13 := by decide +kernel
theorem d_M_init_13 : qd prog_14_method_1_code 13 (.dup) 1 14 := by decide +kernel
theorem d_M_init_14 : qd prog_14_method_1_code 14 (.iconst 1) 1 15 := by decide +kernel
theorem d_M_init_15 : qd prog_14_method_1_code 15 (.iconst (-1)) 1 16 := by decide +kernel
theorem d_M_init_16 : qd prog_14_method_1_code 16 (.iastore) 1 17 := by decide +kernel
theorem d_M_init_17 : qd prog_14_method_1_code 17 (.dup) 1 18 := by decide +kernel
theorem d_M_init_18 : qd prog_14_method_1_code 18 (.iconst 2) 1 19 := by decide +kernel
theorem d_M_init_19 : qd prog_14_method_1_code 19 (.iconst (-1)) 1 20 := by decide +kernel
theorem d_M_init_20 : qd prog_14_method_1_code 20 (.iastore) 1 21 := by decide +kernel
theorem d_M_init_21 : qd prog_14_method_1_code 21 (.dup) 1 22 := by decide +kernel
theorem d_M_init_22 : qd prog_14_method_1_code 22 (.iconst 3) 1 23 := by decide +kernel
theorem d_M_init_23 : qd prog_14_method_1_code 23 (.iconst (-1)) 1 24 := by decide +kernel
theorem d_M_init_24 : qd prog_14_method_1_code 24 (.iastore) 1 25 := by decide +kernel
theorem d_M_init_25 : qd prog_14_method_1_code 25 (.dup) 1 26 := by decide +kernel
theorem d_M_init_26 : qd prog_14_method_1_code 26 (.iconst 4) 1 27 := by decide +kernel
theorem d_M_init_27 : qd prog_14_method_1_code 27 (.iconst (-1)) 1 28 := by decide +kernel
theorem d_M_init_28 : qd prog_14_method_1_code 28 (.iastore) 1 29 := by decide +kernel
theorem d_M_init_29 : qd prog_14_method_1_code 29 (.dup) 1 30 := by decide +kernel
theorem d_M_init_30 : qd prog_14_method_1_code 30 (.iconst 5) 1 31 := by decide +kernel
theorem d_M_init_31 : qd prog_14_method_1_code 31 (.iconst (-1)) 1 32 := by decide +kernel
theorem d_M_init_32 : qd prog_14_method_1_code 32 (.iastore) 1 33 := by decide +kernel
theorem d_M_init_33 : qd prog_14_method_1_code 33 (.dup) 1 34 := by decide +kernel
theorem d_M_init_34 : qd prog_14_method_1_code 34 (.bipush 6) 2 36 := by decide +kernel
theorem d_M_init_36 : qd prog_14_method_1_code 36 (.iconst (-1)) 1 37 := by decide +kernel
theorem d_M_init_37 : qd prog_14_method_1_code 37 (.iastore) 1 38 := by decide +kernel
theorem d_M_init_38 : qd prog_14_method_1_code 38 (.dup) 1 39 := by decide +kernel
theorem d_M_init_39 : qd prog_14_method_1_code 39 (.bipush 7) 2 41 := by decide +kernel
theorem d_M_init_41 : qd prog_14_method_1_code 41 (.iconst (-1)) 1 42 := by decide +kernel
theorem d_M_init_42 : qd prog_14_method_1_code 42 (.iastore) 1 43 := by decide +kernel
theorem d_M_init_43 : qd prog_14_method_1_code 43 (.putfield 7) 3 46 := by decide +kernel
theorem d_M_init_46 : qd prog_14_method_1_code 46 (.aload_n 0) 1 47 := by decide +kernel
theorem d_M_init_47 : qd prog_14_method_1_code 47 (.bipush 8) 2 49 := by decide +kernel
theorem d_M_init_49 : qd prog_14_method_1_code 49 (.newarray .int) 2 51 := by decide +kernel
theorem d_M_init_51 : qd prog_14_method_1_code 51 (.putfield 13) 3 54 := by decide +kernel
theorem d_M_init_54 : qd prog_14_method_1_code 54 (.aload_n 0) 1 55 := by decide +kernel
theorem d_M_init_55 : qd prog_14_method_1_code 55 (.sipush 480) 3 58 := by decide +kernel
theorem d_M_init_58 : qd prog_14_method_1_code 58 (.newarray .int) 2 60 := by decide +kernel
theorem d_M_init_60 : qd prog_14_method_1_code 60 (.putfield 16) 3 63 := by decide +kernel
theorem d_M_init_63 : qd prog_14_method_1_code 63 (.aload_n 0) 1 64 := by decide +kernel
theorem d_M_init_64 : qd prog_14_method_1_code 64 (.sipush 132) 3 67 := by decide +kernel
theorem d_M_init_67 : qd prog_14_method_1_code 67 (.newarray .int) 2 69 := by decide +kernel
theorem d_M_init_69 : qd prog_14_method_1_code 69 (.putfield 19) 3 72 := by decide +kernel
theorem d_M_init_72 : qd prog_14_method_1_code 72 (.aload_n 0) 1 73 := by decide +kernel
theorem d_M_init_73 : qd prog_14_method_1_code 73 (.sipush 500) 3 76 := by decide +kernel
theorem d_M_init_76 : qd prog_14_method_1_code 76 (.newarray .int) 2 78 := by decide +kernel
theorem d_M_init_78 : qd prog_14_method_1_code 78 (.putfield 22) 3 81 := by decide +kernel
theorem d_M_init_81 : qd prog_14_method_1_code 81 (.aload_n 0) 1 82 := by decide +kernel
theorem d_M_init_82 : qd prog_14_method_1_code 82 (.bipush 30) 2 84 := by decide +kernel
theorem d_M_init_84 : qd prog_14_method_1_code 84 (.newarray .int) 2 86 := by decide +kernel
theorem d_M_init_86 : qd prog_14_method_1_code 86 (.putfield 25) 3 89 := by decide +kernel
theorem d_M_init_89 : qd prog_14_method_1_code 89 (.aload_n 0) 1 90 := by decide +kernel
theorem d_M_init_90 : qd prog_14_method_1_code 90 (.bipush 30) 2 92 := by decide +kernel
theorem d_M_init_92 : qd prog_14_method_1_code 92 (.newarray .int) 2 94 := by decide +kernel
theorem d_M_init_94 : qd prog_14_method_1_code 94 (.putfield 28) 3 97 := by decide +kernel
theorem d_M_init_97 : qd prog_14_method_1_code 97 (.aload_n 0) 1 98 := by decide +kernel
theorem d_M_init_98 : qd prog_14_method_1_code 98 (.bipush 60) 2 100 := by decide +kernel
theorem d_M_init_100 : qd prog_14_method_1_code 100 (.newarray .int) 2 102 := by decide +kernel
theorem d_M_init_102 : qd prog_14_method_1_code 102 (.putfield 31) 3 105 := by decide +kernel
theorem d_M_init_105 : qd prog_14_method_1_code 105 (.aload_n 0) 1 106 := by decide +kernel
theorem d_M_init_106 : qd prog_14_method_1_code 106 (.bipush 60) 2 108 := by decide +kernel
theorem d_M_init_108 : qd prog_14_method_1_code 108 (.newarray .int) 2 110 := by decide +kernel
theorem d_M_init_110 : qd prog_14_method_1_code 110 (.putfield 34) 3 113 := by decide +kernel
theorem d_M_init_113 : qd prog_14_method_1_code 113 (.aload_n 0) 1 114 := by decide +kernel
theorem d_M_init_114 : qd prog_14_method_1_code 114 (.bipush 60) 2 116 := by decide +kernel
theorem d_M_init_116 : qd prog_14_method_1_code 116 (.newarray .int) 2 118 := by decide +kernel
theorem d_M_init_118 : qd prog_14_method_1_code 118 (.putfield 37) 3 121 := by decide +kernel
theorem d_M_init_121 : qd prog_14_method_1_code 121 (.aload_n 0) 1 122 := by decide +kernel
theorem d_M_init_122 : qd prog_14_method_1_code 122 (.bipush 60) 2 124 := by decide +kernel
theorem d_M_init_124 : qd prog_14_method_1_code 124 (.newarray .boolean) 2 126 := by decide +kernel
theorem d_M_init_126 : qd prog_14_method_1_code 126 (.putfield 40) 3 129 := by decide +kernel
theorem d_M_init_129 : qd prog_14_method_1_code 129 (.aload_n 0) 1 130 := by decide +kernel
theorem d_M_init_130 : qd prog_14_method_1_code 130 (.bipush 8) 2 132 := by decide +kernel
theorem d_M_init_132 : qd prog_14_method_1_code 132 (.newarray .int) 2 134 := by decide +kernel
theorem d_M_init_134 : qd prog_14_method_1_code 134 (.dup) 1 135 := by decide +kernel
theorem d_M_init_135 : qd prog_14_method_1_code 135 (.iconst 0) 1 136 := by decide +kernel
theorem d_M_init_136 : qd prog_14_method_1_code 136 (.iconst 1) 1 137 := by decide +kernel
theorem d_M_init_137 : qd prog_14_method_1_code 137 (.iastore) 1 138 := by decide +kernel
theorem d_M_init_138 : qd prog_14_method_1_code 138 (.dup) 1 139 := by decide +kernel
theorem d_M_init_139 : qd prog_14_method_1_code 139 (.iconst 1) 1 140 := by decide +kernel
theorem d_M_init_140 : qd prog_14_method_1_code 140 (.iconst 1) 1 141 := by decide +kernel
theorem d_M_init_141 : qd prog_14_method_1_code 141 (.iastore) 1 142 := by decide +kernel
theorem d_M_init_142 : qd prog_14_method_1_code 142 (.dup) 1 143 := by decide +kernel
theorem d_M_init_143 : qd prog_14_method_1_code 143 (.iconst 2) 1 144 := by decide +kernel
theorem d_M_init_144 : qd prog_14_method_1_code 144 (.iconst 1) 1 145 := by decide +kernel
theorem d_M_init_145 : qd prog_14_method_1_code 145 (.iastore) 1 146 := by decide +kernel
theorem d_M_init_146 : qd prog_14_method_1_code 146 (.dup) 1 147 := by decide +kernel
theorem d_M_init_147 : qd prog_14_method_1_code 147 (.iconst 3) 1 148 := by decide +kernel
theorem d_M_init_148 : qd prog_14_method_1_code 148 (.iconst 1) 1 149 := by decide +kernel
theorem d_M_init_149 : qd prog_14_method_1_code 149 (.iastore) 1 150 := by decide +kernel
theorem d_M_init_150 : qd prog_14_method_1_code 150 (.dup) 1 151 := by decide +kernel
theorem d_M_init_151 : qd prog_14_method_1_code 151 (.iconst 4) 1 152 := by decide +kernel
theorem d_M_init_152 : qd prog_14_method_1_code 152 (.iconst 1) 1 153 := by decide +kernel
theorem d_M_init_153 : qd prog_14_method_1_code 153 (.iastore) 1 154 := by decide +kernel
theorem d_M_init_154 : qd prog_14_method_1_code 154 (.dup) 1 155 := by decide +kernel
theorem d_M_init_155 : qd prog_14_method_1_code 155 (.iconst 5) 1 156 := by decide +kernel
theorem d_M_init_156 : qd prog_14_method_1_code 156 (.iconst 1) 1 157 := by decide +kernel
theorem d_M_init_157 : qd prog_14_method_1_code 157 (.iastore) 1 158 := by decide +kernel
theorem d_M_init_158 : qd prog_14_method_1_code 158 (.dup) 1 159 := by decide +kernel
theorem d_M_init_159 : qd prog_14_method_1_code 159 (.bipush 6) 2 161 := by decide +kernel
theorem d_M_init_161 : qd prog_14_method_1_code 161 (.iconst 1) 1 162 := by decide +kernel
theorem d_M_init_162 : qd prog_14_method_1_code 162 (.iastore) 1 163 := by decide +kernel
theorem d_M_init_163 : qd prog_14_method_1_code 163 (.dup) 1 164 := by decide +kernel
theorem d_M_init_164 : qd prog_14_method_1_code 164 (.bipush 7) 2 166 := by decide +kernel
theorem d_M_init_166 : qd prog_14_method_1_code 166 (.iconst 1) 1 167 := by decide +kernel
theorem d_M_init_167 : qd prog_14_method_1_code 167 (.iastore) 1 168 := by decide +kernel
theorem d_M_init_168 : qd prog_14_method_1_code 168 (.putfield 44) 3 171 := by decide +kernel
theorem d_M_init_171 : qd prog_14_method_1_code 171 (.aload_n 0) 1 172 := by decide +kernel
theorem d_M_init_172 : qd prog_14_method_1_code 172 (.bipush 20) 2 174 := by decide +kernel
theorem d_M_init_174 : qd prog_14_method_1_code 174 (.newarray .int) 2 176 := by decide +kernel
theorem d_M_init_176 : qd prog_14_method_1_code 176 (.putfield 47) 3 179 := by decide +kernel
theorem d_M_init_179 : qd prog_14_method_1_code 179 (.aload_n 0) 1 180 := by decide +kernel
theorem d_M_init_180 : qd prog_14_method_1_code 180 (.bipush 20) 2 182 := by decide +kernel
theorem d_M_init_182 : qd prog_14_method_1_code 182 (.newarray .int) 2 184 := by decide +kernel
theorem d_M_init_184 : qd prog_14_method_1_code 184 (.putfield 50) 3 187 := by decide +kernel
theorem d_M_init_187 : qd prog_14_method_1_code 187 (.aload_n 0) 1 188 := by decide +kernel
theorem d_M_init_188 : qd prog_14_method_1_code 188 (.bipush 20) 2 190 := by decide +kernel
theorem d_M_init_190 : qd prog_14_method_1_code 190 (.newarray .int) 2 192 := by decide +kernel
theorem d_M_init_192 : qd prog_14_method_1_code 192 (.putfield 53) 3 195 := by decide +kernel
theorem d_M_init_195 : qd prog_14_method_1_code 195 (.aload_n 0) 1 196 := by decide +kernel
theorem d_M_init_196 : qd prog_14_method_1_code 196 (.bipush 10) 2 198 := by decide +kernel
theorem d_M_init_198 : qd prog_14_method_1_code 198 (.newarray .int) 2 200 := by decide +kernel
theorem d_M_init_200 : qd prog_14_method_1_code 200 (.putfield 56) 3 203 := by decide +kernel
theorem d_M_init_203 : qd prog_14_method_1_code 203 (.aload_n 0) 1 204 := by decide +kernel
theorem d_M_init_204 : qd prog_14_method_1_code 204 (.bipush 10) 2 206 := by decide +kernel
theorem d_M_init_206 : qd prog_14_method_1_code 206 (.newarray .int) 2 208 := by decide +kernel
theorem d_M_init_208 : qd prog_14_method_1_code 208 (.putfield 59) 3 211 := by decide +kernel
theorem d_M_init_211 : qd prog_14_method_1_code 211 (.aload_n 0) 1 212 := by decide +kernel
theorem d_M_init_212 : qd prog_14_method_1_code 212 (.bipush 10) 2 214 := by decide +kernel
theorem d_M_init_214 : qd prog_14_method_1_code 214 (.newarray .int) 2 216 := by decide +kernel
theorem d_M_init_216 : qd prog_14_method_1_code 216 (.putfield 62) 3 219 := by decide +kernel
theorem d_M_init_219 : qd prog_14_method_1_code 219 (.aload_n 0) 1 220 := by decide +kernel
theorem d_M_init_220 : qd prog_14_method_1_code 220 (.bipush 10) 2 222 := by decide +kernel
theorem d_M_init_222 : qd prog_14_method_1_code 222 (.newarray .int) 2 224 := by decide +kernel
theorem d_M_init_224 : qd prog_14_method_1_code 224 (.putfield 65) 3 227 := by decide +kernel
theorem d_M_init_227 : qd prog_14_method_1_code 227 (.aload_n 0) 1 228 := by decide +kernel
theorem d_M_init_228 : qd prog_14_method_1_code 228 (.bipush 6) 2 230 := by decide +kernel
theorem d_M_init_230 : qd prog_14_method_1_code 230 (.newarray .int) 2 232 := by decide +kernel
theorem d_M_init_232 : qd prog_14_method_1_code 232 (.putfield 68) 3 235 := by decide +kernel
theorem d_M_init_235 : qd prog_14_method_1_code 235 (.aload_n 0) 1 236 := by decide +kernel
theorem d_M_init_236 : qd prog_14_method_1_code 236 (.bipush 6) 2 238 := by decide +kernel
theorem d_M_init_238 : qd prog_14_method_1_code 238 (.newarray .int) 2 240 := by decide +kernel
theorem d_M_init_240 : qd prog_14_method_1_code 240 (.putfield 71) 3 243 := by decide +kernel
theorem d_M_init_243 : qd prog_14_method_1_code 243 (.aload_n 0) 1 244 := by decide +kernel
theorem d_M_init_244 : qd prog_14_method_1_code 244 (.bipush 20) 2 246 := by decide +kernel
theorem d_M_init_246 : qd prog_14_method_1_code 246 (.newarray .int) 2 248 := by decide +kernel
theorem d_M_init_248 : qd prog_14_method_1_code 248 (.putfield 74) 3 251 := by decide +kernel
theorem d_M_init_251 : qd prog_14_method_1_code 251 (.aload_n 0) 1 252 := by decide +kernel
theorem d_M_init_252 : qd prog_14_method_1_code 252 (.bipush 20) 2 254 := by decide +kernel
theorem d_M_init_254 : qd prog_14_method_1_code 254 (.newarray .int) 2 256 := by decide +kernel
theorem d_M_init_256 : qd prog_14_method_1_code 256 (.putfield 77) 3 259 := by decide +kernel
theorem d_M_init_259 : qd prog_14_method_1_code 259 (.aload_n 0) 1 260 := by decide +kernel
theorem d_M_init_260 : qd prog_14_method_1_code 260 (.bipush 20) 2 262 := by decide +kernel
theorem d_M_init_262 : qd prog_14_method_1_code 262 (.newarray .int) 2 264 := by decide +kernel
theorem d_M_init_264 : qd prog_14_method_1_code 264 (.putfield 80) 3 267 := by decide +kernel
theorem d_M_init_267 : qd prog_14_method_1_code 267 (.aload_n 0) 1 268 := by decide +kernel
theorem d_M_init_268 : qd prog_14_method_1_code 268 (.bipush 20) 2 270 := by decide +kernel
theorem d_M_init_270 : qd prog_14_method_1_code 270 (.newarray .int) 2 272 := by decide +kernel
theorem d_M_init_272 : qd prog_14_method_1_code 272 (.putfield 83) 3 275 := by decide +kernel
theorem d_M_init_275 : qd prog_14_method_1_code 275 (.aload_n 0) 1 276 := by decide +kernel
theorem d_M_init_276 : qd prog_14_method_1_code 276 (.bipush 20) 2 278 := by decide +kernel
theorem d_M_init_278 : qd prog_14_method_1_code 278 (.newarray .int) 2 280 := by decide +kernel
theorem d_M_init_280 : qd prog_14_method_1_code 280 (.putfield 86) 3 283 := by decide +kernel
theorem d_M_init_283 : qd prog_14_method_1_code 283 (.aload_n 0) 1 284 := by decide +kernel
theorem d_M_init_284 : qd prog_14_method_1_code 284 (.bipush 20) 2 286 := by decide +kernel
theorem d_M_init_286 : qd prog_14_method_1_code 286 (.newarray .int) 2 288 := by decide +kernel
theorem d_M_init_288 : qd prog_14_method_1_code 288 (.putfield 89) 3 291 := by decide +kernel
theorem d_M_init_291 : qd prog_14_method_1_code 291 (.aload_n 0) 1 292 := by decide +kernel
theorem d_M_init_292 : qd prog_14_method_1_code 292 (.iconst 3) 1 293 := by decide +kernel
theorem d_M_init_293 : qd prog_14_method_1_code 293 (.newarray .int) 2 295 := by decide +kernel
theorem d_M_init_295 : qd prog_14_method_1_code 295 (.dup) 1 296 := by decide +kernel
theorem d_M_init_296 : qd prog_14_method_1_code 296 (.iconst 0) 1 297 := by decide +kernel
theorem d_M_init_297 : qd prog_14_method_1_code 297 (.bipush 100) 2 299 := by decide +kernel
theorem d_M_init_299 : qd prog_14_method_1_code 299 (.iastore) 1 300 := by decide +kernel
theorem d_M_init_300 : qd prog_14_method_1_code 300 (.dup) 1 301 := by decide +kernel
theorem d_M_init_301 : qd prog_14_method_1_code 301 (.iconst 1) 1 302 := by decide +kernel
theorem d_M_init_302 : qd prog_14_method_1_code 302 (.iconst 1) 1 303 := by decide +kernel
theorem d_M_init_303 : qd prog_14_method_1_code 303 (.iastore) 1 304 := by decide +kernel
theorem d_M_init_304 : qd prog_14_method_1_code 304 (.dup) 1 305 := by decide +kernel
theorem d_M_init_305 : qd prog_14_method_1_code 305 (.iconst 2) 1 306 := by decide +kernel
theorem d_M_init_306 : qd prog_14_method_1_code 306 (.iconst 1) 1 307 := by decide +kernel
theorem d_M_init_307 : qd prog_14_method_1_code 307 (.iastore) 1 308 := by decide +kernel
theorem d_M_init_308 : qd prog_14_method_1_code 308 (.putfield 92) 3 311 := by decide +kernel
theorem d_M_init_311 : qd prog_14_method_1_code 311 (.aload_n 0) 1 312 := by decide +kernel
theorem d_M_init_312 : qd prog_14_method_1_code 312 (.bipush 12) 2 314 := by decide +kernel
theorem d_M_init_314 : qd prog_14_method_1_code 314 (.newarray .int) 2 316 := by decide +kernel
theorem d_M_init_316 : qd prog_14_method_1_code 316 (.putfield 95) 3 319 := by decide +kernel
theorem d_M_init_319 : qd prog_14_method_1_code 319 (.aload_n 0) 1 320 := by decide +kernel
theorem d_M_init_320 : qd prog_14_method_1_code 320 (.bipush 12) 2 322 := by decide +kernel
theorem d_M_init_322 : qd prog_14_method_1_code 322 (.newarray .int) 2 324 := by decide +kernel
theorem d_M_init_324 : qd prog_14_method_1_code 324 (.putfield 98) 3 327 := by decide +kernel
theorem d_M_init_327 : qd prog_14_method_1_code 327 (.aload_n 0) 1 328 := by decide +kernel
theorem d_M_init_328 : qd prog_14_method_1_code 328 (.bipush 96) 2 330 := by decide +kernel
theorem d_M_init_330 : qd prog_14_method_1_code 330 (.newarray .int) 2 332 := by decide +kernel
theorem d_M_init_332 : qd prog_14_method_1_code 332 (.putfield 101) 3 335 := by decide +kernel
theorem d_M_init_335 : qd prog_14_method_1_code 335 (.aload_n 0) 1 336 := by decide +kernel
theorem d_M_init_336 : qd prog_14_method_1_code 336 (.bipush 10) 2 338 := by decide +kernel
theorem d_M_init_338 : qd prog_14_method_1_code 338 (.newarray .int) 2 340 := by decide +kernel
theorem d_M_init_340 : qd prog_14_method_1_code 340 (.putfield 104) 3 343 := by decide +kernel
theorem d_M_init_343 : qd prog_14_method_1_code 343 (.aload_n 0) 1 344 := by decide +kernel
theorem d_M_init_344 : qd prog_14_method_1_code 344 (.bipush 10) 2 346 := by decide +kernel
theorem d_M_init_346 : qd prog_14_method_1_code 346 (.newarray .int) 2 348 := by decide +kernel
theorem d_M_init_348 : qd prog_14_method_1_code 348 (.putfield 107) 3 351 := by decide +kernel
theorem d_M_init_351 : qd prog_14_method_1_code 351 (.aload_n 0) 1 352 := by decide +kernel
theorem d_M_init_352 : qd prog_14_method_1_code 352 (.bipush 10) 2 354 := by decide +kernel
theorem d_M_init_354 : qd prog_14_method_1_code 354 (.newarray .int) 2 356 := by decide +kernel
theorem d_M_init_356 : qd prog_14_method_1_code 356 (.putfield 110) 3 359 := by decide +kernel
theorem d_M_init_359 : qd prog_14_method_1_code 359 (.aload_n 0) 1 360 := by decide +kernel
theorem d_M_init_360 : qd prog_14_method_1_code 360 (.bipush 10) 2 362 := by decide +kernel
theorem d_M_init_362 : qd prog_14_method_1_code 362 (.newarray .int) 2 364 := by decide +kernel
theorem d_M_init_364 : qd prog_14_method_1_code 364 (.putfield 113) 3 367 := by decide +kernel
theorem d_M_init_367 : qd prog_14_method_1_code 367 (.aload_n 0) 1 368 := by decide +kernel
theorem d_M_init_368 : qd prog_14_method_1_code 368 (.bipush 20) 2 370 := by decide +kernel
theorem d_M_init_370 : qd prog_14_method_1_code 370 (.newarray .int) 2 372 := by decide +kernel
theorem d_M_init_372 : qd prog_14_method_1_code 372 (.putfield 116) 3 375 := by decide +kernel
theorem d_M_init_375 : qd prog_14_method_1_code 375 (.aload_n 0) 1 376 := by decide +kernel
theorem d_M_init_376 : qd prog_14_method_1_code 376 (.bipush 20) 2 378 := by decide +kernel
theorem d_M_init_378 : qd prog_14_method_1_code 378 (.newarray .int) 2 380 := by decide +kernel
theorem d_M_init_380 : qd prog_14_method_1_code 380 (.putfield 119) 3 383 := by decide +kernel
theorem d_M_init_383 : qd prog_14_method_1_code 383 (.aload_n 0) 1 384 := by decide +kernel
theorem d_M_init_384 : qd prog_14_method_1_code 384 (.bipush 20) 2 386 := by decide +kernel
theorem d_M_init_386 : qd prog_14_method_1_code 386 (.newarray .int) 2 388 := by decide +kernel
theorem d_M_init_388 : qd prog_14_method_1_code 388 (.putfield 122) 3 391 := by decide +kernel
theorem d_M_init_391 : qd prog_14_method_1_code 391 (.aload_n 0) 1 392 := by decide +kernel
theorem d_M_init_392 : qd prog_14_method_1_code 392 (.bipush 8) 2 394 := by decide +kernel
theorem d_M_init_394 : qd prog_14_method_1_code 394 (.newarray .int) 2 396 := by decide +kernel
theorem d_M_init_396 : qd prog_14_method_1_code 396 (.putfield 125) 3 399 := by decide +kernel
theorem d_M_init_399 : qd prog_14_method_1_code 399 (.aload_n 0) 1 400 := by decide +kernel
theorem d_M_init_400 : qd prog_14_method_1_code 400 (.bipush 8) 2 402 := by decide +kernel
theorem d_M_init_402 : qd prog_14_method_1_code 402 (.newarray .int) 2 404 := by decide +kernel
theorem d_M_init_404 : qd prog_14_method_1_code 404 (.putfield 128) 3 407 := by decide +kernel
theorem d_M_init_407 : qd prog_14_method_1_code 407 (.aload_n 0) 1 408 := by decide +kernel
theorem d_M_init_408 : qd prog_14_method_1_code 408 (.bipush 8) 2 410 := by decide +kernel
theorem d_M_init_410 : qd prog_14_method_1_code 410 (.newarray .int) 2 412 := by decide +kernel
theorem d_M_init_412 : qd prog_14_method_1_code 412 (.putfield 131) 3 415 := by decide +kernel
theorem d_M_init_415 : qd prog_14_method_1_code 415 (.aload_n 0) 1 416 := by decide +kernel
theorem d_M_init_416 : qd prog_14_method_1_code 416 (.bipush 16) 2 418 := by decide +kernel
theorem d_M_init_418 : qd prog_14_method_1_code 418 (.newarray .int) 2 420 := by decide +kernel
theorem d_M_init_420 : qd prog_14_method_1_code 420 (.putfield 134) 3 423 := by decide +kernel
theorem d_M_init_423 : qd prog_14_method_1_code 423 (.return_) 1 424 := by decide +kernel
theorem b_M_init_104 {ρ : qRf} {σ : qMem} (hb : qbl 105 ρ σ) : qbl 147 (qru (qru (qru (qru (qru (qru (qru (qru (qru (qru (qru (qru (qru (qru (qru (qru (qru (qru (qru (qru (qru (qru (qru (qru (qru (qru (qru (qru (qru (qru (qru (qru (qru (qru (qru (qru (qru (qru (qru (qru (qru (qru ρ 104 2 (some 105)) 104 3 (some 106)) 104 4 (some 107)) 104 6 (some 108)) 104 7 (some 109)) 104 19 (some 110)) 104 20 (some 111)) 104 22 (some 112)) 104 23 (some 113)) 104 24 (some 114)) 104 25 (some 115)) 104 26 (some 116)) 104 28 (some 117)) 104 29 (some 118)) 104 30 (some 119)) 104 32 (some 120)) 104 33 (some 121)) 104 34 (some 122)) 104 35 (some 123)) 104 36 (some 124)) 104 37 (some 125)) 104 39 (some 126)) 104 40 (some 127)) 104 41 (some 128)) 104 43 (some 129)) 104 44 (some 130)) 104 45 (some 131)) 104 46 (some 132)) 104 47 (some 133)) 104 48 (some 134)) 104 49 (some 135)) 104 51 (some 136)) 104 52 (some 137)) 104 53 (some 138)) 104 54 (some 139)) 104 56 (some 140)) 104 57 (some 141)) 104 58 (some 142)) 104 59 (some 143)) 104 60 (some 144)) 104 61 (some 145)) 104 63 (some 146)) (qmu (qmu (qmu (qmu (qmu (qmu (qmu (qmu (qmu (qmu (qmu (qmu (qmu (qmu (qmu (qmu (qmu (qmu (qmu σ 105 (qi (0 : Int32)) (-1 : Int32)) 105 (qi (1 : Int32)) (-1 : Int32)) 105 (qi (2 : Int32)) (-1 : Int32)) 105 (qi (3 : Int32)) (-1 : Int32)) 105 (qi (4 : Int32)) (-1 : Int32)) 105 (qi (5 : Int32)) (-1 : Int32)) 105 (qi (6 : Int32)) (-1 : Int32)) 105 (qi (7 : Int32)) (-1 : Int32)) 116 (qi (0 : Int32)) (1 : Int32)) 116 (qi (1 : Int32)) (1 : Int32)) 116 (qi (2 : Int32)) (1 : Int32)) 116 (qi (3 : Int32)) (1 : Int32)) 116 (qi (4 : Int32)) (1 : Int32)) 116 (qi (5 : Int32)) (1 : Int32)) 116 (qi (6 : Int32)) (1 : Int32)) 116 (qi (7 : Int32)) (1 : Int32)) 132 (qi (0 : Int32)) (100 : Int32)) 132 (qi (1 : Int32)) (1 : Int32)) 132 (qi (2 : Int32)) (1 : Int32)) := by
  have hb1 := qbl_up hb (Nat.le_succ 105)
  have hb2 := qbl_mu (k := 105) (j := qi (0 : Int32)) (v := (-1 : Int32)) hb1 (by decide)
  have hb3 := qbl_mu (k := 105) (j := qi (1 : Int32)) (v := (-1 : Int32)) hb2 (by decide)
  have hb4 := qbl_mu (k := 105) (j := qi (2 : Int32)) (v := (-1 : Int32)) hb3 (by decide)
  have hb5 := qbl_mu (k := 105) (j := qi (3 : Int32)) (v := (-1 : Int32)) hb4 (by decide)
  have hb6 := qbl_mu (k := 105) (j := qi (4 : Int32)) (v := (-1 : Int32)) hb5 (by decide)
  have hb7 := qbl_mu (k := 105) (j := qi (5 : Int32)) (v := (-1 : Int32)) hb6 (by decide)
  have hb8 := qbl_mu (k := 105) (j := qi (6 : Int32)) (v := (-1 : Int32)) hb7 (by decide)
  have hb9 := qbl_mu (k := 105) (j := qi (7 : Int32)) (v := (-1 : Int32)) hb8 (by decide)
  have hb10 := qbl_ru (k := 104) (j := 2) (v := some 105) hb9 (by decide)
  have hb11 := qbl_up hb10 (Nat.le_succ 106)
  have hb12 := qbl_ru (k := 104) (j := 3) (v := some 106) hb11 (by decide)
  have hb13 := qbl_up hb12 (Nat.le_succ 107)
  have hb14 := qbl_ru (k := 104) (j := 4) (v := some 107) hb13 (by decide)
  have hb15 := qbl_up hb14 (Nat.le_succ 108)
  have hb16 := qbl_ru (k := 104) (j := 6) (v := some 108) hb15 (by decide)
  have hb17 := qbl_up hb16 (Nat.le_succ 109)
  have hb18 := qbl_ru (k := 104) (j := 7) (v := some 109) hb17 (by decide)
  have hb19 := qbl_up hb18 (Nat.le_succ 110)
  have hb20 := qbl_ru (k := 104) (j := 19) (v := some 110) hb19 (by decide)
  have hb21 := qbl_up hb20 (Nat.le_succ 111)
  have hb22 := qbl_ru (k := 104) (j := 20) (v := some 111) hb21 (by decide)
  have hb23 := qbl_up hb22 (Nat.le_succ 112)
  have hb24 := qbl_ru (k := 104) (j := 22) (v := some 112) hb23 (by decide)
  have hb25 := qbl_up hb24 (Nat.le_succ 113)
  have hb26 := qbl_ru (k := 104) (j := 23) (v := some 113) hb25 (by decide)
  have hb27 := qbl_up hb26 (Nat.le_succ 114)
  have hb28 := qbl_ru (k := 104) (j := 24) (v := some 114) hb27 (by decide)
  have hb29 := qbl_up hb28 (Nat.le_succ 115)
  have hb30 := qbl_ru (k := 104) (j := 25) (v := some 115) hb29 (by decide)
  have hb31 := qbl_up hb30 (Nat.le_succ 116)
  have hb32 := qbl_mu (k := 116) (j := qi (0 : Int32)) (v := (1 : Int32)) hb31 (by decide)
  have hb33 := qbl_mu (k := 116) (j := qi (1 : Int32)) (v := (1 : Int32)) hb32 (by decide)
  have hb34 := qbl_mu (k := 116) (j := qi (2 : Int32)) (v := (1 : Int32)) hb33 (by decide)
  have hb35 := qbl_mu (k := 116) (j := qi (3 : Int32)) (v := (1 : Int32)) hb34 (by decide)
  have hb36 := qbl_mu (k := 116) (j := qi (4 : Int32)) (v := (1 : Int32)) hb35 (by decide)
  have hb37 := qbl_mu (k := 116) (j := qi (5 : Int32)) (v := (1 : Int32)) hb36 (by decide)
  have hb38 := qbl_mu (k := 116) (j := qi (6 : Int32)) (v := (1 : Int32)) hb37 (by decide)
  have hb39 := qbl_mu (k := 116) (j := qi (7 : Int32)) (v := (1 : Int32)) hb38 (by decide)
  have hb40 := qbl_ru (k := 104) (j := 26) (v := some 116) hb39 (by decide)
  have hb41 := qbl_up hb40 (Nat.le_succ 117)
  have hb42 := qbl_ru (k := 104) (j := 28) (v := some 117) hb41 (by decide)
  have hb43 := qbl_up hb42 (Nat.le_succ 118)
  have hb44 := qbl_ru (k := 104) (j := 29) (v := some 118) hb43 (by decide)
  have hb45 := qbl_up hb44 (Nat.le_succ 119)
  have hb46 := qbl_ru (k := 104) (j := 30) (v := some 119) hb45 (by decide)
  have hb47 := qbl_up hb46 (Nat.le_succ 120)
  have hb48 := qbl_ru (k := 104) (j := 32) (v := some 120) hb47 (by decide)
  have hb49 := qbl_up hb48 (Nat.le_succ 121)
  have hb50 := qbl_ru (k := 104) (j := 33) (v := some 121) hb49 (by decide)
  have hb51 := qbl_up hb50 (Nat.le_succ 122)
  have hb52 := qbl_ru (k := 104) (j := 34) (v := some 122) hb51 (by decide)
  have hb53 := qbl_up hb52 (Nat.le_succ 123)
  have hb54 := qbl_ru (k := 104) (j := 35) (v := some 123) hb53 (by decide)
  have hb55 := qbl_up hb54 (Nat.le_succ 124)
  have hb56 := qbl_ru (k := 104) (j := 36) (v := some 124) hb55 (by decide)
  have hb57 := qbl_up hb56 (Nat.le_succ 125)
  have hb58 := qbl_ru (k := 104) (j := 37) (v := some 125) hb57 (by decide)
  have hb59 := qbl_up hb58 (Nat.le_succ 126)
  have hb60 := qbl_ru (k := 104) (j := 39) (v := some 126) hb59 (by decide)
  have hb61 := qbl_up hb60 (Nat.le_succ 127)
  have hb62 := qbl_ru (k := 104) (j := 40) (v := some 127) hb61 (by decide)
  have hb63 := qbl_up hb62 (Nat.le_succ 128)
  have hb64 := qbl_ru (k := 104) (j := 41) (v := some 128) hb63 (by decide)
  have hb65 := qbl_up hb64 (Nat.le_succ 129)
  have hb66 := qbl_ru (k := 104) (j := 43) (v := some 129) hb65 (by decide)
  have hb67 := qbl_up hb66 (Nat.le_succ 130)
  have hb68 := qbl_ru (k := 104) (j := 44) (v := some 130) hb67 (by decide)
  have hb69 := qbl_up hb68 (Nat.le_succ 131)
  have hb70 := qbl_ru (k := 104) (j := 45) (v := some 131) hb69 (by decide)
  have hb71 := qbl_up hb70 (Nat.le_succ 132)
  have hb72 := qbl_mu (k := 132) (j := qi (0 : Int32)) (v := (100 : Int32)) hb71 (by decide)
  have hb73 := qbl_mu (k := 132) (j := qi (1 : Int32)) (v := (1 : Int32)) hb72 (by decide)
  have hb74 := qbl_mu (k := 132) (j := qi (2 : Int32)) (v := (1 : Int32)) hb73 (by decide)
  have hb75 := qbl_ru (k := 104) (j := 46) (v := some 132) hb74 (by decide)
  have hb76 := qbl_up hb75 (Nat.le_succ 133)
  have hb77 := qbl_ru (k := 104) (j := 47) (v := some 133) hb76 (by decide)
  have hb78 := qbl_up hb77 (Nat.le_succ 134)
  have hb79 := qbl_ru (k := 104) (j := 48) (v := some 134) hb78 (by decide)
  have hb80 := qbl_up hb79 (Nat.le_succ 135)
  have hb81 := qbl_ru (k := 104) (j := 49) (v := some 135) hb80 (by decide)
  have hb82 := qbl_up hb81 (Nat.le_succ 136)
  have hb83 := qbl_ru (k := 104) (j := 51) (v := some 136) hb82 (by decide)
  have hb84 := qbl_up hb83 (Nat.le_succ 137)
  have hb85 := qbl_ru (k := 104) (j := 52) (v := some 137) hb84 (by decide)
  have hb86 := qbl_up hb85 (Nat.le_succ 138)
  have hb87 := qbl_ru (k := 104) (j := 53) (v := some 138) hb86 (by decide)
  have hb88 := qbl_up hb87 (Nat.le_succ 139)
  have hb89 := qbl_ru (k := 104) (j := 54) (v := some 139) hb88 (by decide)
  have hb90 := qbl_up hb89 (Nat.le_succ 140)
  have hb91 := qbl_ru (k := 104) (j := 56) (v := some 140) hb90 (by decide)
  have hb92 := qbl_up hb91 (Nat.le_succ 141)
  have hb93 := qbl_ru (k := 104) (j := 57) (v := some 141) hb92 (by decide)
  have hb94 := qbl_up hb93 (Nat.le_succ 142)
  have hb95 := qbl_ru (k := 104) (j := 58) (v := some 142) hb94 (by decide)
  have hb96 := qbl_up hb95 (Nat.le_succ 143)
  have hb97 := qbl_ru (k := 104) (j := 59) (v := some 143) hb96 (by decide)
  have hb98 := qbl_up hb97 (Nat.le_succ 144)
  have hb99 := qbl_ru (k := 104) (j := 60) (v := some 144) hb98 (by decide)
  have hb100 := qbl_up hb99 (Nat.le_succ 145)
  have hb101 := qbl_ru (k := 104) (j := 61) (v := some 145) hb100 (by decide)
  have hb102 := qbl_up hb101 (Nat.le_succ 146)
  have hb103 := qbl_ru (k := 104) (j := 63) (v := some 146) hb102 (by decide)
  exact hb103
set_option maxHeartbeats 4000000 in
set_option maxRecDepth 20000 in
theorem k_M_init_104 (l : Launch) (G : qG) (hA : qAd G) (f : Nat) (hf : 1000 ≤ f) (ρ : qRf) (σ : qMem) (hb : qbl 105 ρ σ) : qCt l y_M_init prog_14_method_1_code 1 none 1 G (qKS.take 105) ρ σ [.ref 104] none (qKS.take 147) (qru (qru (qru (qru (qru (qru (qru (qru (qru (qru (qru (qru (qru (qru (qru (qru (qru (qru (qru (qru (qru (qru (qru (qru (qru (qru (qru (qru (qru (qru (qru (qru (qru (qru (qru (qru (qru (qru (qru (qru (qru (qru ρ 104 2 (some 105)) 104 3 (some 106)) 104 4 (some 107)) 104 6 (some 108)) 104 7 (some 109)) 104 19 (some 110)) 104 20 (some 111)) 104 22 (some 112)) 104 23 (some 113)) 104 24 (some 114)) 104 25 (some 115)) 104 26 (some 116)) 104 28 (some 117)) 104 29 (some 118)) 104 30 (some 119)) 104 32 (some 120)) 104 33 (some 121)) 104 34 (some 122)) 104 35 (some 123)) 104 36 (some 124)) 104 37 (some 125)) 104 39 (some 126)) 104 40 (some 127)) 104 41 (some 128)) 104 43 (some 129)) 104 44 (some 130)) 104 45 (some 131)) 104 46 (some 132)) 104 47 (some 133)) 104 48 (some 134)) 104 49 (some 135)) 104 51 (some 136)) 104 52 (some 137)) 104 53 (some 138)) 104 54 (some 139)) 104 56 (some 140)) 104 57 (some 141)) 104 58 (some 142)) 104 59 (some 143)) 104 60 (some 144)) 104 61 (some 145)) 104 63 (some 146)) (qmu (qmu (qmu (qmu (qmu (qmu (qmu (qmu (qmu (qmu (qmu (qmu (qmu (qmu (qmu (qmu (qmu (qmu (qmu σ 105 (qi (0 : Int32)) (-1 : Int32)) 105 (qi (1 : Int32)) (-1 : Int32)) 105 (qi (2 : Int32)) (-1 : Int32)) 105 (qi (3 : Int32)) (-1 : Int32)) 105 (qi (4 : Int32)) (-1 : Int32)) 105 (qi (5 : Int32)) (-1 : Int32)) 105 (qi (6 : Int32)) (-1 : Int32)) 105 (qi (7 : Int32)) (-1 : Int32)) 116 (qi (0 : Int32)) (1 : Int32)) 116 (qi (1 : Int32)) (1 : Int32)) 116 (qi (2 : Int32)) (1 : Int32)) 116 (qi (3 : Int32)) (1 : Int32)) 116 (qi (4 : Int32)) (1 : Int32)) 116 (qi (5 : Int32)) (1 : Int32)) 116 (qi (6 : Int32)) (1 : Int32)) 116 (qi (7 : Int32)) (1 : Int32)) 132 (qi (0 : Int32)) (100 : Int32)) 132 (qi (1 : Int32)) (1 : Int32)) 132 (qi (2 : Int32)) (1 : Int32)) 42 1931 := by
  refine qCt.of (lv := [some (.ref 104)]) (by decide) hA (Nat.le_of_ble_eq_true rfl) rfl ?_
  intro X hl hcc hss hni hX hT
  subst hl
  refine q_aload_n hX d_M_init_0 rfl ?_
  refine q_objInit hX xw_172 xw_2 xw_3 (by decide) (Nat.le_of_ble_eq_true rfl) d_M_init_1 ?_
  refine q_aload_n hX d_M_init_4 rfl ?_
  refine q_bipush hX (v := (8 : Int32)) d_M_init_5 (by decide +kernel) ?_
  refine q_newa hX (atype := .int) (ty := .int) (tg := 100) (N := 8) (n := 105) (t0 := 0) (ks' := (qKS.take 106)) rfl rfl (by decide) xw_8 (by decide) (by decide +kernel) (by decide) rfl (by decide) (hb.2 _ (Nat.le_refl _)) (by decide) ⟨by rw [hcc]; decide, by rw [hss]; decide⟩ d_M_init_7 ?_
  have hb1 := qbl_up hb (Nat.le_succ 105)
  refine q_dup hX rfl d_M_init_9 ?_
  refine q_iconst hX (v := (0 : Int32)) d_M_init_10 (by decide +kernel) ?_
  refine q_iconst hX (v := (-1 : Int32)) d_M_init_11 (by decide +kernel) ?_
  refine q_iast (α := Unit) (a := some ()) (q := ()) hX (n := 8) (by decide) (by decide) d_M_init_12 (by decide +kernel) (fun _ _ => ?_)
  have hb2 := qbl_mu (k := 105) (j := qi (0 : Int32)) (v := (-1 : Int32)) hb1 (by decide)
  refine q_dup hX rfl d_M_init_13 ?_
  refine q_iconst hX (v := (1 : Int32)) d_M_init_14 (by decide +kernel) ?_
  refine q_iconst hX (v := (-1 : Int32)) d_M_init_15 (by decide +kernel) ?_
  refine q_iast (α := Unit) (a := some ()) (q := ()) hX (n := 8) (by decide) (by decide) d_M_init_16 (by decide +kernel) (fun _ _ => ?_)
  have hb3 := qbl_mu (k := 105) (j := qi (1 : Int32)) (v := (-1 : Int32)) hb2 (by decide)
  refine q_dup hX rfl d_M_init_17 ?_
  refine q_iconst hX (v := (2 : Int32)) d_M_init_18 (by decide +kernel) ?_
  refine q_iconst hX (v := (-1 : Int32)) d_M_init_19 (by decide +kernel) ?_
  refine q_iast (α := Unit) (a := some ()) (q := ()) hX (n := 8) (by decide) (by decide) d_M_init_20 (by decide +kernel) (fun _ _ => ?_)
  have hb4 := qbl_mu (k := 105) (j := qi (2 : Int32)) (v := (-1 : Int32)) hb3 (by decide)
  refine q_dup hX rfl d_M_init_21 ?_
  refine q_iconst hX (v := (3 : Int32)) d_M_init_22 (by decide +kernel) ?_
  refine q_iconst hX (v := (-1 : Int32)) d_M_init_23 (by decide +kernel) ?_
  refine q_iast (α := Unit) (a := some ()) (q := ()) hX (n := 8) (by decide) (by decide) d_M_init_24 (by decide +kernel) (fun _ _ => ?_)
  have hb5 := qbl_mu (k := 105) (j := qi (3 : Int32)) (v := (-1 : Int32)) hb4 (by decide)
  refine q_dup hX rfl d_M_init_25 ?_
  refine q_iconst hX (v := (4 : Int32)) d_M_init_26 (by decide +kernel) ?_
  refine q_iconst hX (v := (-1 : Int32)) d_M_init_27 (by decide +kernel) ?_
  refine q_iast (α := Unit) (a := some ()) (q := ()) hX (n := 8) (by decide) (by decide) d_M_init_28 (by decide +kernel) (fun _ _ => ?_)
  have hb6 := qbl_mu (k := 105) (j := qi (4 : Int32)) (v := (-1 : Int32)) hb5 (by decide)
  refine q_dup hX rfl d_M_init_29 ?_
  refine q_iconst hX (v := (5 : Int32)) d_M_init_30 (by decide +kernel) ?_
  refine q_iconst hX (v := (-1 : Int32)) d_M_init_31 (by decide +kernel) ?_
  refine q_iast (α := Unit) (a := some ()) (q := ()) hX (n := 8) (by decide) (by decide) d_M_init_32 (by decide +kernel) (fun _ _ => ?_)
  have hb7 := qbl_mu (k := 105) (j := qi (5 : Int32)) (v := (-1 : Int32)) hb6 (by decide)
  refine q_dup hX rfl d_M_init_33 ?_
  refine q_bipush hX (v := (6 : Int32)) d_M_init_34 (by decide +kernel) ?_
  refine q_iconst hX (v := (-1 : Int32)) d_M_init_36 (by decide +kernel) ?_
  refine q_iast (α := Unit) (a := some ()) (q := ()) hX (n := 8) (by decide) (by decide) d_M_init_37 (by decide +kernel) (fun _ _ => ?_)
  have hb8 := qbl_mu (k := 105) (j := qi (6 : Int32)) (v := (-1 : Int32)) hb7 (by decide)
  refine q_dup hX rfl d_M_init_38 ?_
  refine q_bipush hX (v := (7 : Int32)) d_M_init_39 (by decide +kernel) ?_
  refine q_iconst hX (v := (-1 : Int32)) d_M_init_41 (by decide +kernel) ?_
  refine q_iast (α := Unit) (a := some ()) (q := ()) hX (n := 8) (by decide) (by decide) d_M_init_42 (by decide +kernel) (fun _ _ => ?_)
  have hb9 := qbl_mu (k := 105) (j := qi (7 : Int32)) (v := (-1 : Int32)) hb8 (by decide)
  refine q_putR hX (hni rfl) (c := 12) (j := 2) (n := 65) (C := qR12) (T := qT12) rfl (by decide) rfl xw_173 rfl rfl (by decide) (by decide) d_M_init_43 ?_
  have hb10 := qbl_ru (k := 104) (j := 2) (v := some 105) hb9 (by decide)
  refine q_aload_n hX d_M_init_46 rfl ?_
  refine q_bipush hX (v := (8 : Int32)) d_M_init_47 (by decide +kernel) ?_
  refine q_newa hX (atype := .int) (ty := .int) (tg := 100) (N := 8) (n := 106) (t0 := 0) (ks' := (qKS.take 107)) rfl rfl (by decide) xw_8 (by decide) (by decide +kernel) (by decide) rfl (by decide) (hb10.2 _ (Nat.le_refl _)) (by decide) ⟨by rw [hcc]; decide, by rw [hss]; decide⟩ d_M_init_49 ?_
  have hb11 := qbl_up hb10 (Nat.le_succ 106)
  refine q_putR hX (hni rfl) (c := 12) (j := 3) (n := 65) (C := qR12) (T := qT12) rfl (by decide) rfl xw_174 rfl rfl (by decide) (by decide) d_M_init_51 ?_
  have hb12 := qbl_ru (k := 104) (j := 3) (v := some 106) hb11 (by decide)
  refine q_aload_n hX d_M_init_54 rfl ?_
  refine q_sipush hX (v := (480 : Int32)) d_M_init_55 (by decide +kernel) ?_
  refine q_newa hX (atype := .int) (ty := .int) (tg := 100) (N := 480) (n := 107) (t0 := 0) (ks' := (qKS.take 108)) rfl rfl (by decide) xw_8 (by decide) (by decide +kernel) (by decide) rfl (by decide) (hb12.2 _ (Nat.le_refl _)) (by decide) ⟨by rw [hcc]; decide, by rw [hss]; decide⟩ d_M_init_58 ?_
  have hb13 := qbl_up hb12 (Nat.le_succ 107)
  refine q_putR hX (hni rfl) (c := 12) (j := 4) (n := 65) (C := qR12) (T := qT12) rfl (by decide) rfl xw_175 rfl rfl (by decide) (by decide) d_M_init_60 ?_
  have hb14 := qbl_ru (k := 104) (j := 4) (v := some 107) hb13 (by decide)
  refine q_aload_n hX d_M_init_63 rfl ?_
  refine q_sipush hX (v := (132 : Int32)) d_M_init_64 (by decide +kernel) ?_
  refine q_newa hX (atype := .int) (ty := .int) (tg := 100) (N := 132) (n := 108) (t0 := 0) (ks' := (qKS.take 109)) rfl rfl (by decide) xw_8 (by decide) (by decide +kernel) (by decide) rfl (by decide) (hb14.2 _ (Nat.le_refl _)) (by decide) ⟨by rw [hcc]; decide, by rw [hss]; decide⟩ d_M_init_67 ?_
  have hb15 := qbl_up hb14 (Nat.le_succ 108)
  refine q_putR hX (hni rfl) (c := 12) (j := 6) (n := 65) (C := qR12) (T := qT12) rfl (by decide) rfl xw_176 rfl rfl (by decide) (by decide) d_M_init_69 ?_
  have hb16 := qbl_ru (k := 104) (j := 6) (v := some 108) hb15 (by decide)
  refine q_aload_n hX d_M_init_72 rfl ?_
  refine q_sipush hX (v := (500 : Int32)) d_M_init_73 (by decide +kernel) ?_
  refine q_newa hX (atype := .int) (ty := .int) (tg := 100) (N := 500) (n := 109) (t0 := 0) (ks' := (qKS.take 110)) rfl rfl (by decide) xw_8 (by decide) (by decide +kernel) (by decide) rfl (by decide) (hb16.2 _ (Nat.le_refl _)) (by decide) ⟨by rw [hcc]; decide, by rw [hss]; decide⟩ d_M_init_76 ?_
  have hb17 := qbl_up hb16 (Nat.le_succ 109)
  refine q_putR hX (hni rfl) (c := 12) (j := 7) (n := 65) (C := qR12) (T := qT12) rfl (by decide) rfl xw_177 rfl rfl (by decide) (by decide) d_M_init_78 ?_
  have hb18 := qbl_ru (k := 104) (j := 7) (v := some 109) hb17 (by decide)
  refine q_aload_n hX d_M_init_81 rfl ?_
  refine q_bipush hX (v := (30 : Int32)) d_M_init_82 (by decide +kernel) ?_
  refine q_newa hX (atype := .int) (ty := .int) (tg := 100) (N := 30) (n := 110) (t0 := 0) (ks' := (qKS.take 111)) rfl rfl (by decide) xw_8 (by decide) (by decide +kernel) (by decide) rfl (by decide) (hb18.2 _ (Nat.le_refl _)) (by decide) ⟨by rw [hcc]; decide, by rw [hss]; decide⟩ d_M_init_84 ?_
  have hb19 := qbl_up hb18 (Nat.le_succ 110)
  refine q_putR hX (hni rfl) (c := 12) (j := 19) (n := 65) (C := qR12) (T := qT12) rfl (by decide) rfl xw_178 rfl rfl (by decide) (by decide) d_M_init_86 ?_
  have hb20 := qbl_ru (k := 104) (j := 19) (v := some 110) hb19 (by decide)
  refine q_aload_n hX d_M_init_89 rfl ?_
  refine q_bipush hX (v := (30 : Int32)) d_M_init_90 (by decide +kernel) ?_
  refine q_newa hX (atype := .int) (ty := .int) (tg := 100) (N := 30) (n := 111) (t0 := 0) (ks' := (qKS.take 112)) rfl rfl (by decide) xw_8 (by decide) (by decide +kernel) (by decide) rfl (by decide) (hb20.2 _ (Nat.le_refl _)) (by decide) ⟨by rw [hcc]; decide, by rw [hss]; decide⟩ d_M_init_92 ?_
  have hb21 := qbl_up hb20 (Nat.le_succ 111)
  refine q_putR hX (hni rfl) (c := 12) (j := 20) (n := 65) (C := qR12) (T := qT12) rfl (by decide) rfl xw_179 rfl rfl (by decide) (by decide) d_M_init_94 ?_
  have hb22 := qbl_ru (k := 104) (j := 20) (v := some 111) hb21 (by decide)
  refine q_aload_n hX d_M_init_97 rfl ?_
  refine q_bipush hX (v := (60 : Int32)) d_M_init_98 (by decide +kernel) ?_
  refine q_newa hX (atype := .int) (ty := .int) (tg := 100) (N := 60) (n := 112) (t0 := 0) (ks' := (qKS.take 113)) rfl rfl (by decide) xw_8 (by decide) (by decide +kernel) (by decide) rfl (by decide) (hb22.2 _ (Nat.le_refl _)) (by decide) ⟨by rw [hcc]; decide, by rw [hss]; decide⟩ d_M_init_100 ?_
  have hb23 := qbl_up hb22 (Nat.le_succ 112)
  refine q_putR hX (hni rfl) (c := 12) (j := 22) (n := 65) (C := qR12) (T := qT12) rfl (by decide) rfl xw_180 rfl rfl (by decide) (by decide) d_M_init_102 ?_
  have hb24 := qbl_ru (k := 104) (j := 22) (v := some 112) hb23 (by decide)
  refine q_aload_n hX d_M_init_105 rfl ?_
  refine q_bipush hX (v := (60 : Int32)) d_M_init_106 (by decide +kernel) ?_
  refine q_newa hX (atype := .int) (ty := .int) (tg := 100) (N := 60) (n := 113) (t0 := 0) (ks' := (qKS.take 114)) rfl rfl (by decide) xw_8 (by decide) (by decide +kernel) (by decide) rfl (by decide) (hb24.2 _ (Nat.le_refl _)) (by decide) ⟨by rw [hcc]; decide, by rw [hss]; decide⟩ d_M_init_108 ?_
  have hb25 := qbl_up hb24 (Nat.le_succ 113)
  refine q_putR hX (hni rfl) (c := 12) (j := 23) (n := 65) (C := qR12) (T := qT12) rfl (by decide) rfl xw_181 rfl rfl (by decide) (by decide) d_M_init_110 ?_
  have hb26 := qbl_ru (k := 104) (j := 23) (v := some 113) hb25 (by decide)
  refine q_aload_n hX d_M_init_113 rfl ?_
  refine q_bipush hX (v := (60 : Int32)) d_M_init_114 (by decide +kernel) ?_
  refine q_newa hX (atype := .int) (ty := .int) (tg := 100) (N := 60) (n := 114) (t0 := 0) (ks' := (qKS.take 115)) rfl rfl (by decide) xw_8 (by decide) (by decide +kernel) (by decide) rfl (by decide) (hb26.2 _ (Nat.le_refl _)) (by decide) ⟨by rw [hcc]; decide, by rw [hss]; decide⟩ d_M_init_116 ?_
  have hb27 := qbl_up hb26 (Nat.le_succ 114)
  refine q_putR hX (hni rfl) (c := 12) (j := 24) (n := 65) (C := qR12) (T := qT12) rfl (by decide) rfl xw_182 rfl rfl (by decide) (by decide) d_M_init_118 ?_
  have hb28 := qbl_ru (k := 104) (j := 24) (v := some 114) hb27 (by decide)
  refine q_aload_n hX d_M_init_121 rfl ?_
  refine q_bipush hX (v := (60 : Int32)) d_M_init_122 (by decide +kernel) ?_
  refine q_newa hX (atype := .boolean) (ty := .boolean) (tg := 102) (N := 60) (n := 115) (t0 := 2) (ks' := (qKS.take 116)) rfl rfl (by decide) xw_89 (by decide) (by decide +kernel) (by decide) rfl (by decide) (hb28.2 _ (Nat.le_refl _)) (by decide) ⟨by rw [hcc]; decide, by rw [hss]; decide⟩ d_M_init_124 ?_
  have hb29 := qbl_up hb28 (Nat.le_succ 115)
  refine q_putR hX (hni rfl) (c := 12) (j := 25) (n := 65) (C := qR12) (T := qT12) rfl (by decide) rfl xw_183 rfl rfl (by decide) (by decide) d_M_init_126 ?_
  have hb30 := qbl_ru (k := 104) (j := 25) (v := some 115) hb29 (by decide)
  refine q_aload_n hX d_M_init_129 rfl ?_
  refine q_bipush hX (v := (8 : Int32)) d_M_init_130 (by decide +kernel) ?_
  refine q_newa hX (atype := .int) (ty := .int) (tg := 100) (N := 8) (n := 116) (t0 := 0) (ks' := (qKS.take 117)) rfl rfl (by decide) xw_8 (by decide) (by decide +kernel) (by decide) rfl (by decide) (hb30.2 _ (Nat.le_refl _)) (by decide) ⟨by rw [hcc]; decide, by rw [hss]; decide⟩ d_M_init_132 ?_
  have hb31 := qbl_up hb30 (Nat.le_succ 116)
  refine q_dup hX rfl d_M_init_134 ?_
  refine q_iconst hX (v := (0 : Int32)) d_M_init_135 (by decide +kernel) ?_
  refine q_iconst hX (v := (1 : Int32)) d_M_init_136 (by decide +kernel) ?_
  refine q_iast (α := Unit) (a := some ()) (q := ()) hX (n := 8) (by decide) (by decide) d_M_init_137 (by decide +kernel) (fun _ _ => ?_)
  have hb32 := qbl_mu (k := 116) (j := qi (0 : Int32)) (v := (1 : Int32)) hb31 (by decide)
  refine q_dup hX rfl d_M_init_138 ?_
  refine q_iconst hX (v := (1 : Int32)) d_M_init_139 (by decide +kernel) ?_
  refine q_iconst hX (v := (1 : Int32)) d_M_init_140 (by decide +kernel) ?_
  refine q_iast (α := Unit) (a := some ()) (q := ()) hX (n := 8) (by decide) (by decide) d_M_init_141 (by decide +kernel) (fun _ _ => ?_)
  have hb33 := qbl_mu (k := 116) (j := qi (1 : Int32)) (v := (1 : Int32)) hb32 (by decide)
  refine q_dup hX rfl d_M_init_142 ?_
  refine q_iconst hX (v := (2 : Int32)) d_M_init_143 (by decide +kernel) ?_
  refine q_iconst hX (v := (1 : Int32)) d_M_init_144 (by decide +kernel) ?_
  refine q_iast (α := Unit) (a := some ()) (q := ()) hX (n := 8) (by decide) (by decide) d_M_init_145 (by decide +kernel) (fun _ _ => ?_)
  have hb34 := qbl_mu (k := 116) (j := qi (2 : Int32)) (v := (1 : Int32)) hb33 (by decide)
  refine q_dup hX rfl d_M_init_146 ?_
  refine q_iconst hX (v := (3 : Int32)) d_M_init_147 (by decide +kernel) ?_
  refine q_iconst hX (v := (1 : Int32)) d_M_init_148 (by decide +kernel) ?_
  refine q_iast (α := Unit) (a := some ()) (q := ()) hX (n := 8) (by decide) (by decide) d_M_init_149 (by decide +kernel) (fun _ _ => ?_)
  have hb35 := qbl_mu (k := 116) (j := qi (3 : Int32)) (v := (1 : Int32)) hb34 (by decide)
  refine q_dup hX rfl d_M_init_150 ?_
  refine q_iconst hX (v := (4 : Int32)) d_M_init_151 (by decide +kernel) ?_
  refine q_iconst hX (v := (1 : Int32)) d_M_init_152 (by decide +kernel) ?_
  refine q_iast (α := Unit) (a := some ()) (q := ()) hX (n := 8) (by decide) (by decide) d_M_init_153 (by decide +kernel) (fun _ _ => ?_)
  have hb36 := qbl_mu (k := 116) (j := qi (4 : Int32)) (v := (1 : Int32)) hb35 (by decide)
  refine q_dup hX rfl d_M_init_154 ?_
  refine q_iconst hX (v := (5 : Int32)) d_M_init_155 (by decide +kernel) ?_
  refine q_iconst hX (v := (1 : Int32)) d_M_init_156 (by decide +kernel) ?_
  refine q_iast (α := Unit) (a := some ()) (q := ()) hX (n := 8) (by decide) (by decide) d_M_init_157 (by decide +kernel) (fun _ _ => ?_)
  have hb37 := qbl_mu (k := 116) (j := qi (5 : Int32)) (v := (1 : Int32)) hb36 (by decide)
  refine q_dup hX rfl d_M_init_158 ?_
  refine q_bipush hX (v := (6 : Int32)) d_M_init_159 (by decide +kernel) ?_
  refine q_iconst hX (v := (1 : Int32)) d_M_init_161 (by decide +kernel) ?_
  refine q_iast (α := Unit) (a := some ()) (q := ()) hX (n := 8) (by decide) (by decide) d_M_init_162 (by decide +kernel) (fun _ _ => ?_)
  have hb38 := qbl_mu (k := 116) (j := qi (6 : Int32)) (v := (1 : Int32)) hb37 (by decide)
  refine q_dup hX rfl d_M_init_163 ?_
  refine q_bipush hX (v := (7 : Int32)) d_M_init_164 (by decide +kernel) ?_
  refine q_iconst hX (v := (1 : Int32)) d_M_init_166 (by decide +kernel) ?_
  refine q_iast (α := Unit) (a := some ()) (q := ()) hX (n := 8) (by decide) (by decide) d_M_init_167 (by decide +kernel) (fun _ _ => ?_)
  have hb39 := qbl_mu (k := 116) (j := qi (7 : Int32)) (v := (1 : Int32)) hb38 (by decide)
  refine q_putR hX (hni rfl) (c := 12) (j := 26) (n := 65) (C := qR12) (T := qT12) rfl (by decide) rfl xw_184 rfl rfl (by decide) (by decide) d_M_init_168 ?_
  have hb40 := qbl_ru (k := 104) (j := 26) (v := some 116) hb39 (by decide)
  refine q_aload_n hX d_M_init_171 rfl ?_
  refine q_bipush hX (v := (20 : Int32)) d_M_init_172 (by decide +kernel) ?_
  refine q_newa hX (atype := .int) (ty := .int) (tg := 100) (N := 20) (n := 117) (t0 := 0) (ks' := (qKS.take 118)) rfl rfl (by decide) xw_8 (by decide) (by decide +kernel) (by decide) rfl (by decide) (hb40.2 _ (Nat.le_refl _)) (by decide) ⟨by rw [hcc]; decide, by rw [hss]; decide⟩ d_M_init_174 ?_
  have hb41 := qbl_up hb40 (Nat.le_succ 117)
  refine q_putR hX (hni rfl) (c := 12) (j := 28) (n := 65) (C := qR12) (T := qT12) rfl (by decide) rfl xw_185 rfl rfl (by decide) (by decide) d_M_init_176 ?_
  have hb42 := qbl_ru (k := 104) (j := 28) (v := some 117) hb41 (by decide)
  refine q_aload_n hX d_M_init_179 rfl ?_
  refine q_bipush hX (v := (20 : Int32)) d_M_init_180 (by decide +kernel) ?_
  refine q_newa hX (atype := .int) (ty := .int) (tg := 100) (N := 20) (n := 118) (t0 := 0) (ks' := (qKS.take 119)) rfl rfl (by decide) xw_8 (by decide) (by decide +kernel) (by decide) rfl (by decide) (hb42.2 _ (Nat.le_refl _)) (by decide) ⟨by rw [hcc]; decide, by rw [hss]; decide⟩ d_M_init_182 ?_
  have hb43 := qbl_up hb42 (Nat.le_succ 118)
  refine q_putR hX (hni rfl) (c := 12) (j := 29) (n := 65) (C := qR12) (T := qT12) rfl (by decide) rfl xw_186 rfl rfl (by decide) (by decide) d_M_init_184 ?_
  have hb44 := qbl_ru (k := 104) (j := 29) (v := some 118) hb43 (by decide)
  refine q_aload_n hX d_M_init_187 rfl ?_
  refine q_bipush hX (v := (20 : Int32)) d_M_init_188 (by decide +kernel) ?_
  refine q_newa hX (atype := .int) (ty := .int) (tg := 100) (N := 20) (n := 119) (t0 := 0) (ks' := (qKS.take 120)) rfl rfl (by decide) xw_8 (by decide) (by decide +kernel) (by decide) rfl (by decide) (hb44.2 _ (Nat.le_refl _)) (by decide) ⟨by rw [hcc]; decide, by rw [hss]; decide⟩ d_M_init_190 ?_
  have hb45 := qbl_up hb44 (Nat.le_succ 119)
  refine q_putR hX (hni rfl) (c := 12) (j := 30) (n := 65) (C := qR12) (T := qT12) rfl (by decide) rfl xw_187 rfl rfl (by decide) (by decide) d_M_init_192 ?_
  have hb46 := qbl_ru (k := 104) (j := 30) (v := some 119) hb45 (by decide)
  refine q_aload_n hX d_M_init_195 rfl ?_
  refine q_bipush hX (v := (10 : Int32)) d_M_init_196 (by decide +kernel) ?_
  refine q_newa hX (atype := .int) (ty := .int) (tg := 100) (N := 10) (n := 120) (t0 := 0) (ks' := (qKS.take 121)) rfl rfl (by decide) xw_8 (by decide) (by decide +kernel) (by decide) rfl (by decide) (hb46.2 _ (Nat.le_refl _)) (by decide) ⟨by rw [hcc]; decide, by rw [hss]; decide⟩ d_M_init_198 ?_
  have hb47 := qbl_up hb46 (Nat.le_succ 120)
  refine q_putR hX (hni rfl) (c := 12) (j := 32) (n := 65) (C := qR12) (T := qT12) rfl (by decide) rfl xw_188 rfl rfl (by decide) (by decide) d_M_init_200 ?_
  have hb48 := qbl_ru (k := 104) (j := 32) (v := some 120) hb47 (by decide)
  refine q_aload_n hX d_M_init_203 rfl ?_
  refine q_bipush hX (v := (10 : Int32)) d_M_init_204 (by decide +kernel) ?_
  refine q_newa hX (atype := .int) (ty := .int) (tg := 100) (N := 10) (n := 121) (t0 := 0) (ks' := (qKS.take 122)) rfl rfl (by decide) xw_8 (by decide) (by decide +kernel) (by decide) rfl (by decide) (hb48.2 _ (Nat.le_refl _)) (by decide) ⟨by rw [hcc]; decide, by rw [hss]; decide⟩ d_M_init_206 ?_
  have hb49 := qbl_up hb48 (Nat.le_succ 121)
  refine q_putR hX (hni rfl) (c := 12) (j := 33) (n := 65) (C := qR12) (T := qT12) rfl (by decide) rfl xw_189 rfl rfl (by decide) (by decide) d_M_init_208 ?_
  have hb50 := qbl_ru (k := 104) (j := 33) (v := some 121) hb49 (by decide)
  refine q_aload_n hX d_M_init_211 rfl ?_
  refine q_bipush hX (v := (10 : Int32)) d_M_init_212 (by decide +kernel) ?_
  refine q_newa hX (atype := .int) (ty := .int) (tg := 100) (N := 10) (n := 122) (t0 := 0) (ks' := (qKS.take 123)) rfl rfl (by decide) xw_8 (by decide) (by decide +kernel) (by decide) rfl (by decide) (hb50.2 _ (Nat.le_refl _)) (by decide) ⟨by rw [hcc]; decide, by rw [hss]; decide⟩ d_M_init_214 ?_
  have hb51 := qbl_up hb50 (Nat.le_succ 122)
  refine q_putR hX (hni rfl) (c := 12) (j := 34) (n := 65) (C := qR12) (T := qT12) rfl (by decide) rfl xw_190 rfl rfl (by decide) (by decide) d_M_init_216 ?_
  have hb52 := qbl_ru (k := 104) (j := 34) (v := some 122) hb51 (by decide)
  refine q_aload_n hX d_M_init_219 rfl ?_
  refine q_bipush hX (v := (10 : Int32)) d_M_init_220 (by decide +kernel) ?_
  refine q_newa hX (atype := .int) (ty := .int) (tg := 100) (N := 10) (n := 123) (t0 := 0) (ks' := (qKS.take 124)) rfl rfl (by decide) xw_8 (by decide) (by decide +kernel) (by decide) rfl (by decide) (hb52.2 _ (Nat.le_refl _)) (by decide) ⟨by rw [hcc]; decide, by rw [hss]; decide⟩ d_M_init_222 ?_
  have hb53 := qbl_up hb52 (Nat.le_succ 123)
  refine q_putR hX (hni rfl) (c := 12) (j := 35) (n := 65) (C := qR12) (T := qT12) rfl (by decide) rfl xw_191 rfl rfl (by decide) (by decide) d_M_init_224 ?_
  have hb54 := qbl_ru (k := 104) (j := 35) (v := some 123) hb53 (by decide)
  refine q_aload_n hX d_M_init_227 rfl ?_
  refine q_bipush hX (v := (6 : Int32)) d_M_init_228 (by decide +kernel) ?_
  refine q_newa hX (atype := .int) (ty := .int) (tg := 100) (N := 6) (n := 124) (t0 := 0) (ks' := (qKS.take 125)) rfl rfl (by decide) xw_8 (by decide) (by decide +kernel) (by decide) rfl (by decide) (hb54.2 _ (Nat.le_refl _)) (by decide) ⟨by rw [hcc]; decide, by rw [hss]; decide⟩ d_M_init_230 ?_
  have hb55 := qbl_up hb54 (Nat.le_succ 124)
  refine q_putR hX (hni rfl) (c := 12) (j := 36) (n := 65) (C := qR12) (T := qT12) rfl (by decide) rfl xw_192 rfl rfl (by decide) (by decide) d_M_init_232 ?_
  have hb56 := qbl_ru (k := 104) (j := 36) (v := some 124) hb55 (by decide)
  refine q_aload_n hX d_M_init_235 rfl ?_
  refine q_bipush hX (v := (6 : Int32)) d_M_init_236 (by decide +kernel) ?_
  refine q_newa hX (atype := .int) (ty := .int) (tg := 100) (N := 6) (n := 125) (t0 := 0) (ks' := (qKS.take 126)) rfl rfl (by decide) xw_8 (by decide) (by decide +kernel) (by decide) rfl (by decide) (hb56.2 _ (Nat.le_refl _)) (by decide) ⟨by rw [hcc]; decide, by rw [hss]; decide⟩ d_M_init_238 ?_
  have hb57 := qbl_up hb56 (Nat.le_succ 125)
  refine q_putR hX (hni rfl) (c := 12) (j := 37) (n := 65) (C := qR12) (T := qT12) rfl (by decide) rfl xw_193 rfl rfl (by decide) (by decide) d_M_init_240 ?_
  have hb58 := qbl_ru (k := 104) (j := 37) (v := some 125) hb57 (by decide)
  refine q_aload_n hX d_M_init_243 rfl ?_
  refine q_bipush hX (v := (20 : Int32)) d_M_init_244 (by decide +kernel) ?_
  refine q_newa hX (atype := .int) (ty := .int) (tg := 100) (N := 20) (n := 126) (t0 := 0) (ks' := (qKS.take 127)) rfl rfl (by decide) xw_8 (by decide) (by decide +kernel) (by decide) rfl (by decide) (hb58.2 _ (Nat.le_refl _)) (by decide) ⟨by rw [hcc]; decide, by rw [hss]; decide⟩ d_M_init_246 ?_
  have hb59 := qbl_up hb58 (Nat.le_succ 126)
  refine q_putR hX (hni rfl) (c := 12) (j := 39) (n := 65) (C := qR12) (T := qT12) rfl (by decide) rfl xw_194 rfl rfl (by decide) (by decide) d_M_init_248 ?_
  have hb60 := qbl_ru (k := 104) (j := 39) (v := some 126) hb59 (by decide)
  refine q_aload_n hX d_M_init_251 rfl ?_
  refine q_bipush hX (v := (20 : Int32)) d_M_init_252 (by decide +kernel) ?_
  refine q_newa hX (atype := .int) (ty := .int) (tg := 100) (N := 20) (n := 127) (t0 := 0) (ks' := (qKS.take 128)) rfl rfl (by decide) xw_8 (by decide) (by decide +kernel) (by decide) rfl (by decide) (hb60.2 _ (Nat.le_refl _)) (by decide) ⟨by rw [hcc]; decide, by rw [hss]; decide⟩ d_M_init_254 ?_
  have hb61 := qbl_up hb60 (Nat.le_succ 127)
  refine q_putR hX (hni rfl) (c := 12) (j := 40) (n := 65) (C := qR12) (T := qT12) rfl (by decide) rfl xw_195 rfl rfl (by decide) (by decide) d_M_init_256 ?_
  have hb62 := qbl_ru (k := 104) (j := 40) (v := some 127) hb61 (by decide)
  refine q_aload_n hX d_M_init_259 rfl ?_
  refine q_bipush hX (v := (20 : Int32)) d_M_init_260 (by decide +kernel) ?_
  refine q_newa hX (atype := .int) (ty := .int) (tg := 100) (N := 20) (n := 128) (t0 := 0) (ks' := (qKS.take 129)) rfl rfl (by decide) xw_8 (by decide) (by decide +kernel) (by decide) rfl (by decide) (hb62.2 _ (Nat.le_refl _)) (by decide) ⟨by rw [hcc]; decide, by rw [hss]; decide⟩ d_M_init_262 ?_
  have hb63 := qbl_up hb62 (Nat.le_succ 128)
  refine q_putR hX (hni rfl) (c := 12) (j := 41) (n := 65) (C := qR12) (T := qT12) rfl (by decide) rfl xw_196 rfl rfl (by decide) (by decide) d_M_init_264 ?_
  have hb64 := qbl_ru (k := 104) (j := 41) (v := some 128) hb63 (by decide)
  refine q_aload_n hX d_M_init_267 rfl ?_
  refine q_bipush hX (v := (20 : Int32)) d_M_init_268 (by decide +kernel) ?_
  refine q_newa hX (atype := .int) (ty := .int) (tg := 100) (N := 20) (n := 129) (t0 := 0) (ks' := (qKS.take 130)) rfl rfl (by decide) xw_8 (by decide) (by decide +kernel) (by decide) rfl (by decide) (hb64.2 _ (Nat.le_refl _)) (by decide) ⟨by rw [hcc]; decide, by rw [hss]; decide⟩ d_M_init_270 ?_
  have hb65 := qbl_up hb64 (Nat.le_succ 129)
  refine q_putR hX (hni rfl) (c := 12) (j := 43) (n := 65) (C := qR12) (T := qT12) rfl (by decide) rfl xw_197 rfl rfl (by decide) (by decide) d_M_init_272 ?_
  have hb66 := qbl_ru (k := 104) (j := 43) (v := some 129) hb65 (by decide)
  refine q_aload_n hX d_M_init_275 rfl ?_
  refine q_bipush hX (v := (20 : Int32)) d_M_init_276 (by decide +kernel) ?_
  refine q_newa hX (atype := .int) (ty := .int) (tg := 100) (N := 20) (n := 130) (t0 := 0) (ks' := (qKS.take 131)) rfl rfl (by decide) xw_8 (by decide) (by decide +kernel) (by decide) rfl (by decide) (hb66.2 _ (Nat.le_refl _)) (by decide) ⟨by rw [hcc]; decide, by rw [hss]; decide⟩ d_M_init_278 ?_
  have hb67 := qbl_up hb66 (Nat.le_succ 130)
  refine q_putR hX (hni rfl) (c := 12) (j := 44) (n := 65) (C := qR12) (T := qT12) rfl (by decide) rfl xw_198 rfl rfl (by decide) (by decide) d_M_init_280 ?_
  have hb68 := qbl_ru (k := 104) (j := 44) (v := some 130) hb67 (by decide)
  refine q_aload_n hX d_M_init_283 rfl ?_
  refine q_bipush hX (v := (20 : Int32)) d_M_init_284 (by decide +kernel) ?_
  refine q_newa hX (atype := .int) (ty := .int) (tg := 100) (N := 20) (n := 131) (t0 := 0) (ks' := (qKS.take 132)) rfl rfl (by decide) xw_8 (by decide) (by decide +kernel) (by decide) rfl (by decide) (hb68.2 _ (Nat.le_refl _)) (by decide) ⟨by rw [hcc]; decide, by rw [hss]; decide⟩ d_M_init_286 ?_
  have hb69 := qbl_up hb68 (Nat.le_succ 131)
  refine q_putR hX (hni rfl) (c := 12) (j := 45) (n := 65) (C := qR12) (T := qT12) rfl (by decide) rfl xw_199 rfl rfl (by decide) (by decide) d_M_init_288 ?_
  have hb70 := qbl_ru (k := 104) (j := 45) (v := some 131) hb69 (by decide)
  refine q_aload_n hX d_M_init_291 rfl ?_
  refine q_iconst hX (v := (3 : Int32)) d_M_init_292 (by decide +kernel) ?_
  refine q_newa hX (atype := .int) (ty := .int) (tg := 100) (N := 3) (n := 132) (t0 := 0) (ks' := (qKS.take 133)) rfl rfl (by decide) xw_8 (by decide) (by decide +kernel) (by decide) rfl (by decide) (hb70.2 _ (Nat.le_refl _)) (by decide) ⟨by rw [hcc]; decide, by rw [hss]; decide⟩ d_M_init_293 ?_
  have hb71 := qbl_up hb70 (Nat.le_succ 132)
  refine q_dup hX rfl d_M_init_295 ?_
  refine q_iconst hX (v := (0 : Int32)) d_M_init_296 (by decide +kernel) ?_
  refine q_bipush hX (v := (100 : Int32)) d_M_init_297 (by decide +kernel) ?_
  refine q_iast (α := Unit) (a := some ()) (q := ()) hX (n := 3) (by decide) (by decide) d_M_init_299 (by decide +kernel) (fun _ _ => ?_)
  have hb72 := qbl_mu (k := 132) (j := qi (0 : Int32)) (v := (100 : Int32)) hb71 (by decide)
  refine q_dup hX rfl d_M_init_300 ?_
  refine q_iconst hX (v := (1 : Int32)) d_M_init_301 (by decide +kernel) ?_
  refine q_iconst hX (v := (1 : Int32)) d_M_init_302 (by decide +kernel) ?_
  refine q_iast (α := Unit) (a := some ()) (q := ()) hX (n := 3) (by decide) (by decide) d_M_init_303 (by decide +kernel) (fun _ _ => ?_)
  have hb73 := qbl_mu (k := 132) (j := qi (1 : Int32)) (v := (1 : Int32)) hb72 (by decide)
  refine q_dup hX rfl d_M_init_304 ?_
  refine q_iconst hX (v := (2 : Int32)) d_M_init_305 (by decide +kernel) ?_
  refine q_iconst hX (v := (1 : Int32)) d_M_init_306 (by decide +kernel) ?_
  refine q_iast (α := Unit) (a := some ()) (q := ()) hX (n := 3) (by decide) (by decide) d_M_init_307 (by decide +kernel) (fun _ _ => ?_)
  have hb74 := qbl_mu (k := 132) (j := qi (2 : Int32)) (v := (1 : Int32)) hb73 (by decide)
  refine q_putR hX (hni rfl) (c := 12) (j := 46) (n := 65) (C := qR12) (T := qT12) rfl (by decide) rfl xw_200 rfl rfl (by decide) (by decide) d_M_init_308 ?_
  have hb75 := qbl_ru (k := 104) (j := 46) (v := some 132) hb74 (by decide)
  refine q_aload_n hX d_M_init_311 rfl ?_
  refine q_bipush hX (v := (12 : Int32)) d_M_init_312 (by decide +kernel) ?_
  refine q_newa hX (atype := .int) (ty := .int) (tg := 100) (N := 12) (n := 133) (t0 := 0) (ks' := (qKS.take 134)) rfl rfl (by decide) xw_8 (by decide) (by decide +kernel) (by decide) rfl (by decide) (hb75.2 _ (Nat.le_refl _)) (by decide) ⟨by rw [hcc]; decide, by rw [hss]; decide⟩ d_M_init_314 ?_
  have hb76 := qbl_up hb75 (Nat.le_succ 133)
  refine q_putR hX (hni rfl) (c := 12) (j := 47) (n := 65) (C := qR12) (T := qT12) rfl (by decide) rfl xw_201 rfl rfl (by decide) (by decide) d_M_init_316 ?_
  have hb77 := qbl_ru (k := 104) (j := 47) (v := some 133) hb76 (by decide)
  refine q_aload_n hX d_M_init_319 rfl ?_
  refine q_bipush hX (v := (12 : Int32)) d_M_init_320 (by decide +kernel) ?_
  refine q_newa hX (atype := .int) (ty := .int) (tg := 100) (N := 12) (n := 134) (t0 := 0) (ks' := (qKS.take 135)) rfl rfl (by decide) xw_8 (by decide) (by decide +kernel) (by decide) rfl (by decide) (hb77.2 _ (Nat.le_refl _)) (by decide) ⟨by rw [hcc]; decide, by rw [hss]; decide⟩ d_M_init_322 ?_
  have hb78 := qbl_up hb77 (Nat.le_succ 134)
  refine q_putR hX (hni rfl) (c := 12) (j := 48) (n := 65) (C := qR12) (T := qT12) rfl (by decide) rfl xw_202 rfl rfl (by decide) (by decide) d_M_init_324 ?_
  have hb79 := qbl_ru (k := 104) (j := 48) (v := some 134) hb78 (by decide)
  refine q_aload_n hX d_M_init_327 rfl ?_
  refine q_bipush hX (v := (96 : Int32)) d_M_init_328 (by decide +kernel) ?_
  refine q_newa hX (atype := .int) (ty := .int) (tg := 100) (N := 96) (n := 135) (t0 := 0) (ks' := (qKS.take 136)) rfl rfl (by decide) xw_8 (by decide) (by decide +kernel) (by decide) rfl (by decide) (hb79.2 _ (Nat.le_refl _)) (by decide) ⟨by rw [hcc]; decide, by rw [hss]; decide⟩ d_M_init_330 ?_
  have hb80 := qbl_up hb79 (Nat.le_succ 135)
  refine q_putR hX (hni rfl) (c := 12) (j := 49) (n := 65) (C := qR12) (T := qT12) rfl (by decide) rfl xw_203 rfl rfl (by decide) (by decide) d_M_init_332 ?_
  have hb81 := qbl_ru (k := 104) (j := 49) (v := some 135) hb80 (by decide)
  refine q_aload_n hX d_M_init_335 rfl ?_
  refine q_bipush hX (v := (10 : Int32)) d_M_init_336 (by decide +kernel) ?_
  refine q_newa hX (atype := .int) (ty := .int) (tg := 100) (N := 10) (n := 136) (t0 := 0) (ks' := (qKS.take 137)) rfl rfl (by decide) xw_8 (by decide) (by decide +kernel) (by decide) rfl (by decide) (hb81.2 _ (Nat.le_refl _)) (by decide) ⟨by rw [hcc]; decide, by rw [hss]; decide⟩ d_M_init_338 ?_
  have hb82 := qbl_up hb81 (Nat.le_succ 136)
  refine q_putR hX (hni rfl) (c := 12) (j := 51) (n := 65) (C := qR12) (T := qT12) rfl (by decide) rfl xw_204 rfl rfl (by decide) (by decide) d_M_init_340 ?_
  have hb83 := qbl_ru (k := 104) (j := 51) (v := some 136) hb82 (by decide)
  refine q_aload_n hX d_M_init_343 rfl ?_
  refine q_bipush hX (v := (10 : Int32)) d_M_init_344 (by decide +kernel) ?_
  refine q_newa hX (atype := .int) (ty := .int) (tg := 100) (N := 10) (n := 137) (t0 := 0) (ks' := (qKS.take 138)) rfl rfl (by decide) xw_8 (by decide) (by decide +kernel) (by decide) rfl (by decide) (hb83.2 _ (Nat.le_refl _)) (by decide) ⟨by rw [hcc]; decide, by rw [hss]; decide⟩ d_M_init_346 ?_
  have hb84 := qbl_up hb83 (Nat.le_succ 137)
  refine q_putR hX (hni rfl) (c := 12) (j := 52) (n := 65) (C := qR12) (T := qT12) rfl (by decide) rfl xw_205 rfl rfl (by decide) (by decide) d_M_init_348 ?_
  have hb85 := qbl_ru (k := 104) (j := 52) (v := some 137) hb84 (by decide)
  refine q_aload_n hX d_M_init_351 rfl ?_
  refine q_bipush hX (v := (10 : Int32)) d_M_init_352 (by decide +kernel) ?_
  refine q_newa hX (atype := .int) (ty := .int) (tg := 100) (N := 10) (n := 138) (t0 := 0) (ks' := (qKS.take 139)) rfl rfl (by decide) xw_8 (by decide) (by decide +kernel) (by decide) rfl (by decide) (hb85.2 _ (Nat.le_refl _)) (by decide) ⟨by rw [hcc]; decide, by rw [hss]; decide⟩ d_M_init_354 ?_
  have hb86 := qbl_up hb85 (Nat.le_succ 138)
  refine q_putR hX (hni rfl) (c := 12) (j := 53) (n := 65) (C := qR12) (T := qT12) rfl (by decide) rfl xw_206 rfl rfl (by decide) (by decide) d_M_init_356 ?_
  have hb87 := qbl_ru (k := 104) (j := 53) (v := some 138) hb86 (by decide)
  refine q_aload_n hX d_M_init_359 rfl ?_
  refine q_bipush hX (v := (10 : Int32)) d_M_init_360 (by decide +kernel) ?_
  refine q_newa hX (atype := .int) (ty := .int) (tg := 100) (N := 10) (n := 139) (t0 := 0) (ks' := (qKS.take 140)) rfl rfl (by decide) xw_8 (by decide) (by decide +kernel) (by decide) rfl (by decide) (hb87.2 _ (Nat.le_refl _)) (by decide) ⟨by rw [hcc]; decide, by rw [hss]; decide⟩ d_M_init_362 ?_
  have hb88 := qbl_up hb87 (Nat.le_succ 139)
  refine q_putR hX (hni rfl) (c := 12) (j := 54) (n := 65) (C := qR12) (T := qT12) rfl (by decide) rfl xw_207 rfl rfl (by decide) (by decide) d_M_init_364 ?_
  have hb89 := qbl_ru (k := 104) (j := 54) (v := some 139) hb88 (by decide)
  refine q_aload_n hX d_M_init_367 rfl ?_
  refine q_bipush hX (v := (20 : Int32)) d_M_init_368 (by decide +kernel) ?_
  refine q_newa hX (atype := .int) (ty := .int) (tg := 100) (N := 20) (n := 140) (t0 := 0) (ks' := (qKS.take 141)) rfl rfl (by decide) xw_8 (by decide) (by decide +kernel) (by decide) rfl (by decide) (hb89.2 _ (Nat.le_refl _)) (by decide) ⟨by rw [hcc]; decide, by rw [hss]; decide⟩ d_M_init_370 ?_
  have hb90 := qbl_up hb89 (Nat.le_succ 140)
  refine q_putR hX (hni rfl) (c := 12) (j := 56) (n := 65) (C := qR12) (T := qT12) rfl (by decide) rfl xw_208 rfl rfl (by decide) (by decide) d_M_init_372 ?_
  have hb91 := qbl_ru (k := 104) (j := 56) (v := some 140) hb90 (by decide)
  refine q_aload_n hX d_M_init_375 rfl ?_
  refine q_bipush hX (v := (20 : Int32)) d_M_init_376 (by decide +kernel) ?_
  refine q_newa hX (atype := .int) (ty := .int) (tg := 100) (N := 20) (n := 141) (t0 := 0) (ks' := (qKS.take 142)) rfl rfl (by decide) xw_8 (by decide) (by decide +kernel) (by decide) rfl (by decide) (hb91.2 _ (Nat.le_refl _)) (by decide) ⟨by rw [hcc]; decide, by rw [hss]; decide⟩ d_M_init_378 ?_
  have hb92 := qbl_up hb91 (Nat.le_succ 141)
  refine q_putR hX (hni rfl) (c := 12) (j := 57) (n := 65) (C := qR12) (T := qT12) rfl (by decide) rfl xw_209 rfl rfl (by decide) (by decide) d_M_init_380 ?_
  have hb93 := qbl_ru (k := 104) (j := 57) (v := some 141) hb92 (by decide)
  refine q_aload_n hX d_M_init_383 rfl ?_
  refine q_bipush hX (v := (20 : Int32)) d_M_init_384 (by decide +kernel) ?_
  refine q_newa hX (atype := .int) (ty := .int) (tg := 100) (N := 20) (n := 142) (t0 := 0) (ks' := (qKS.take 143)) rfl rfl (by decide) xw_8 (by decide) (by decide +kernel) (by decide) rfl (by decide) (hb93.2 _ (Nat.le_refl _)) (by decide) ⟨by rw [hcc]; decide, by rw [hss]; decide⟩ d_M_init_386 ?_
  have hb94 := qbl_up hb93 (Nat.le_succ 142)
  refine q_putR hX (hni rfl) (c := 12) (j := 58) (n := 65) (C := qR12) (T := qT12) rfl (by decide) rfl xw_210 rfl rfl (by decide) (by decide) d_M_init_388 ?_
  have hb95 := qbl_ru (k := 104) (j := 58) (v := some 142) hb94 (by decide)
  refine q_aload_n hX d_M_init_391 rfl ?_
  refine q_bipush hX (v := (8 : Int32)) d_M_init_392 (by decide +kernel) ?_
  refine q_newa hX (atype := .int) (ty := .int) (tg := 100) (N := 8) (n := 143) (t0 := 0) (ks' := (qKS.take 144)) rfl rfl (by decide) xw_8 (by decide) (by decide +kernel) (by decide) rfl (by decide) (hb95.2 _ (Nat.le_refl _)) (by decide) ⟨by rw [hcc]; decide, by rw [hss]; decide⟩ d_M_init_394 ?_
  have hb96 := qbl_up hb95 (Nat.le_succ 143)
  refine q_putR hX (hni rfl) (c := 12) (j := 59) (n := 65) (C := qR12) (T := qT12) rfl (by decide) rfl xw_211 rfl rfl (by decide) (by decide) d_M_init_396 ?_
  have hb97 := qbl_ru (k := 104) (j := 59) (v := some 143) hb96 (by decide)
  refine q_aload_n hX d_M_init_399 rfl ?_
  refine q_bipush hX (v := (8 : Int32)) d_M_init_400 (by decide +kernel) ?_
  refine q_newa hX (atype := .int) (ty := .int) (tg := 100) (N := 8) (n := 144) (t0 := 0) (ks' := (qKS.take 145)) rfl rfl (by decide) xw_8 (by decide) (by decide +kernel) (by decide) rfl (by decide) (hb97.2 _ (Nat.le_refl _)) (by decide) ⟨by rw [hcc]; decide, by rw [hss]; decide⟩ d_M_init_402 ?_
  have hb98 := qbl_up hb97 (Nat.le_succ 144)
  refine q_putR hX (hni rfl) (c := 12) (j := 60) (n := 65) (C := qR12) (T := qT12) rfl (by decide) rfl xw_212 rfl rfl (by decide) (by decide) d_M_init_404 ?_
  have hb99 := qbl_ru (k := 104) (j := 60) (v := some 144) hb98 (by decide)
  refine q_aload_n hX d_M_init_407 rfl ?_
  refine q_bipush hX (v := (8 : Int32)) d_M_init_408 (by decide +kernel) ?_
  refine q_newa hX (atype := .int) (ty := .int) (tg := 100) (N := 8) (n := 145) (t0 := 0) (ks' := (qKS.take 146)) rfl rfl (by decide) xw_8 (by decide) (by decide +kernel) (by decide) rfl (by decide) (hb99.2 _ (Nat.le_refl _)) (by decide) ⟨by rw [hcc]; decide, by rw [hss]; decide⟩ d_M_init_410 ?_
  have hb100 := qbl_up hb99 (Nat.le_succ 145)
  refine q_putR hX (hni rfl) (c := 12) (j := 61) (n := 65) (C := qR12) (T := qT12) rfl (by decide) rfl xw_213 rfl rfl (by decide) (by decide) d_M_init_412 ?_
  have hb101 := qbl_ru (k := 104) (j := 61) (v := some 145) hb100 (by decide)
  refine q_aload_n hX d_M_init_415 rfl ?_
  refine q_bipush hX (v := (16 : Int32)) d_M_init_416 (by decide +kernel) ?_
  refine q_newa hX (atype := .int) (ty := .int) (tg := 100) (N := 16) (n := 146) (t0 := 0) (ks' := (qKS.take 147)) rfl rfl (by decide) xw_8 (by decide) (by decide +kernel) (by decide) rfl (by decide) (hb101.2 _ (Nat.le_refl _)) (by decide) ⟨by rw [hcc]; decide, by rw [hss]; decide⟩ d_M_init_418 ?_
  have hb102 := qbl_up hb101 (Nat.le_succ 146)
  refine q_putR hX (hni rfl) (c := 12) (j := 63) (n := 65) (C := qR12) (T := qT12) rfl (by decide) rfl xw_214 rfl rfl (by decide) (by decide) d_M_init_420 ?_
  have hb103 := qbl_ru (k := 104) (j := 63) (v := some 146) hb102 (by decide)
  exact q_vret hX hT d_M_init_423
