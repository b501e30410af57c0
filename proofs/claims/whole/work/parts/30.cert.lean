set_option maxHeartbeats 4000000 in
theorem t_Ar_fill_lb5 {G : qG} {X : qX} (hX : qOk G X "java/util/Arrays" prog_21_method_103_code 4 none 1) {u : qMem} {f : Nat} {x0 : Nat} {nx0 : Nat} {x1 : Int32} {x3 : Int32} (hkx0 : qKS[x0]? = some (100, nx0)) (hT : qTg G X 0 0 qKS qRF u none) {k5 : qMem → Int32 → Option (qMem)} (hk5 : ∀ (σ : qMem) (x2 : Int32), k5 σ x2 = some u → qV G X 0 0 qKS qRF σ 5 [some (.ref x0), some (.int x1), some (.int x2), some (.int x3)] []) {σ : qMem} {x2 : Int32} (h : p_Ar_fill_l5 f  x0 nx0 x1 x3  k5 σ x2 = some u) : qV G X 0 0 qKS qRF σ 5 [some (.ref x0), some (.int x1), some (.int x2), some (.int x3)] [] := by
  unfold p_Ar_fill_l5 at h
  refine q_iload_n hX d_Ar_fill_5 rfl ?_
  refine q_iload_n hX d_Ar_fill_6 rfl ?_
  refine q_icmp_ge hX d_Ar_fill_7 rfl h (fun _ h => ?_) (fun _ h => ?_)
  · exact q_vretW hX h hT d_Ar_fill_20
  · refine q_aload_n hX d_Ar_fill_10 rfl ?_
    refine q_iload_n hX d_Ar_fill_11 rfl ?_
    refine q_iload_n hX d_Ar_fill_12 rfl ?_
    refine q_iast hX hkx0 qKS_len d_Ar_fill_13 h (fun hi1 h => ?_)
    refine q_iinc hX d_Ar_fill_14 rfl (ii_1 _) (by decide) rfl rfl ?_
    refine q_goto hX d_Ar_fill_17 rfl ?_
    exact q_mask [true, true, true, true] rfl (hk5 _ _ h)
theorem t_Ar_fill_l5 {G : qG} {X : qX} (hX : qOk G X "java/util/Arrays" prog_21_method_103_code 4 none 1) {u : qMem} {f : Nat} {x0 : Nat} {nx0 : Nat} {x1 : Int32} {x3 : Int32} (hkx0 : qKS[x0]? = some (100, nx0)) (hT : qTg G X 0 0 qKS qRF u none) : ∀ (n : Nat) (σ : qMem) (x2 : Int32), qfix2 (p_Ar_fill_l5 f  x0 nx0 x1 x3 ) n σ x2 = some u → qV G X 0 0 qKS qRF σ 5 [some (.ref x0), some (.int x1), some (.int x2), some (.int x3)] [] :=
  qfix2_ind (fun k hk _ _ h => t_Ar_fill_lb5 hX  hkx0 hT  hk h)
set_option maxHeartbeats 4000000 in
theorem c_Ar_fill (l : Launch) (G : qG) (hA : qAd G) (f : Nat) (σ : qMem) (x0 : Nat) (nx0 : Nat) (x1 : Int32) {u : qMem} (hkx0 : qKS[x0]? = some (100, nx0)) (h : p_Ar_fill f σ x0 nx0 x1 = some u) : qCt l y_Ar_fill prog_21_method_103_code 4 none 1 G qKS qRF σ [(.ref x0), (.int x1)] none qKS qRF u 0 0 := by
  refine qCt.of (lv := [some (.ref x0), some (.int x1), none, none]) (by decide) hA (Nat.le_of_ble_eq_true rfl) rfl ?_
  intro X hl _ _ _ hX hT
  subst hl
  unfold p_Ar_fill at h
  refine q_iconst hX d_Ar_fill_0 ic_0 ?_
  refine q_istore_n hX d_Ar_fill_1 (by decide) rfl rfl ?_
  refine q_aload_n hX d_Ar_fill_2 rfl ?_
  refine q_alen hX hkx0 (Or.inl rfl) rfl d_Ar_fill_3 ?_
  refine q_istore_n hX d_Ar_fill_4 (by decide) rfl rfl ?_
  exact q_mask [true, true, true, true] rfl (t_Ar_fill_l5 hX hkx0 hT f _ _ h)
set_option maxHeartbeats 4000000 in
theorem c_C_outside (l : Launch) (G : qG) (hA : qAd G) (f : Nat) (σ : qMem) (x0 : Int32) (x1 : Int32) (x2 : Int32) {u : Int32} (h : p_C_outside f σ x0 x1 x2 = some u) : qCt l y_C_outside prog_1_method_42_code 3 (some .boolean) 1 G qKS qRF σ [(.int x0), (.int x1), (.int x2)] (some (.int u)) qKS qRF σ 0 0 := by
  refine qCt.of (lv := [some (.int x0), some (.int x1), some (.int x2)]) (by decide) hA (Nat.le_of_ble_eq_true rfl) rfl ?_
  intro X hl _ _ _ hX hT
  subst hl
  unfold p_C_outside at h
  refine q_iload_n hX d_C_outside_0 rfl ?_
  refine q_iload_n hX d_C_outside_1 rfl ?_
  refine q_icmp_lt hX d_C_outside_2 rfl h (fun _ h => ?_) (fun _ h => ?_)
  · refine q_iconst hX d_C_outside_10 ic_1 ?_
    refine q_goto hX d_C_outside_11 rfl ?_
    exact q_zretR hX zn_1 h hT d_C_outside_15
  · refine q_iload_n hX d_C_outside_5 rfl ?_
    refine q_iload_n hX d_C_outside_6 rfl ?_
    refine q_icmp_le hX d_C_outside_7 rfl h (fun _ h => ?_) (fun _ h => ?_)
    · refine q_iconst hX d_C_outside_14 ic_0 ?_
      exact q_zretR hX zn_0 h hT d_C_outside_15
    · refine q_iconst hX d_C_outside_10 ic_1 ?_
      refine q_goto hX d_C_outside_11 rfl ?_
      exact q_zretR hX zn_1 h hT d_C_outside_15
set_option maxHeartbeats 4000000 in
theorem c_Sheets_noSuch (l : Launch) (G : qG) (hA : qAd G) (f : Nat) (σ : qMem) (x0 : Int32) {u : Int32} (h : p_Sheets_noSuch f σ x0 = some u) : qCt l y_Sheets_noSuch prog_11_method_2_code 1 (some .boolean) 2 G qKS qRF σ [(.int x0)] (some (.int u)) qKS qRF σ 0 0 := by
  refine qCt.of (lv := [some (.int x0)]) (by decide) hA (Nat.le_of_ble_eq_true rfl) rfl ?_
  intro X hl _ _ _ hX hT
  subst hl
  unfold p_Sheets_noSuch at h
  refine q_iload_n hX d_Sheets_noSuch_0 rfl ?_
  refine q_iconst hX d_Sheets_noSuch_1 ic_0 ?_
  refine q_bipush hX d_Sheets_noSuch_2 bp_7 ?_
  obtain ⟨u1, hc2, h⟩ := qbind h
  refine q_cSNr hX (c_C_outside X.l G hX.ad f _ _ _ _ hc2) cw_Sheets_27 rfl (Nat.le_of_ble_eq_true rfl) rfl (Nat.le_of_ble_eq_true rfl) d_Sheets_noSuch_4 ?_
  exact q_zretR hX rfl h hT d_Sheets_noSuch_7
set_option maxHeartbeats 4000000 in
theorem c_C_found (l : Launch) (G : qG) (hA : qAd G) (f : Nat) (σ : qMem) (x1 : Int32) {u : Int32 × qMem} (h : p_C_found f σ x1 = some u) : qCt l y_C_found prog_1_method_48_code 2 (some .int) 1 G qKS qRF σ [(.ref 0), (.int x1)] (some (.int u.1)) qKS qRF u.2 0 0 := by
  refine qCt.of (lv := [some (.ref 0), some (.int x1)]) (by decide) hA (Nat.le_of_ble_eq_true rfl) rfl ?_
  intro X hl _ _ _ hX hT
  subst hl
  unfold p_C_found at h
  refine q_aload_n hX d_C_found_0 rfl ?_
  refine q_iload_n hX d_C_found_1 rfl ?_
  refine q_putI hX fl_C_109 kc_0 rfl qKS_len d_C_found_2 ?_
  refine q_ldcw hX w_388 d_C_found_5 ?_
  refine q_iload_n hX d_C_found_8 rfl ?_
  refine q_isub hX d_C_found_9 ?_
  exact q_iretW hX h hT d_C_found_10
set_option maxHeartbeats 4000000 in
theorem c_Sheets_make (l : Launch) (G : qG) (hA : qAd G) (f : Nat) (σ : qMem) (x1 : Int32) (x2 : Int32) (x3 : Int32) {u : qMem} (h : p_Sheets_make f σ x1 x2 x3 = some u) : qCt l y_Sheets_make prog_11_method_6_code 4 none 2 G qKS qRF σ [(.ref 1), (.int x1), (.int x2), (.int x3)] none qKS qRF u 0 0 := by
  refine qCt.of (lv := [some (.ref 1), some (.int x1), some (.int x2), some (.int x3)]) (by decide) hA (Nat.le_of_ble_eq_true rfl) rfl ?_
  intro X hl _ _ _ hX hT
  subst hl
  unfold p_Sheets_make at h
  refine q_aload_n hX d_Sheets_make_0 rfl ?_
  refine q_getR hX fl_Sheets_9 kc_1 (rfl : qRF 1 0 = some 2) d_Sheets_make_1 ?_
  refine q_iload_n hX d_Sheets_make_4 rfl ?_
  refine q_iload_n hX d_Sheets_make_5 rfl ?_
  refine q_iast hX kc_2 qKS_len d_Sheets_make_6 h (fun hi1 h => ?_)
  refine q_aload_n hX d_Sheets_make_7 rfl ?_
  refine q_getR hX fl_Sheets_13 kc_1 (rfl : qRF 1 1 = some 3) d_Sheets_make_8 ?_
  refine q_iload_n hX d_Sheets_make_11 rfl ?_
  refine q_iload_n hX d_Sheets_make_12 rfl ?_
  refine q_iast hX kc_3 qKS_len d_Sheets_make_13 h (fun hi2 h => ?_)
  refine q_aload_n hX d_Sheets_make_14 rfl ?_
  refine q_getR hX fl_Sheets_18 kc_1 (rfl : qRF 1 2 = some 4) d_Sheets_make_15 ?_
  refine q_iload_n hX d_Sheets_make_18 rfl ?_
  refine q_aald hX kc_4 d_Sheets_make_19 h (fun _ => rfl) (fun hi3 h => ?_)
  refine q_iconst hX d_Sheets_make_20 ic_0 ?_
  obtain ⟨u4, hc5, h⟩ := qbind h
  refine q_cSv hX (c_Ar_fill X.l G hX.ad f _ _ _ _ (kr_4 hi3) hc5) cw_Sheets_21 rfl (Nat.le_of_ble_eq_true rfl) rfl (Nat.le_of_ble_eq_true rfl) d_Sheets_make_21 ?_
  exact q_vretW hX h hT d_Sheets_make_24
set_option maxHeartbeats 4000000 in
theorem c_C_foundNothing (l : Launch) (G : qG) (hA : qAd G) (f : Nat) (σ : qMem) (x1 : Int32) {u : Int32 × qMem} (h : p_C_foundNothing f σ x1 = some u) : qCt l y_C_foundNothing prog_1_method_49_code 2 (some .int) 1 G qKS qRF σ [(.ref 0), (.int x1)] (some (.int u.1)) qKS qRF u.2 0 0 := by
  refine qCt.of (lv := [some (.ref 0), some (.int x1)]) (by decide) hA (Nat.le_of_ble_eq_true rfl) rfl ?_
  intro X hl _ _ _ hX hT
  subst hl
  unfold p_C_foundNothing at h
  refine q_aload_n hX d_C_foundNothing_0 rfl ?_
  refine q_iconst hX d_C_foundNothing_1 ic_0 ?_
  refine q_putI hX fl_C_109 kc_0 rfl qKS_len d_C_foundNothing_2 ?_
  refine q_iload_n hX d_C_foundNothing_5 rfl ?_
  exact q_iretW hX h hT d_C_foundNothing_6
set_option maxHeartbeats 4000000 in
theorem c_C_sheet (l : Launch) (G : qG) (hA : qAd G) (f : Nat) (σ : qMem) (x1 : Int32) (x2 : Int32) (x3 : Int32) {u : Int32 × qMem} (h : p_C_sheet f σ x1 x2 x3 = some u) : qCt l y_C_sheet prog_1_method_2_code 4 (some .int) 3 G qKS qRF σ [(.ref 0), (.int x1), (.int x2), (.int x3)] (some (.int u.1)) qKS qRF u.2 0 0 := by
  refine qCt.of (lv := [some (.ref 0), some (.int x1), some (.int x2), some (.int x3)]) (by decide) hA (Nat.le_of_ble_eq_true rfl) rfl ?_
  intro X hl _ _ _ hX hT
  subst hl
  unfold p_C_sheet at h
  refine q_iload_n hX d_C_sheet_0 rfl ?_
  obtain ⟨u1, hc2, h⟩ := qbind h
  refine q_cSr hX (c_Sheets_noSuch X.l G hX.ad f _ _ hc2) cw_C_118 rfl (Nat.le_of_ble_eq_true rfl) rfl (Nat.le_of_ble_eq_true rfl) d_C_sheet_1 ?_
  refine q_if_ne hX d_C_sheet_4 rfl h (fun _ h => ?_) (fun _ h => ?_)
  · refine q_ldc hX w_383 d_C_sheet_22 ?_
    exact q_iretW hX h hT d_C_sheet_24
  · refine q_iload_n hX d_C_sheet_7 rfl ?_
    refine q_iconst hX d_C_sheet_8 ic_0 ?_
    refine q_iconst hX d_C_sheet_9 ic_2 ?_
    obtain ⟨u3, hc4, h⟩ := qbind h
    refine q_cSr hX (c_C_outside X.l G hX.ad f _ _ _ _ hc4) cw_C_122 rfl (Nat.le_of_ble_eq_true rfl) rfl (Nat.le_of_ble_eq_true rfl) d_C_sheet_10 ?_
    refine q_if_ne hX d_C_sheet_13 rfl h (fun _ h => ?_) (fun _ h => ?_)
    · refine q_ldc hX w_383 d_C_sheet_22 ?_
      exact q_iretW hX h hT d_C_sheet_24
    · refine q_iload_n hX d_C_sheet_16 rfl ?_
      refine q_bipush hX d_C_sheet_17 bp_60 ?_
      refine q_icmp_le hX d_C_sheet_19 rfl h (fun _ h => ?_) (fun _ h => ?_)
      · refine q_iload_n hX d_C_sheet_25 rfl ?_
        refine q_if_ge hX d_C_sheet_26 rfl h (fun _ h => ?_) (fun _ h => ?_)
        · refine q_aload_n hX d_C_sheet_35 rfl ?_
          refine q_getR hX fl_C_10 kc_0 (rfl : qRF 0 0 = some 1) d_C_sheet_36 ?_
          refine q_iload_n hX d_C_sheet_39 rfl ?_
          refine q_iload_n hX d_C_sheet_40 rfl ?_
          refine q_iload_n hX d_C_sheet_41 rfl ?_
          obtain ⟨u5, hc6, h⟩ := qbind h
          refine q_cVv hX (c_Sheets_make X.l G hX.ad f _ _ _ _ hc6) cw_C_131 rfl kc_1 rfl (Nat.le_of_ble_eq_true rfl) rfl (Nat.le_of_ble_eq_true rfl) d_C_sheet_42 ?_
          refine q_aload_n hX d_C_sheet_45 rfl ?_
          refine q_iload_n hX d_C_sheet_46 rfl ?_
          obtain ⟨u7, hc8, h⟩ := qbind h
          refine q_cVr hX (c_C_foundNothing X.l G hX.ad f _ _ hc8) cw_C_135 rfl kc_0 rfl (Nat.le_of_ble_eq_true rfl) rfl (Nat.le_of_ble_eq_true rfl) d_C_sheet_47 ?_
          exact q_iretW hX h hT d_C_sheet_50
        · refine q_aload_n hX d_C_sheet_29 rfl ?_
          refine q_iconst hX d_C_sheet_30 ic_4 ?_
          obtain ⟨u9, hc10, h⟩ := qbind h
          refine q_cVr hX (c_C_found X.l G hX.ad f _ _ hc10) cw_C_127 rfl kc_0 rfl (Nat.le_of_ble_eq_true rfl) rfl (Nat.le_of_ble_eq_true rfl) d_C_sheet_31 ?_
          exact q_iretW hX h hT d_C_sheet_34
      · refine q_ldc hX w_383 d_C_sheet_22 ?_
        exact q_iretW hX h hT d_C_sheet_24
set_option maxHeartbeats 4000000 in
theorem c_Sheets_missing (l : Launch) (G : qG) (hA : qAd G) (f : Nat) (σ : qMem) (x1 : Int32) {u : Int32} (h : p_Sheets_missing f σ x1 = some u) : qCt l y_Sheets_missing prog_11_method_3_code 2 (some .boolean) 1 G qKS qRF σ [(.ref 1), (.int x1)] (some (.int u)) qKS qRF σ 0 0 := by
  refine qCt.of (lv := [some (.ref 1), some (.int x1)]) (by decide) hA (Nat.le_of_ble_eq_true rfl) rfl ?_
  intro X hl _ _ _ hX hT
  subst hl
  unfold p_Sheets_missing at h
  refine q_aload_n hX d_Sheets_missing_0 rfl ?_
  refine q_getR hX fl_Sheets_9 kc_1 (rfl : qRF 1 0 = some 2) d_Sheets_missing_1 ?_
  refine q_iload_n hX d_Sheets_missing_4 rfl ?_
  refine q_iald hX kc_2 d_Sheets_missing_5 h (fun hi1 h => ?_)
  refine q_iconst hX d_Sheets_missing_6 ic_m1 ?_
  refine q_icmp_ne hX d_Sheets_missing_7 rfl h (fun _ h => ?_) (fun _ h => ?_)
  · refine q_iconst hX d_Sheets_missing_14 ic_0 ?_
    exact q_zretR hX zn_0 h hT d_Sheets_missing_15
  · refine q_iconst hX d_Sheets_missing_10 ic_1 ?_
    refine q_goto hX d_Sheets_missing_11 rfl ?_
    exact q_zretR hX zn_1 h hT d_Sheets_missing_15
set_option maxHeartbeats 4000000 in
theorem c_Sheets_holds (l : Launch) (G : qG) (hA : qAd G) (f : Nat) (σ : qMem) (x1 : Int32) (x2 : Int32) (x3 : Int32) {u : Int32} (h : p_Sheets_holds f σ x1 x2 x3 = some u) : qCt l y_Sheets_holds prog_11_method_5_code 4 (some .boolean) 1 G qKS qRF σ [(.ref 1), (.int x1), (.int x2), (.int x3)] (some (.int u)) qKS qRF σ 0 0 := by
  refine qCt.of (lv := [some (.ref 1), some (.int x1), some (.int x2), some (.int x3)]) (by decide) hA (Nat.le_of_ble_eq_true rfl) rfl ?_
  intro X hl _ _ _ hX hT
  subst hl
  unfold p_Sheets_holds at h
  refine q_iload_n hX d_Sheets_holds_0 rfl ?_
  refine q_if_lt hX d_Sheets_holds_1 rfl h (fun _ h => ?_) (fun _ h => ?_)
  · refine q_iconst hX d_Sheets_holds_34 ic_0 ?_
    exact q_zretR hX zn_0 h hT d_Sheets_holds_35
  · refine q_iload_n hX d_Sheets_holds_4 rfl ?_
    refine q_if_lt hX d_Sheets_holds_5 rfl h (fun _ h => ?_) (fun _ h => ?_)
    · refine q_iconst hX d_Sheets_holds_34 ic_0 ?_
      exact q_zretR hX zn_0 h hT d_Sheets_holds_35
    · refine q_iload_n hX d_Sheets_holds_8 rfl ?_
      refine q_aload_n hX d_Sheets_holds_9 rfl ?_
      refine q_getR hX fl_Sheets_13 kc_1 (rfl : qRF 1 1 = some 3) d_Sheets_holds_10 ?_
      refine q_iload_n hX d_Sheets_holds_13 rfl ?_
      refine q_iald hX kc_3 d_Sheets_holds_14 h (fun hi1 h => ?_)
      refine q_icmp_gt hX d_Sheets_holds_15 rfl h (fun _ h => ?_) (fun _ h => ?_)
      · refine q_iconst hX d_Sheets_holds_34 ic_0 ?_
        exact q_zretR hX zn_0 h hT d_Sheets_holds_35
      · refine q_iload_n hX d_Sheets_holds_18 rfl ?_
        refine q_aload_n hX d_Sheets_holds_19 rfl ?_
        refine q_getR hX fl_Sheets_13 kc_1 (rfl : qRF 1 1 = some 3) d_Sheets_holds_20 ?_
        refine q_iload_n hX d_Sheets_holds_23 rfl ?_
        refine q_iald hX kc_3 d_Sheets_holds_24 h (fun hi2 h => ?_)
        refine q_iload_n hX d_Sheets_holds_25 rfl ?_
        refine q_isub hX d_Sheets_holds_26 ?_
        refine q_icmp_gt hX d_Sheets_holds_27 rfl h (fun _ h => ?_) (fun _ h => ?_)
        · refine q_iconst hX d_Sheets_holds_34 ic_0 ?_
          exact q_zretR hX zn_0 h hT d_Sheets_holds_35
        · refine q_iconst hX d_Sheets_holds_30 ic_1 ?_
          refine q_goto hX d_Sheets_holds_31 rfl ?_
          exact q_zretR hX zn_1 h hT d_Sheets_holds_35
set_option maxHeartbeats 4000000 in
theorem c_Sheets_lowestBits (l : Launch) (G : qG) (hA : qAd G) (f : Nat) (σ : qMem) (x0 : Int32) (x1 : Int32) {u : Int32} (h : p_Sheets_lowestBits f σ x0 x1 = some u) : qCt l y_Sheets_lowestBits prog_11_method_9_code 2 (some .int) 1 G qKS qRF σ [(.int x0), (.int x1)] (some (.int u)) qKS qRF σ 0 0 := by
  refine qCt.of (lv := [some (.int x0), some (.int x1)]) (by decide) hA (Nat.le_of_ble_eq_true rfl) rfl ?_
  intro X hl _ _ _ hX hT
  subst hl
  unfold p_Sheets_lowestBits at h
  refine q_iload_n hX d_Sheets_lowestBits_0 rfl ?_
  refine q_if_ne hX d_Sheets_lowestBits_1 rfl h (fun _ h => ?_) (fun _ h => ?_)
  · refine q_iload_n hX d_Sheets_lowestBits_7 rfl ?_
    refine q_iconst hX d_Sheets_lowestBits_8 ic_1 ?_
    refine q_icmp_ne hX d_Sheets_lowestBits_9 rfl h (fun _ h => ?_) (fun _ h => ?_)
    · refine q_iload_n hX d_Sheets_lowestBits_17 rfl ?_
      exact q_iretR hX h hT d_Sheets_lowestBits_18
    · refine q_iload_n hX d_Sheets_lowestBits_12 rfl ?_
      refine q_i2s hX d_Sheets_lowestBits_13 ?_
      refine q_goto hX d_Sheets_lowestBits_14 rfl ?_
      exact q_iretR hX h hT d_Sheets_lowestBits_18
  · refine q_iload_n hX d_Sheets_lowestBits_4 rfl ?_
    refine q_i2b hX d_Sheets_lowestBits_5 ?_
    exact q_iretR hX h hT d_Sheets_lowestBits_6
set_option maxHeartbeats 4000000 in
theorem c_Sheets_put (l : Launch) (G : qG) (hA : qAd G) (f : Nat) (σ : qMem) (x1 : Int32) (x2 : Int32) (x3 : Int32) {u : Int32 × qMem} (h : p_Sheets_put f σ x1 x2 x3 = some u) : qCt l y_Sheets_put prog_11_method_8_code 4 (some .int) 2 G qKS qRF σ [(.ref 1), (.int x1), (.int x2), (.int x3)] (some (.int u.1)) qKS qRF u.2 0 0 := by
  refine qCt.of (lv := [some (.ref 1), some (.int x1), some (.int x2), some (.int x3)]) (by decide) hA (Nat.le_of_ble_eq_true rfl) rfl ?_
  intro X hl _ _ _ hX hT
  subst hl
  unfold p_Sheets_put at h
  refine q_aload_n hX d_Sheets_put_0 rfl ?_
  refine q_getR hX fl_Sheets_18 kc_1 (rfl : qRF 1 2 = some 4) d_Sheets_put_1 ?_
  refine q_iload_n hX d_Sheets_put_4 rfl ?_
  refine q_aald hX kc_4 d_Sheets_put_5 h (fun _ => rfl) (fun hi1 h => ?_)
  refine q_iload_n hX d_Sheets_put_6 rfl ?_
  refine q_aload_n hX d_Sheets_put_7 rfl ?_
  refine q_getR hX fl_Sheets_9 kc_1 (rfl : qRF 1 0 = some 2) d_Sheets_put_8 ?_
  refine q_iload_n hX d_Sheets_put_11 rfl ?_
  refine q_iald hX kc_2 d_Sheets_put_12 h (fun hi2 h => ?_)
  refine q_iload_n hX d_Sheets_put_13 rfl ?_
  obtain ⟨u3, hc4, h⟩ := qbind h
  refine q_cSr hX (c_Sheets_lowestBits X.l G hX.ad f _ _ _ hc4) cw_Sheets_33 rfl (Nat.le_of_ble_eq_true rfl) rfl (Nat.le_of_ble_eq_true rfl) d_Sheets_put_14 ?_
  refine q_iast hX (kr_4 hi1) qKS_len d_Sheets_put_17 h (fun hi5 h => ?_)
  refine q_aload_n hX d_Sheets_put_18 rfl ?_
  refine q_getR hX fl_Sheets_18 kc_1 (rfl : qRF 1 2 = some 4) d_Sheets_put_19 ?_
  refine q_iload_n hX d_Sheets_put_22 rfl ?_
  refine q_aald hX kc_4 d_Sheets_put_23 h (fun _ => rfl) (fun hi6 h => ?_)
  refine q_iload_n hX d_Sheets_put_24 rfl ?_
  refine q_iald hX (kr_4 hi6) d_Sheets_put_25 h (fun hi7 h => ?_)
  exact q_iretW hX h hT d_Sheets_put_26
set_option maxHeartbeats 4000000 in
theorem c_C_set (l : Launch) (G : qG) (hA : qAd G) (f : Nat) (σ : qMem) (x1 : Int32) (x2 : Int32) (x3 : Int32) {u : Int32 × qMem} (h : p_C_set f σ x1 x2 x3 = some u) : qCt l y_C_set prog_1_method_3_code 4 (some .int) 3 G qKS qRF σ [(.ref 0), (.int x1), (.int x2), (.int x3)] (some (.int u.1)) qKS qRF u.2 0 0 := by
  refine qCt.of (lv := [some (.ref 0), some (.int x1), some (.int x2), some (.int x3)]) (by decide) hA (Nat.le_of_ble_eq_true rfl) rfl ?_
  intro X hl _ _ _ hX hT
  subst hl
  unfold p_C_set at h
  refine q_iload_n hX d_C_set_0 rfl ?_
  obtain ⟨u1, hc2, h⟩ := qbind h
  refine q_cSr hX (c_Sheets_noSuch X.l G hX.ad f _ _ hc2) cw_C_118 rfl (Nat.le_of_ble_eq_true rfl) rfl (Nat.le_of_ble_eq_true rfl) d_C_set_1 ?_
  refine q_if_eq hX d_C_set_4 rfl h (fun _ h => ?_) (fun _ h => ?_)
  · refine q_aload_n hX d_C_set_10 rfl ?_
    refine q_getR hX fl_C_10 kc_0 (rfl : qRF 0 0 = some 1) d_C_set_11 ?_
    refine q_iload_n hX d_C_set_14 rfl ?_
    obtain ⟨u3, hc4, h⟩ := qbind h
    refine q_cVr hX (c_Sheets_missing X.l G hX.ad f _ _ hc4) cw_C_138 rfl kc_1 rfl (Nat.le_of_ble_eq_true rfl) rfl (Nat.le_of_ble_eq_true rfl) d_C_set_15 ?_
    refine q_if_eq hX d_C_set_18 rfl h (fun _ h => ?_) (fun _ h => ?_)
    · refine q_aload_n hX d_C_set_27 rfl ?_
      refine q_getR hX fl_C_10 kc_0 (rfl : qRF 0 0 = some 1) d_C_set_28 ?_
      refine q_iload_n hX d_C_set_31 rfl ?_
      refine q_iload_n hX d_C_set_32 rfl ?_
      refine q_iconst hX d_C_set_33 ic_1 ?_
      obtain ⟨u5, hc6, h⟩ := qbind h
      refine q_cVr hX (c_Sheets_holds X.l G hX.ad f _ _ _ _ hc6) cw_C_141 rfl kc_1 rfl (Nat.le_of_ble_eq_true rfl) rfl (Nat.le_of_ble_eq_true rfl) d_C_set_34 ?_
      refine q_if_ne hX d_C_set_37 rfl h (fun _ h => ?_) (fun _ h => ?_)
      · refine q_aload_n hX d_C_set_46 rfl ?_
        refine q_aload_n hX d_C_set_47 rfl ?_
        refine q_getR hX fl_C_10 kc_0 (rfl : qRF 0 0 = some 1) d_C_set_48 ?_
        refine q_iload_n hX d_C_set_51 rfl ?_
        refine q_iload_n hX d_C_set_52 rfl ?_
        refine q_iload_n hX d_C_set_53 rfl ?_
        obtain ⟨u7, hc8, h⟩ := qbind h
        refine q_cVr hX (c_Sheets_put X.l G hX.ad f _ _ _ _ hc8) cw_C_144 rfl kc_1 rfl (Nat.le_of_ble_eq_true rfl) rfl (Nat.le_of_ble_eq_true rfl) d_C_set_54 ?_
        obtain ⟨u9, hc10, h⟩ := qbind h
        refine q_cVr hX (c_C_foundNothing X.l G hX.ad f _ _ hc10) cw_C_135 rfl kc_0 rfl (Nat.le_of_ble_eq_true rfl) rfl (Nat.le_of_ble_eq_true rfl) d_C_set_57 ?_
        exact q_iretW hX h hT d_C_set_60
      · refine q_aload_n hX d_C_set_40 rfl ?_
        refine q_iconst hX d_C_set_41 ic_2 ?_
        obtain ⟨u11, hc12, h⟩ := qbind h
        refine q_cVr hX (c_C_found X.l G hX.ad f _ _ hc12) cw_C_127 rfl kc_0 rfl (Nat.le_of_ble_eq_true rfl) rfl (Nat.le_of_ble_eq_true rfl) d_C_set_42 ?_
        exact q_iretW hX h hT d_C_set_45
    · refine q_aload_n hX d_C_set_21 rfl ?_
      refine q_iconst hX d_C_set_22 ic_1 ?_
      obtain ⟨u13, hc14, h⟩ := qbind h
      refine q_cVr hX (c_C_found X.l G hX.ad f _ _ hc14) cw_C_127 rfl kc_0 rfl (Nat.le_of_ble_eq_true rfl) rfl (Nat.le_of_ble_eq_true rfl) d_C_set_23 ?_
      exact q_iretW hX h hT d_C_set_26
  · refine q_ldc hX w_383 d_C_set_7 ?_
    exact q_iretW hX h hT d_C_set_9
set_option maxHeartbeats 4000000 in
theorem c_Sheets_alike (l : Launch) (G : qG) (hA : qAd G) (f : Nat) (σ : qMem) (x1 : Int32) (x2 : Int32) {u : Int32} (h : p_Sheets_alike f σ x1 x2 = some u) : qCt l y_Sheets_alike prog_11_method_4_code 3 (some .boolean) 1 G qKS qRF σ [(.ref 1), (.int x1), (.int x2)] (some (.int u)) qKS qRF σ 0 0 := by
  refine qCt.of (lv := [some (.ref 1), some (.int x1), some (.int x2)]) (by decide) hA (Nat.le_of_ble_eq_true rfl) rfl ?_
  intro X hl _ _ _ hX hT
  subst hl
  unfold p_Sheets_alike at h
  refine q_aload_n hX d_Sheets_alike_0 rfl ?_
  refine q_getR hX fl_Sheets_9 kc_1 (rfl : qRF 1 0 = some 2) d_Sheets_alike_1 ?_
  refine q_iload_n hX d_Sheets_alike_4 rfl ?_
  refine q_iald hX kc_2 d_Sheets_alike_5 h (fun hi1 h => ?_)
  refine q_aload_n hX d_Sheets_alike_6 rfl ?_
  refine q_getR hX fl_Sheets_9 kc_1 (rfl : qRF 1 0 = some 2) d_Sheets_alike_7 ?_
  refine q_iload_n hX d_Sheets_alike_10 rfl ?_
  refine q_iald hX kc_2 d_Sheets_alike_11 h (fun hi2 h => ?_)
  refine q_icmp_ne hX d_Sheets_alike_12 rfl h (fun _ h => ?_) (fun _ h => ?_)
  · refine q_iconst hX d_Sheets_alike_19 ic_0 ?_
    exact q_zretR hX zn_0 h hT d_Sheets_alike_20
  · refine q_iconst hX d_Sheets_alike_15 ic_1 ?_
    refine q_goto hX d_Sheets_alike_16 rfl ?_
    exact q_zretR hX zn_1 h hT d_Sheets_alike_20
set_option maxHeartbeats 4000000 in
theorem c_Sheets_move (l : Launch) (G : qG) (hA : qAd G) (f : Nat) (σ : qMem) (x1 : Int32) (x2 : Int32) (x3 : Int32) (x4 : Int32) (x5 : Int32) {u : qMem} (h : p_Sheets_move f σ x1 x2 x3 x4 x5 = some u) : qCt l y_Sheets_move prog_11_method_10_code 6 none 1 G qKS qRF σ [(.ref 1), (.int x1), (.int x2), (.int x3), (.int x4), (.int x5)] none qKS qRF u 0 0 := by
  refine qCt.of (lv := [some (.ref 1), some (.int x1), some (.int x2), some (.int x3), some (.int x4), some (.int x5)]) (by decide) hA (Nat.le_of_ble_eq_true rfl) rfl ?_
  intro X hl _ _ _ hX hT
  subst hl
  unfold p_Sheets_move at h
  refine q_aload_n hX d_Sheets_move_0 rfl ?_
  refine q_getR hX fl_Sheets_18 kc_1 (rfl : qRF 1 2 = some 4) d_Sheets_move_1 ?_
  refine q_iload_n hX d_Sheets_move_4 rfl ?_
  refine q_aald hX kc_4 d_Sheets_move_5 h (fun _ => rfl) (fun hi1 h => ?_)
  refine q_iload_n hX d_Sheets_move_6 rfl ?_
  refine q_aload_n hX d_Sheets_move_7 rfl ?_
  refine q_getR hX fl_Sheets_18 kc_1 (rfl : qRF 1 2 = some 4) d_Sheets_move_8 ?_
  refine q_iload_n hX d_Sheets_move_11 rfl ?_
  refine q_aald hX kc_4 d_Sheets_move_12 h (fun _ => rfl) (fun hi2 h => ?_)
  refine q_iload hX d_Sheets_move_13 rfl ?_
  refine q_iload hX d_Sheets_move_15 rfl ?_
  refine q_copy hX (kr_4 hi1) (kr_4 hi2) qKS_len w_428 w_430 w_429 w_15 (by decide) (Nat.le_of_ble_eq_true rfl) d_Sheets_move_17 h (fun h => ?_)
  exact q_vretW hX h hT d_Sheets_move_20
set_option maxHeartbeats 4000000 in
theorem t_C_copy_b39 {G : qG} {X : qX} (hX : qOk G X "ChantryRolls" prog_1_method_4_code 6 (some .int) 3) {u : Int32 × qMem} {f : Nat} {σ : qMem} (hT : qTg G X 0 0 qKS qRF u.2 (some (.int u.1))) (h : p_C_copy_b39 f    σ = some u) : qV G X 0 0 qKS qRF σ 39 [some (.ref 0), none, none, none, none, none] [] := by
  unfold p_C_copy_b39 at h
  refine q_aload_n hX d_C_copy_39 rfl ?_
  refine q_iconst hX d_C_copy_40 ic_1 ?_
  obtain ⟨u1, hc2, h⟩ := qbind h
  refine q_cVr hX (c_C_found X.l G hX.ad f _ _ hc2) cw_C_127 rfl kc_0 rfl (Nat.le_of_ble_eq_true rfl) rfl (Nat.le_of_ble_eq_true rfl) d_C_copy_41 ?_
  exact q_iretW hX h hT d_C_copy_44
set_option maxHeartbeats 4000000 in
theorem t_C_copy_b92 {G : qG} {X : qX} (hX : qOk G X "ChantryRolls" prog_1_method_4_code 6 (some .int) 3) {u : Int32 × qMem} {f : Nat} {σ : qMem} (hT : qTg G X 0 0 qKS qRF u.2 (some (.int u.1))) (h : p_C_copy_b92 f    σ = some u) : qV G X 0 0 qKS qRF σ 92 [some (.ref 0), none, none, none, none, none] [] := by
  unfold p_C_copy_b92 at h
  refine q_aload_n hX d_C_copy_92 rfl ?_
  refine q_iconst hX d_C_copy_93 ic_2 ?_
  obtain ⟨u3, hc4, h⟩ := qbind h
  refine q_cVr hX (c_C_found X.l G hX.ad f _ _ hc4) cw_C_127 rfl kc_0 rfl (Nat.le_of_ble_eq_true rfl) rfl (Nat.le_of_ble_eq_true rfl) d_C_copy_94 ?_
  exact q_iretW hX h hT d_C_copy_97
set_option maxHeartbeats 4000000 in
theorem c_C_copy (l : Launch) (G : qG) (hA : qAd G) (f : Nat) (σ : qMem) (x1 : Int32) (x2 : Int32) (x3 : Int32) (x4 : Int32) (x5 : Int32) {u : Int32 × qMem} (h : p_C_copy f σ x1 x2 x3 x4 x5 = some u) : qCt l y_C_copy prog_1_method_4_code 6 (some .int) 3 G qKS qRF σ [(.ref 0), (.int x1), (.int x2), (.int x3), (.int x4), (.int x5)] (some (.int u.1)) qKS qRF u.2 0 0 := by
  refine qCt.of (lv := [some (.ref 0), some (.int x1), some (.int x2), some (.int x3), some (.int x4), some (.int x5)]) (by decide) hA (Nat.le_of_ble_eq_true rfl) rfl ?_
  intro X hl _ _ _ hX hT
  subst hl
  unfold p_C_copy at h
  refine q_iload_n hX d_C_copy_0 rfl ?_
  obtain ⟨u5, hc6, h⟩ := qbind h
  refine q_cSr hX (c_Sheets_noSuch X.l G hX.ad f _ _ hc6) cw_C_118 rfl (Nat.le_of_ble_eq_true rfl) rfl (Nat.le_of_ble_eq_true rfl) d_C_copy_1 ?_
  refine q_if_ne hX d_C_copy_4 rfl h (fun _ h => ?_) (fun _ h => ?_)
  · refine q_ldc hX w_383 d_C_copy_14 ?_
    exact q_iretW hX h hT d_C_copy_16
  · refine q_iload_n hX d_C_copy_7 rfl ?_
    obtain ⟨u7, hc8, h⟩ := qbind h
    refine q_cSr hX (c_Sheets_noSuch X.l G hX.ad f _ _ hc8) cw_C_118 rfl (Nat.le_of_ble_eq_true rfl) rfl (Nat.le_of_ble_eq_true rfl) d_C_copy_8 ?_
    refine q_if_eq hX d_C_copy_11 rfl h (fun _ h => ?_) (fun _ h => ?_)
    · refine q_aload_n hX d_C_copy_17 rfl ?_
      refine q_getR hX fl_C_10 kc_0 (rfl : qRF 0 0 = some 1) d_C_copy_18 ?_
      refine q_iload_n hX d_C_copy_21 rfl ?_
      obtain ⟨u9, hc10, h⟩ := qbind h
      refine q_cVr hX (c_Sheets_missing X.l G hX.ad f _ _ hc10) cw_C_138 rfl kc_1 rfl (Nat.le_of_ble_eq_true rfl) rfl (Nat.le_of_ble_eq_true rfl) d_C_copy_22 ?_
      refine q_if_ne hX d_C_copy_25 rfl h (fun _ h => ?_) (fun _ h => ?_)
      · exact q_mask [true, false, false, false, false, false] rfl (t_C_copy_b39 hX hT h)
      · refine q_aload_n hX d_C_copy_28 rfl ?_
        refine q_getR hX fl_C_10 kc_0 (rfl : qRF 0 0 = some 1) d_C_copy_29 ?_
        refine q_iload_n hX d_C_copy_32 rfl ?_
        obtain ⟨u11, hc12, h⟩ := qbind h
        refine q_cVr hX (c_Sheets_missing X.l G hX.ad f _ _ hc12) cw_C_138 rfl kc_1 rfl (Nat.le_of_ble_eq_true rfl) rfl (Nat.le_of_ble_eq_true rfl) d_C_copy_33 ?_
        refine q_if_eq hX d_C_copy_36 rfl h (fun _ h => ?_) (fun _ h => ?_)
        · refine q_aload_n hX d_C_copy_45 rfl ?_
          refine q_getR hX fl_C_10 kc_0 (rfl : qRF 0 0 = some 1) d_C_copy_46 ?_
          refine q_iload_n hX d_C_copy_49 rfl ?_
          refine q_iload_n hX d_C_copy_50 rfl ?_
          obtain ⟨u13, hc14, h⟩ := qbind h
          refine q_cVr hX (c_Sheets_alike X.l G hX.ad f _ _ _ hc14) cw_C_148 rfl kc_1 rfl (Nat.le_of_ble_eq_true rfl) rfl (Nat.le_of_ble_eq_true rfl) d_C_copy_51 ?_
          refine q_if_ne hX d_C_copy_54 rfl h (fun _ h => ?_) (fun _ h => ?_)
          · refine q_aload_n hX d_C_copy_63 rfl ?_
            refine q_getR hX fl_C_10 kc_0 (rfl : qRF 0 0 = some 1) d_C_copy_64 ?_
            refine q_iload_n hX d_C_copy_67 rfl ?_
            refine q_iload_n hX d_C_copy_68 rfl ?_
            refine q_iload hX d_C_copy_69 rfl ?_
            obtain ⟨u15, hc16, h⟩ := qbind h
            refine q_cVr hX (c_Sheets_holds X.l G hX.ad f _ _ _ _ hc16) cw_C_141 rfl kc_1 rfl (Nat.le_of_ble_eq_true rfl) rfl (Nat.le_of_ble_eq_true rfl) d_C_copy_71 ?_
            refine q_if_eq hX d_C_copy_74 rfl h (fun _ h => ?_) (fun _ h => ?_)
            · exact q_mask [true, false, false, false, false, false] rfl (t_C_copy_b92 hX hT h)
            · refine q_aload_n hX d_C_copy_77 rfl ?_
              refine q_getR hX fl_C_10 kc_0 (rfl : qRF 0 0 = some 1) d_C_copy_78 ?_
              refine q_iload_n hX d_C_copy_81 rfl ?_
              refine q_iload hX d_C_copy_82 rfl ?_
              refine q_iload hX d_C_copy_84 rfl ?_
              obtain ⟨u17, hc18, h⟩ := qbind h
              refine q_cVr hX (c_Sheets_holds X.l G hX.ad f _ _ _ _ hc18) cw_C_141 rfl kc_1 rfl (Nat.le_of_ble_eq_true rfl) rfl (Nat.le_of_ble_eq_true rfl) d_C_copy_86 ?_
              refine q_if_ne hX d_C_copy_89 rfl h (fun _ h => ?_) (fun _ h => ?_)
              · refine q_aload_n hX d_C_copy_98 rfl ?_
                refine q_getR hX fl_C_10 kc_0 (rfl : qRF 0 0 = some 1) d_C_copy_99 ?_
                refine q_iload_n hX d_C_copy_102 rfl ?_
                refine q_iload_n hX d_C_copy_103 rfl ?_
                refine q_iload_n hX d_C_copy_104 rfl ?_
                refine q_iload hX d_C_copy_105 rfl ?_
                refine q_iload hX d_C_copy_107 rfl ?_
                obtain ⟨u19, hc20, h⟩ := qbind h
                refine q_cVv hX (c_Sheets_move X.l G hX.ad f _ _ _ _ _ _ hc20) cw_C_152 rfl kc_1 rfl (Nat.le_of_ble_eq_true rfl) rfl (Nat.le_of_ble_eq_true rfl) d_C_copy_109 ?_
                refine q_aload_n hX d_C_copy_112 rfl ?_
                refine q_iload hX d_C_copy_113 rfl ?_
                obtain ⟨u21, hc22, h⟩ := qbind h
                refine q_cVr hX (c_C_foundNothing X.l G hX.ad f _ _ hc22) cw_C_135 rfl kc_0 rfl (Nat.le_of_ble_eq_true rfl) rfl (Nat.le_of_ble_eq_true rfl) d_C_copy_115 ?_
                exact q_iretW hX h hT d_C_copy_118
              · exact q_mask [true, false, false, false, false, false] rfl (t_C_copy_b92 hX hT h)
          · refine q_aload_n hX d_C_copy_57 rfl ?_
            refine q_iconst hX d_C_copy_58 ic_5 ?_
            obtain ⟨u23, hc24, h⟩ := qbind h
            refine q_cVr hX (c_C_found X.l G hX.ad f _ _ hc24) cw_C_127 rfl kc_0 rfl (Nat.le_of_ble_eq_true rfl) rfl (Nat.le_of_ble_eq_true rfl) d_C_copy_59 ?_
            exact q_iretW hX h hT d_C_copy_62
        · exact q_mask [true, false, false, false, false, false] rfl (t_C_copy_b39 hX hT h)
    · refine q_ldc hX w_383 d_C_copy_14 ?_
      exact q_iretW hX h hT d_C_copy_16
set_option maxHeartbeats 4000000 in
theorem c_Sheets_remove (l : Launch) (G : qG) (hA : qAd G) (f : Nat) (σ : qMem) (x1 : Int32) {u : Int32 × qMem} (h : p_Sheets_remove f σ x1 = some u) : qCt l y_Sheets_remove prog_11_method_11_code 2 (some .int) 1 G qKS qRF σ [(.ref 1), (.int x1)] (some (.int u.1)) qKS qRF u.2 0 0 := by
  refine qCt.of (lv := [some (.ref 1), some (.int x1)]) (by decide) hA (Nat.le_of_ble_eq_true rfl) rfl ?_
  intro X hl _ _ _ hX hT
  subst hl
  unfold p_Sheets_remove at h
  refine q_aload_n hX d_Sheets_remove_0 rfl ?_
  refine q_getR hX fl_Sheets_9 kc_1 (rfl : qRF 1 0 = some 2) d_Sheets_remove_1 ?_
  refine q_iload_n hX d_Sheets_remove_4 rfl ?_
  refine q_iconst hX d_Sheets_remove_5 ic_m1 ?_
  refine q_iast hX kc_2 qKS_len d_Sheets_remove_6 h (fun hi1 h => ?_)
  refine q_aload_n hX d_Sheets_remove_7 rfl ?_
  refine q_getR hX fl_Sheets_13 kc_1 (rfl : qRF 1 1 = some 3) d_Sheets_remove_8 ?_
  refine q_iload_n hX d_Sheets_remove_11 rfl ?_
  refine q_iald hX kc_3 d_Sheets_remove_12 h (fun hi2 h => ?_)
  exact q_iretW hX h hT d_Sheets_remove_13
set_option maxHeartbeats 4000000 in
theorem c_C_drop (l : Launch) (G : qG) (hA : qAd G) (f : Nat) (σ : qMem) (x1 : Int32) {u : Int32 × qMem} (h : p_C_drop f σ x1 = some u) : qCt l y_C_drop prog_1_method_5_code 2 (some .int) 3 G qKS qRF σ [(.ref 0), (.int x1)] (some (.int u.1)) qKS qRF u.2 0 0 := by
  refine qCt.of (lv := [some (.ref 0), some (.int x1)]) (by decide) hA (Nat.le_of_ble_eq_true rfl) rfl ?_
  intro X hl _ _ _ hX hT
  subst hl
  unfold p_C_drop at h
  refine q_iload_n hX d_C_drop_0 rfl ?_
  obtain ⟨u1, hc2, h⟩ := qbind h
  refine q_cSr hX (c_Sheets_noSuch X.l G hX.ad f _ _ hc2) cw_C_118 rfl (Nat.le_of_ble_eq_true rfl) rfl (Nat.le_of_ble_eq_true rfl) d_C_drop_1 ?_
  refine q_if_eq hX d_C_drop_4 rfl h (fun _ h => ?_) (fun _ h => ?_)
  · refine q_aload_n hX d_C_drop_10 rfl ?_
    refine q_getR hX fl_C_10 kc_0 (rfl : qRF 0 0 = some 1) d_C_drop_11 ?_
    refine q_iload_n hX d_C_drop_14 rfl ?_
    obtain ⟨u3, hc4, h⟩ := qbind h
    refine q_cVr hX (c_Sheets_missing X.l G hX.ad f _ _ hc4) cw_C_138 rfl kc_1 rfl (Nat.le_of_ble_eq_true rfl) rfl (Nat.le_of_ble_eq_true rfl) d_C_drop_15 ?_
    refine q_if_eq hX d_C_drop_18 rfl h (fun _ h => ?_) (fun _ h => ?_)
    · refine q_aload_n hX d_C_drop_27 rfl ?_
      refine q_aload_n hX d_C_drop_28 rfl ?_
      refine q_getR hX fl_C_10 kc_0 (rfl : qRF 0 0 = some 1) d_C_drop_29 ?_
      refine q_iload_n hX d_C_drop_32 rfl ?_
      obtain ⟨u5, hc6, h⟩ := qbind h
      refine q_cVr hX (c_Sheets_remove X.l G hX.ad f _ _ hc6) cw_C_156 rfl kc_1 rfl (Nat.le_of_ble_eq_true rfl) rfl (Nat.le_of_ble_eq_true rfl) d_C_drop_33 ?_
      obtain ⟨u7, hc8, h⟩ := qbind h
      refine q_cVr hX (c_C_foundNothing X.l G hX.ad f _ _ hc8) cw_C_135 rfl kc_0 rfl (Nat.le_of_ble_eq_true rfl) rfl (Nat.le_of_ble_eq_true rfl) d_C_drop_36 ?_
      exact q_iretW hX h hT d_C_drop_39
    · refine q_aload_n hX d_C_drop_21 rfl ?_
      refine q_iconst hX d_C_drop_22 ic_1 ?_
      obtain ⟨u9, hc10, h⟩ := qbind h
      refine q_cVr hX (c_C_found X.l G hX.ad f _ _ hc10) cw_C_127 rfl kc_0 rfl (Nat.le_of_ble_eq_true rfl) rfl (Nat.le_of_ble_eq_true rfl) d_C_drop_23 ?_
      exact q_iretW hX h hT d_C_drop_26
  · refine q_ldc hX w_383 d_C_drop_7 ?_
    exact q_iretW hX h hT d_C_drop_9
set_option maxHeartbeats 4000000 in
theorem t_Deeds_take_lb20 {G : qG} {X : qX} (hX : qOk G X "ChantryRolls$Deeds" prog_4_method_4_code 5 (some .int) 1) {u : Int32 × qMem} {f : Nat} {x1 : Int64} (hT : qTg G X 0 0 qKS qRF u.2 (some (.int u.1))) {k20 : qMem → Int32 → Option (Int32 × qMem)} (hk20 : ∀ (σ : qMem) (x4 : Int32), k20 σ x4 = some u → qV G X 0 0 qKS qRF σ 20 [some (.ref 27), some (.long x1), none, none, some (.int x4)] []) {σ : qMem} {x4 : Int32} (h : p_Deeds_take_l20 f  x1  k20 σ x4 = some u) : qV G X 0 0 qKS qRF σ 20 [some (.ref 27), some (.long x1), none, none, some (.int x4)] [] := by
  unfold p_Deeds_take_l20 at h
  refine q_iload hX d_Deeds_take_20 rfl ?_
  refine q_if_lt hX d_Deeds_take_22 rfl h (fun _ h => ?_) (fun _ h => ?_)
  · refine q_aload_n hX d_Deeds_take_59 rfl ?_
    refine q_getI hX fl_Deeds_15 kc_27 d_Deeds_take_60 ?_
    exact q_iretW hX h hT d_Deeds_take_63
  · refine q_aload_n hX d_Deeds_take_25 rfl ?_
    refine q_getR hX fl_Deeds_11 kc_27 (rfl : qRF 27 0 = some 28) d_Deeds_take_26 ?_
    refine q_aload_n hX d_Deeds_take_29 rfl ?_
    refine q_getI hX fl_Deeds_15 kc_27 d_Deeds_take_30 ?_
    refine q_lload_n hX d_Deeds_take_33 rfl ?_
    refine q_bipush hX d_Deeds_take_34 bp_8 ?_
    refine q_iload hX d_Deeds_take_36 rfl ?_
    refine q_imul hX d_Deeds_take_38 ?_
    refine q_lshr hX d_Deeds_take_39 ?_
    refine q_l2i hX d_Deeds_take_40 ?_
    refine q_i2b hX d_Deeds_take_41 ?_
    refine q_bast hX kc_28 qKS_len d_Deeds_take_42 h (fun hi1 h => ?_)
    refine q_aload_n hX d_Deeds_take_43 rfl ?_
    refine q_dup hX rfl d_Deeds_take_44 ?_
    refine q_getI hX fl_Deeds_15 kc_27 d_Deeds_take_45 ?_
    refine q_iconst hX d_Deeds_take_48 ic_1 ?_
    refine q_iadd hX d_Deeds_take_49 ?_
    refine q_putI hX fl_Deeds_15 kc_27 rfl qKS_len d_Deeds_take_50 ?_
    refine q_iinc hX d_Deeds_take_53 rfl (ii_m1 _) (by decide) rfl rfl ?_
    refine q_goto hX d_Deeds_take_56 rfl ?_
    exact q_mask [true, true, false, false, true] rfl (hk20 _ _ h)
theorem t_Deeds_take_l20 {G : qG} {X : qX} (hX : qOk G X "ChantryRolls$Deeds" prog_4_method_4_code 5 (some .int) 1) {u : Int32 × qMem} {f : Nat} {x1 : Int64} (hT : qTg G X 0 0 qKS qRF u.2 (some (.int u.1))) : ∀ (n : Nat) (σ : qMem) (x4 : Int32), qfix2 (p_Deeds_take_l20 f  x1 ) n σ x4 = some u → qV G X 0 0 qKS qRF σ 20 [some (.ref 27), some (.long x1), none, none, some (.int x4)] [] :=
  qfix2_ind (fun k hk _ _ h => t_Deeds_take_lb20 hX   hT  hk h)
set_option maxHeartbeats 4000000 in
theorem c_Deeds_take (l : Launch) (G : qG) (hA : qAd G) (f : Nat) (σ : qMem) (x1 : Int64) (x3 : Int32) {u : Int32 × qMem} (h : p_Deeds_take f σ x1 x3 = some u) : qCt l y_Deeds_take prog_4_method_4_code 5 (some .int) 1 G qKS qRF σ [(.ref 27), (.long x1), (.int x3)] (some (.int u.1)) qKS qRF u.2 0 0 := by
  refine qCt.of (lv := [some (.ref 27), some (.long x1), none, some (.int x3), none]) (by decide) hA (Nat.le_of_ble_eq_true rfl) rfl ?_
  intro X hl _ _ _ hX hT
  subst hl
  unfold p_Deeds_take at h
  refine q_iload_n hX d_Deeds_take_0 rfl ?_
  refine q_sipush hX d_Deeds_take_1 sp_500 ?_
  refine q_aload_n hX d_Deeds_take_4 rfl ?_
  refine q_getI hX fl_Deeds_15 kc_27 d_Deeds_take_5 ?_
  refine q_isub hX d_Deeds_take_8 ?_
  refine q_icmp_le hX d_Deeds_take_9 rfl h (fun _ h => ?_) (fun _ h => ?_)
  · refine q_iload_n hX d_Deeds_take_15 rfl ?_
    refine q_iconst hX d_Deeds_take_16 ic_1 ?_
    refine q_isub hX d_Deeds_take_17 ?_
    refine q_istore hX d_Deeds_take_18 (by decide) rfl rfl ?_
    exact q_mask [true, true, false, false, true] rfl (t_Deeds_take_l20 hX hT f _ _ h)
  · refine q_ldc hX w_447 d_Deeds_take_12 ?_
    exact q_iretW hX h hT d_Deeds_take_14
set_option maxHeartbeats 4000000 in
theorem c_C_feed (l : Launch) (G : qG) (hA : qAd G) (f : Nat) (σ : qMem) (x1 : Int64) (x3 : Int32) {u : Int32 × qMem} (h : p_C_feed f σ x1 x3 = some u) : qCt l y_C_feed prog_1_method_6_code 4 (some .int) 2 G qKS qRF σ [(.ref 0), (.long x1), (.int x3)] (some (.int u.1)) qKS qRF u.2 0 0 := by
  refine qCt.of (lv := [some (.ref 0), some (.long x1), none, some (.int x3)]) (by decide) hA (Nat.le_of_ble_eq_true rfl) rfl ?_
  intro X hl _ _ _ hX hT
  subst hl
  unfold p_C_feed at h
  refine q_iload_n hX d_C_feed_0 rfl ?_
  refine q_iconst hX d_C_feed_1 ic_1 ?_
  refine q_bipush hX d_C_feed_2 bp_8 ?_
  obtain ⟨u1, hc2, h⟩ := qbind h
  refine q_cSr hX (c_C_outside X.l G hX.ad f _ _ _ _ hc2) cw_C_122 rfl (Nat.le_of_ble_eq_true rfl) rfl (Nat.le_of_ble_eq_true rfl) d_C_feed_4 ?_
  refine q_if_eq hX d_C_feed_7 rfl h (fun _ h => ?_) (fun _ h => ?_)
  · refine q_aload_n hX d_C_feed_13 rfl ?_
    refine q_getR hX fl_C_26 kc_0 (rfl : qRF 0 2 = some 27) d_C_feed_14 ?_
    refine q_lload_n hX d_C_feed_17 rfl ?_
    refine q_iload_n hX d_C_feed_18 rfl ?_
    obtain ⟨u3, hc4, h⟩ := qbind h
    refine q_cVr hX (c_Deeds_take X.l G hX.ad f _ _ _ hc4) cw_C_159 rfl kc_27 rfl (Nat.le_of_ble_eq_true rfl) rfl (Nat.le_of_ble_eq_true rfl) d_C_feed_19 ?_
    exact q_iretW hX h hT d_C_feed_22
  · refine q_ldc hX w_383 d_C_feed_10 ?_
    exact q_iretW hX h hT d_C_feed_12
set_option maxHeartbeats 4000000 in
theorem c_Promises_size (l : Launch) (G : qG) (hA : qAd G) (f : Nat) (σ : qMem) {u : Int32} (h : p_Promises_size f σ  = some u) : qCt l y_Promises_size prog_10_method_2_code 1 (some .int) 1 G qKS qRF σ [(.ref 13)] (some (.int u)) qKS qRF σ 0 0 := by
  refine qCt.of (lv := [some (.ref 13)]) (by decide) hA (Nat.le_of_ble_eq_true rfl) rfl ?_
  intro X hl _ _ _ hX hT
  subst hl
  unfold p_Promises_size at h
  refine q_aload_n hX d_Promises_size_0 rfl ?_
  refine q_getI hX fl_Promises_16 kc_13 d_Promises_size_1 ?_
  exact q_iretR hX h hT d_Promises_size_4
set_option maxHeartbeats 4000000 in
theorem c_Deeds_letter (l : Launch) (G : qG) (hA : qAd G) (f : Nat) (σ : qMem) (x1 : Int32) {u : Int32} (h : p_Deeds_letter f σ x1 = some u) : qCt l y_Deeds_letter prog_4_method_9_code 2 (some .boolean) 1 G qKS qRF σ [(.ref 27), (.int x1)] (some (.int u)) qKS qRF σ 0 0 := by
  refine qCt.of (lv := [some (.ref 27), some (.int x1)]) (by decide) hA (Nat.le_of_ble_eq_true rfl) rfl ?_
  intro X hl _ _ _ hX hT
  subst hl
  unfold p_Deeds_letter at h
  refine q_aload_n hX d_Deeds_letter_0 rfl ?_
  refine q_getR hX fl_Deeds_11 kc_27 (rfl : qRF 27 0 = some 28) d_Deeds_letter_1 ?_
  refine q_iload_n hX d_Deeds_letter_4 rfl ?_
  refine q_bald hX kc_28 d_Deeds_letter_5 h (fun hi1 h => ?_)
  refine q_bipush hX d_Deeds_letter_6 bp_97 ?_
  refine q_icmp_lt hX d_Deeds_letter_8 rfl h (fun _ h => ?_) (fun _ h => ?_)
  · refine q_iconst hX d_Deeds_letter_26 ic_0 ?_
    exact q_zretR hX zn_0 h hT d_Deeds_letter_27
  · refine q_aload_n hX d_Deeds_letter_11 rfl ?_
    refine q_getR hX fl_Deeds_11 kc_27 (rfl : qRF 27 0 = some 28) d_Deeds_letter_12 ?_
    refine q_iload_n hX d_Deeds_letter_15 rfl ?_
    refine q_bald hX kc_28 d_Deeds_letter_16 h (fun hi2 h => ?_)
    refine q_bipush hX d_Deeds_letter_17 bp_122 ?_
    refine q_icmp_gt hX d_Deeds_letter_19 rfl h (fun _ h => ?_) (fun _ h => ?_)
    · refine q_iconst hX d_Deeds_letter_26 ic_0 ?_
      exact q_zretR hX zn_0 h hT d_Deeds_letter_27
    · refine q_iconst hX d_Deeds_letter_22 ic_1 ?_
      refine q_goto hX d_Deeds_letter_23 rfl ?_
      exact q_zretR hX zn_1 h hT d_Deeds_letter_27
set_option maxHeartbeats 4000000 in
theorem c_Deeds_figure (l : Launch) (G : qG) (hA : qAd G) (f : Nat) (σ : qMem) (x1 : Int32) {u : Int32} (h : p_Deeds_figure f σ x1 = some u) : qCt l y_Deeds_figure prog_4_method_10_code 2 (some .boolean) 1 G qKS qRF σ [(.ref 27), (.int x1)] (some (.int u)) qKS qRF σ 0 0 := by
  refine qCt.of (lv := [some (.ref 27), some (.int x1)]) (by decide) hA (Nat.le_of_ble_eq_true rfl) rfl ?_
  intro X hl _ _ _ hX hT
  subst hl
  unfold p_Deeds_figure at h
  refine q_aload_n hX d_Deeds_figure_0 rfl ?_
  refine q_getR hX fl_Deeds_11 kc_27 (rfl : qRF 27 0 = some 28) d_Deeds_figure_1 ?_
  refine q_iload_n hX d_Deeds_figure_4 rfl ?_
  refine q_bald hX kc_28 d_Deeds_figure_5 h (fun hi1 h => ?_)
  refine q_bipush hX d_Deeds_figure_6 bp_48 ?_
  refine q_icmp_lt hX d_Deeds_figure_8 rfl h (fun _ h => ?_) (fun _ h => ?_)
  · refine q_iconst hX d_Deeds_figure_26 ic_0 ?_
    exact q_zretR hX zn_0 h hT d_Deeds_figure_27
  · refine q_aload_n hX d_Deeds_figure_11 rfl ?_
    refine q_getR hX fl_Deeds_11 kc_27 (rfl : qRF 27 0 = some 28) d_Deeds_figure_12 ?_
    refine q_iload_n hX d_Deeds_figure_15 rfl ?_
    refine q_bald hX kc_28 d_Deeds_figure_16 h (fun hi2 h => ?_)
    refine q_bipush hX d_Deeds_figure_17 bp_57 ?_
    refine q_icmp_gt hX d_Deeds_figure_19 rfl h (fun _ h => ?_) (fun _ h => ?_)
    · refine q_iconst hX d_Deeds_figure_26 ic_0 ?_
      exact q_zretR hX zn_0 h hT d_Deeds_figure_27
    · refine q_iconst hX d_Deeds_figure_22 ic_1 ?_
      refine q_goto hX d_Deeds_figure_23 rfl ?_
      exact q_zretR hX zn_1 h hT d_Deeds_figure_27
set_option maxHeartbeats 4000000 in
theorem t_Deeds_nextToken_lb75 {G : qG} {X : qX} (hX : qOk G X "ChantryRolls$Deeds" prog_4_method_8_code 2 none 2) {u : qMem} {f : Nat} {σ : qMem} (hT : qTg G X 0 0 qKS qRF u none) {k75 : Int32 → Option (qMem)} (hk75 : ∀ (x1 : Int32), k75 x1 = some u → qV G X 0 0 qKS qRF σ 75 [some (.ref 27), some (.int x1)] []) {x1 : Int32} (h : p_Deeds_nextToken_l75 f  σ  k75 x1 = some u) : qV G X 0 0 qKS qRF σ 75 [some (.ref 27), some (.int x1)] [] := by
  unfold p_Deeds_nextToken_l75 at h
  refine q_iload_n hX d_Deeds_nextToken_75 rfl ?_
  refine q_aload_n hX d_Deeds_nextToken_76 rfl ?_
  refine q_getI hX fl_Deeds_15 kc_27 d_Deeds_nextToken_77 ?_
  refine q_icmp_ge hX d_Deeds_nextToken_80 rfl h (fun _ h => ?_) (fun _ h => ?_)
  · refine q_aload_n hX d_Deeds_nextToken_172 rfl ?_
    refine q_iload_n hX d_Deeds_nextToken_173 rfl ?_
    refine q_putI hX fl_Deeds_28 kc_27 rfl qKS_len d_Deeds_nextToken_174 ?_
    exact q_vretW hX h hT d_Deeds_nextToken_177
  · refine q_aload_n hX d_Deeds_nextToken_83 rfl ?_
    refine q_iload_n hX d_Deeds_nextToken_84 rfl ?_
    obtain ⟨u1, hc2, h⟩ := qbind h
    refine q_cVr hX (c_Deeds_letter X.l G hX.ad f _ _ hc2) cw_Deeds_87 rfl kc_27 rfl (Nat.le_of_ble_eq_true rfl) rfl (Nat.le_of_ble_eq_true rfl) d_Deeds_nextToken_85 ?_
    refine q_if_eq hX d_Deeds_nextToken_88 rfl h (fun _ h => ?_) (fun _ h => ?_)
    · refine q_aload_n hX d_Deeds_nextToken_172 rfl ?_
      refine q_iload_n hX d_Deeds_nextToken_173 rfl ?_
      refine q_putI hX fl_Deeds_28 kc_27 rfl qKS_len d_Deeds_nextToken_174 ?_
      exact q_vretW hX h hT d_Deeds_nextToken_177
    · refine q_iinc hX d_Deeds_nextToken_91 rfl (ii_1 _) (by decide) rfl rfl ?_
      refine q_goto hX d_Deeds_nextToken_94 rfl ?_
      exact q_mask [true, true] rfl (hk75 _ h)
theorem t_Deeds_nextToken_l75 {G : qG} {X : qX} (hX : qOk G X "ChantryRolls$Deeds" prog_4_method_8_code 2 none 2) {u : qMem} {f : Nat} {σ : qMem} (hT : qTg G X 0 0 qKS qRF u none) : ∀ (n : Nat) (x1 : Int32), qfix1 (p_Deeds_nextToken_l75 f  σ ) n x1 = some u → qV G X 0 0 qKS qRF σ 75 [some (.ref 27), some (.int x1)] [] :=
  qfix1_ind (fun k hk _ h => t_Deeds_nextToken_lb75 hX   hT  hk h)
set_option maxHeartbeats 4000000 in
theorem t_Deeds_nextToken_b127 {G : qG} {X : qX} (hX : qOk G X "ChantryRolls$Deeds" prog_4_method_8_code 2 none 2) {u : qMem} {f : Nat} {σ : qMem} {x1 : Int32} (hT : qTg G X 0 0 qKS qRF u none) (h : p_Deeds_nextToken_b127 f    σ x1 = some u) : qV G X 0 0 qKS qRF σ 127 [some (.ref 27), some (.int x1)] [] := by
  unfold p_Deeds_nextToken_b127 at h
  refine q_aload_n hX d_Deeds_nextToken_127 rfl ?_
  refine q_iload_n hX d_Deeds_nextToken_128 rfl ?_
  refine q_aload_n hX d_Deeds_nextToken_129 rfl ?_
  refine q_getI hX fl_Deeds_25 kc_27 d_Deeds_nextToken_130 ?_
  refine q_isub hX d_Deeds_nextToken_133 ?_
  refine q_iconst hX d_Deeds_nextToken_134 ic_5 ?_
  refine q_icmp_gt hX d_Deeds_nextToken_135 rfl h (fun _ h => ?_) (fun _ h => ?_)
  · refine q_iconst hX d_Deeds_nextToken_142 ic_4 ?_
    refine q_putI hX fl_Deeds_22 kc_27 rfl qKS_len d_Deeds_nextToken_143 ?_
    refine q_goto hX d_Deeds_nextToken_146 rfl ?_
    refine q_aload_n hX d_Deeds_nextToken_172 rfl ?_
    refine q_iload_n hX d_Deeds_nextToken_173 rfl ?_
    refine q_putI hX fl_Deeds_28 kc_27 rfl qKS_len d_Deeds_nextToken_174 ?_
    exact q_vretW hX h hT d_Deeds_nextToken_177
  · refine q_iconst hX d_Deeds_nextToken_138 ic_2 ?_
    refine q_goto hX d_Deeds_nextToken_139 rfl ?_
    refine q_putI hX fl_Deeds_22 kc_27 rfl qKS_len d_Deeds_nextToken_143 ?_
    refine q_goto hX d_Deeds_nextToken_146 rfl ?_
    refine q_aload_n hX d_Deeds_nextToken_172 rfl ?_
    refine q_iload_n hX d_Deeds_nextToken_173 rfl ?_
    refine q_putI hX fl_Deeds_28 kc_27 rfl qKS_len d_Deeds_nextToken_174 ?_
    exact q_vretW hX h hT d_Deeds_nextToken_177
set_option maxHeartbeats 4000000 in
theorem t_Deeds_nextToken_lb105 {G : qG} {X : qX} (hX : qOk G X "ChantryRolls$Deeds" prog_4_method_8_code 2 none 2) {u : qMem} {f : Nat} {σ : qMem} (hT : qTg G X 0 0 qKS qRF u none) {k105 : Int32 → Option (qMem)} (hk105 : ∀ (x1 : Int32), k105 x1 = some u → qV G X 0 0 qKS qRF σ 105 [some (.ref 27), some (.int x1)] []) {x1 : Int32} (h : p_Deeds_nextToken_l105 f  σ  k105 x1 = some u) : qV G X 0 0 qKS qRF σ 105 [some (.ref 27), some (.int x1)] [] := by
  unfold p_Deeds_nextToken_l105 at h
  refine q_iload_n hX d_Deeds_nextToken_105 rfl ?_
  refine q_aload_n hX d_Deeds_nextToken_106 rfl ?_
  refine q_getI hX fl_Deeds_15 kc_27 d_Deeds_nextToken_107 ?_
  refine q_icmp_ge hX d_Deeds_nextToken_110 rfl h (fun _ h => ?_) (fun _ h => ?_)
  · exact q_mask [true, true] rfl (t_Deeds_nextToken_b127 hX hT h)
  · refine q_aload_n hX d_Deeds_nextToken_113 rfl ?_
    refine q_iload_n hX d_Deeds_nextToken_114 rfl ?_
    obtain ⟨u3, hc4, h⟩ := qbind h
    refine q_cVr hX (c_Deeds_figure X.l G hX.ad f _ _ hc4) cw_Deeds_91 rfl kc_27 rfl (Nat.le_of_ble_eq_true rfl) rfl (Nat.le_of_ble_eq_true rfl) d_Deeds_nextToken_115 ?_
    refine q_if_eq hX d_Deeds_nextToken_118 rfl h (fun _ h => ?_) (fun _ h => ?_)
    · exact q_mask [true, true] rfl (t_Deeds_nextToken_b127 hX hT h)
    · refine q_iinc hX d_Deeds_nextToken_121 rfl (ii_1 _) (by decide) rfl rfl ?_
      refine q_goto hX d_Deeds_nextToken_124 rfl ?_
      exact q_mask [true, true] rfl (hk105 _ h)
theorem t_Deeds_nextToken_l105 {G : qG} {X : qX} (hX : qOk G X "ChantryRolls$Deeds" prog_4_method_8_code 2 none 2) {u : qMem} {f : Nat} {σ : qMem} (hT : qTg G X 0 0 qKS qRF u none) : ∀ (n : Nat) (x1 : Int32), qfix1 (p_Deeds_nextToken_l105 f  σ ) n x1 = some u → qV G X 0 0 qKS qRF σ 105 [some (.ref 27), some (.int x1)] [] :=
  qfix1_ind (fun k hk _ h => t_Deeds_nextToken_lb105 hX   hT  hk h)
set_option maxHeartbeats 4000000 in
theorem t_Deeds_nextToken_b41 {G : qG} {X : qX} (hX : qOk G X "ChantryRolls$Deeds" prog_4_method_8_code 2 none 2) {u : qMem} {f : Nat} {σ : qMem} {x1 : Int32} (hT : qTg G X 0 0 qKS qRF u none) (h : p_Deeds_nextToken_b41 f    σ x1 = some u) : qV G X 0 0 qKS qRF σ 41 [some (.ref 27), some (.int x1)] [] := by
  unfold p_Deeds_nextToken_b41 at h
  refine q_aload_n hX d_Deeds_nextToken_41 rfl ?_
  refine q_iload_n hX d_Deeds_nextToken_42 rfl ?_
  refine q_putI hX fl_Deeds_25 kc_27 rfl qKS_len d_Deeds_nextToken_43 ?_
  refine q_iload_n hX d_Deeds_nextToken_46 rfl ?_
  refine q_aload_n hX d_Deeds_nextToken_47 rfl ?_
  refine q_getI hX fl_Deeds_15 kc_27 d_Deeds_nextToken_48 ?_
  refine q_icmp_lt hX d_Deeds_nextToken_51 rfl h (fun _ h => ?_) (fun _ h => ?_)
  · refine q_aload_n hX d_Deeds_nextToken_62 rfl ?_
    refine q_iload_n hX d_Deeds_nextToken_63 rfl ?_
    obtain ⟨u5, hc6, h⟩ := qbind h
    refine q_cVr hX (c_Deeds_letter X.l G hX.ad f _ _ hc6) cw_Deeds_87 rfl kc_27 rfl (Nat.le_of_ble_eq_true rfl) rfl (Nat.le_of_ble_eq_true rfl) d_Deeds_nextToken_64 ?_
    refine q_if_eq hX d_Deeds_nextToken_67 rfl h (fun _ h => ?_) (fun _ h => ?_)
    · refine q_aload_n hX d_Deeds_nextToken_97 rfl ?_
      refine q_iload_n hX d_Deeds_nextToken_98 rfl ?_
      obtain ⟨u7, hc8, h⟩ := qbind h
      refine q_cVr hX (c_Deeds_figure X.l G hX.ad f _ _ hc8) cw_Deeds_91 rfl kc_27 rfl (Nat.le_of_ble_eq_true rfl) rfl (Nat.le_of_ble_eq_true rfl) d_Deeds_nextToken_99 ?_
      refine q_if_eq hX d_Deeds_nextToken_102 rfl h (fun _ h => ?_) (fun _ h => ?_)
      · refine q_aload_n hX d_Deeds_nextToken_149 rfl ?_
        refine q_aload_n hX d_Deeds_nextToken_150 rfl ?_
        refine q_getR hX fl_Deeds_11 kc_27 (rfl : qRF 27 0 = some 28) d_Deeds_nextToken_151 ?_
        refine q_iload_n hX d_Deeds_nextToken_154 rfl ?_
        refine q_bald hX kc_28 d_Deeds_nextToken_155 h (fun hi9 h => ?_)
        refine q_bipush hX d_Deeds_nextToken_156 bp_59 ?_
        refine q_icmp_ne hX d_Deeds_nextToken_158 rfl h (fun _ h => ?_) (fun _ h => ?_)
        · refine q_iconst hX d_Deeds_nextToken_165 ic_4 ?_
          refine q_putI hX fl_Deeds_22 kc_27 rfl qKS_len d_Deeds_nextToken_166 ?_
          refine q_iinc hX d_Deeds_nextToken_169 rfl (ii_1 _) (by decide) rfl rfl ?_
          refine q_aload_n hX d_Deeds_nextToken_172 rfl ?_
          refine q_iload_n hX d_Deeds_nextToken_173 rfl ?_
          refine q_putI hX fl_Deeds_28 kc_27 rfl qKS_len d_Deeds_nextToken_174 ?_
          exact q_vretW hX h hT d_Deeds_nextToken_177
        · refine q_iconst hX d_Deeds_nextToken_161 ic_3 ?_
          refine q_goto hX d_Deeds_nextToken_162 rfl ?_
          refine q_putI hX fl_Deeds_22 kc_27 rfl qKS_len d_Deeds_nextToken_166 ?_
          refine q_iinc hX d_Deeds_nextToken_169 rfl (ii_1 _) (by decide) rfl rfl ?_
          refine q_aload_n hX d_Deeds_nextToken_172 rfl ?_
          refine q_iload_n hX d_Deeds_nextToken_173 rfl ?_
          refine q_putI hX fl_Deeds_28 kc_27 rfl qKS_len d_Deeds_nextToken_174 ?_
          exact q_vretW hX h hT d_Deeds_nextToken_177
      · exact q_mask [true, true] rfl (t_Deeds_nextToken_l105 hX hT f _ h)
    · refine q_aload_n hX d_Deeds_nextToken_70 rfl ?_
      refine q_iconst hX d_Deeds_nextToken_71 ic_1 ?_
      refine q_putI hX fl_Deeds_22 kc_27 rfl qKS_len d_Deeds_nextToken_72 ?_
      exact q_mask [true, true] rfl (t_Deeds_nextToken_l75 hX hT f _ h)
  · refine q_aload_n hX d_Deeds_nextToken_54 rfl ?_
    refine q_iconst hX d_Deeds_nextToken_55 ic_0 ?_
    refine q_putI hX fl_Deeds_22 kc_27 rfl qKS_len d_Deeds_nextToken_56 ?_
    refine q_goto hX d_Deeds_nextToken_59 rfl ?_
    refine q_aload_n hX d_Deeds_nextToken_172 rfl ?_
    refine q_iload_n hX d_Deeds_nextToken_173 rfl ?_
    refine q_putI hX fl_Deeds_28 kc_27 rfl qKS_len d_Deeds_nextToken_174 ?_
    exact q_vretW hX h hT d_Deeds_nextToken_177
set_option maxHeartbeats 4000000 in
theorem t_Deeds_nextToken_lb5 {G : qG} {X : qX} (hX : qOk G X "ChantryRolls$Deeds" prog_4_method_8_code 2 none 2) {u : qMem} {f : Nat} {σ : qMem} (hT : qTg G X 0 0 qKS qRF u none) {k5 : Int32 → Option (qMem)} (hk5 : ∀ (x1 : Int32), k5 x1 = some u → qV G X 0 0 qKS qRF σ 5 [some (.ref 27), some (.int x1)] []) {x1 : Int32} (h : p_Deeds_nextToken_l5 f  σ  k5 x1 = some u) : qV G X 0 0 qKS qRF σ 5 [some (.ref 27), some (.int x1)] [] := by
  unfold p_Deeds_nextToken_l5 at h
  refine q_iload_n hX d_Deeds_nextToken_5 rfl ?_
  refine q_aload_n hX d_Deeds_nextToken_6 rfl ?_
  refine q_getI hX fl_Deeds_15 kc_27 d_Deeds_nextToken_7 ?_
  refine q_icmp_ge hX d_Deeds_nextToken_10 rfl h (fun _ h => ?_) (fun _ h => ?_)
  · exact q_mask [true, true] rfl (t_Deeds_nextToken_b41 hX hT h)
  · refine q_aload_n hX d_Deeds_nextToken_13 rfl ?_
    refine q_getR hX fl_Deeds_11 kc_27 (rfl : qRF 27 0 = some 28) d_Deeds_nextToken_14 ?_
    refine q_iload_n hX d_Deeds_nextToken_17 rfl ?_
    refine q_bald hX kc_28 d_Deeds_nextToken_18 h (fun hi10 h => ?_)
    refine q_bipush hX d_Deeds_nextToken_19 bp_32 ?_
    refine q_icmp_eq hX d_Deeds_nextToken_21 rfl h (fun _ h => ?_) (fun _ h => ?_)
    · refine q_iinc hX d_Deeds_nextToken_35 rfl (ii_1 _) (by decide) rfl rfl ?_
      refine q_goto hX d_Deeds_nextToken_38 rfl ?_
      exact q_mask [true, true] rfl (hk5 _ h)
    · refine q_aload_n hX d_Deeds_nextToken_24 rfl ?_
      refine q_getR hX fl_Deeds_11 kc_27 (rfl : qRF 27 0 = some 28) d_Deeds_nextToken_25 ?_
      refine q_iload_n hX d_Deeds_nextToken_28 rfl ?_
      refine q_bald hX kc_28 d_Deeds_nextToken_29 h (fun hi11 h => ?_)
      refine q_bipush hX d_Deeds_nextToken_30 bp_10 ?_
      refine q_icmp_ne hX d_Deeds_nextToken_32 rfl h (fun _ h => ?_) (fun _ h => ?_)
      · exact q_mask [true, true] rfl (t_Deeds_nextToken_b41 hX hT h)
      · refine q_iinc hX d_Deeds_nextToken_35 rfl (ii_1 _) (by decide) rfl rfl ?_
        refine q_goto hX d_Deeds_nextToken_38 rfl ?_
        exact q_mask [true, true] rfl (hk5 _ h)
theorem t_Deeds_nextToken_l5 {G : qG} {X : qX} (hX : qOk G X "ChantryRolls$Deeds" prog_4_method_8_code 2 none 2) {u : qMem} {f : Nat} {σ : qMem} (hT : qTg G X 0 0 qKS qRF u none) : ∀ (n : Nat) (x1 : Int32), qfix1 (p_Deeds_nextToken_l5 f  σ ) n x1 = some u → qV G X 0 0 qKS qRF σ 5 [some (.ref 27), some (.int x1)] [] :=
  qfix1_ind (fun k hk _ h => t_Deeds_nextToken_lb5 hX   hT  hk h)
set_option maxHeartbeats 4000000 in
theorem c_Deeds_nextToken (l : Launch) (G : qG) (hA : qAd G) (f : Nat) (σ : qMem) {u : qMem} (h : p_Deeds_nextToken f σ  = some u) : qCt l y_Deeds_nextToken prog_4_method_8_code 2 none 2 G qKS qRF σ [(.ref 27)] none qKS qRF u 0 0 := by
  refine qCt.of (lv := [some (.ref 27), none]) (by decide) hA (Nat.le_of_ble_eq_true rfl) rfl ?_
  intro X hl _ _ _ hX hT
  subst hl
  unfold p_Deeds_nextToken at h
  refine q_aload_n hX d_Deeds_nextToken_0 rfl ?_
  refine q_getI hX fl_Deeds_28 kc_27 d_Deeds_nextToken_1 ?_
  refine q_istore_n hX d_Deeds_nextToken_4 (by decide) rfl rfl ?_
  exact q_mask [true, true] rfl (t_Deeds_nextToken_l5 hX hT f _ h)
set_option maxHeartbeats 4000000 in
theorem t_Deeds_spells_lb28 {G : qG} {X : qX} (hX : qOk G X "ChantryRolls$Deeds" prog_4_method_12_code 3 (some .boolean) 5) {u : Int32} {f : Nat} {σ : qMem} {x1 : Nat} (hT : qTg G X 0 0 qKS qRF σ (some (.int u))) {k28 : Int32 → Option (Int32)} (hk28 : ∀ (x2 : Int32), k28 x2 = some u → qV G X 0 0 qKS qRF σ 28 [some (.ref 27), some (.ref (1048576 + x1)), some (.int x2)] []) {x2 : Int32} (h : p_Deeds_spells_l28 f  σ x1  k28 x2 = some u) : qV G X 0 0 qKS qRF σ 28 [some (.ref 27), some (.ref (1048576 + x1)), some (.int x2)] [] := by
  unfold p_Deeds_spells_l28 at h
  refine q_iload_n hX d_Deeds_spells_28 rfl ?_
  refine q_aload_n hX d_Deeds_spells_29 rfl ?_
  obtain ⟨u1, hc2, h⟩ := qbind h
  refine q_cStr hX (c_St_length X.l G hX.ad f _ _ hc2) (lt_St_length hc2) cw_Deeds_94 rfl (Nat.le_of_ble_eq_true rfl) rfl (Nat.le_of_ble_eq_true rfl) d_Deeds_spells_30 ?_
  refine q_icmp_ge hX d_Deeds_spells_33 rfl h (fun _ h => ?_) (fun _ h => ?_)
  · refine q_iconst hX d_Deeds_spells_63 ic_1 ?_
    exact q_zretR hX zn_1 h hT d_Deeds_spells_64
  · refine q_aload_n hX d_Deeds_spells_36 rfl ?_
    refine q_getR hX fl_Deeds_11 kc_27 (rfl : qRF 27 0 = some 28) d_Deeds_spells_37 ?_
    refine q_aload_n hX d_Deeds_spells_40 rfl ?_
    refine q_getI hX fl_Deeds_25 kc_27 d_Deeds_spells_41 ?_
    refine q_iload_n hX d_Deeds_spells_44 rfl ?_
    refine q_iadd hX d_Deeds_spells_45 ?_
    refine q_bald hX kc_28 d_Deeds_spells_46 h (fun hi3 h => ?_)
    refine q_aload_n hX d_Deeds_spells_47 rfl ?_
    refine q_iload_n hX d_Deeds_spells_48 rfl ?_
    obtain ⟨u4, hc5, h⟩ := qbind h
    refine q_cStr hX (c_St_charAt X.l G hX.ad f _ _ _ hc5) (lt_St_charAt hc5) cw_Deeds_98 rfl (Nat.le_of_ble_eq_true rfl) rfl (Nat.le_of_ble_eq_true rfl) d_Deeds_spells_49 ?_
    refine q_icmp_eq hX d_Deeds_spells_52 rfl h (fun _ h => ?_) (fun _ h => ?_)
    · refine q_iinc hX d_Deeds_spells_57 rfl (ii_1 _) (by decide) rfl rfl ?_
      refine q_goto hX d_Deeds_spells_60 rfl ?_
      exact q_mask [true, true, true] rfl (hk28 _ h)
    · refine q_iconst hX d_Deeds_spells_55 ic_0 ?_
      exact q_zretR hX zn_0 h hT d_Deeds_spells_56
theorem t_Deeds_spells_l28 {G : qG} {X : qX} (hX : qOk G X "ChantryRolls$Deeds" prog_4_method_12_code 3 (some .boolean) 5) {u : Int32} {f : Nat} {σ : qMem} {x1 : Nat} (hT : qTg G X 0 0 qKS qRF σ (some (.int u))) : ∀ (n : Nat) (x2 : Int32), qfix1 (p_Deeds_spells_l28 f  σ x1 ) n x2 = some u → qV G X 0 0 qKS qRF σ 28 [some (.ref 27), some (.ref (1048576 + x1)), some (.int x2)] [] :=
  qfix1_ind (fun k hk _ h => t_Deeds_spells_lb28 hX   hT  hk h)
set_option maxHeartbeats 4000000 in
theorem c_Deeds_spells (l : Launch) (G : qG) (hA : qAd G) (f : Nat) (σ : qMem) (x1 : Nat) {u : Int32} (h : p_Deeds_spells f σ x1 = some u) : qCt l y_Deeds_spells prog_4_method_12_code 3 (some .boolean) 5 G qKS qRF σ [(.ref 27), (.ref (1048576 + x1))] (some (.int u)) qKS qRF σ 0 0 := by
  refine qCt.of (lv := [some (.ref 27), some (.ref (1048576 + x1)), none]) (by decide) hA (Nat.le_of_ble_eq_true rfl) rfl ?_
  intro X hl _ _ _ hX hT
  subst hl
  unfold p_Deeds_spells at h
  refine q_aload_n hX d_Deeds_spells_0 rfl ?_
  refine q_getI hX fl_Deeds_22 kc_27 d_Deeds_spells_1 ?_
  refine q_iconst hX d_Deeds_spells_4 ic_1 ?_
  refine q_icmp_ne hX d_Deeds_spells_5 rfl h (fun _ h => ?_) (fun _ h => ?_)
  · refine q_iconst hX d_Deeds_spells_24 ic_0 ?_
    exact q_zretR hX zn_0 h hT d_Deeds_spells_25
  · refine q_aload_n hX d_Deeds_spells_8 rfl ?_
    refine q_getI hX fl_Deeds_28 kc_27 d_Deeds_spells_9 ?_
    refine q_aload_n hX d_Deeds_spells_12 rfl ?_
    refine q_getI hX fl_Deeds_25 kc_27 d_Deeds_spells_13 ?_
    refine q_isub hX d_Deeds_spells_16 ?_
    refine q_aload_n hX d_Deeds_spells_17 rfl ?_
    obtain ⟨u6, hc7, h⟩ := qbind h
    refine q_cStr hX (c_St_length X.l G hX.ad f _ _ hc7) (lt_St_length hc7) cw_Deeds_94 rfl (Nat.le_of_ble_eq_true rfl) rfl (Nat.le_of_ble_eq_true rfl) d_Deeds_spells_18 ?_
    refine q_icmp_eq hX d_Deeds_spells_21 rfl h (fun _ h => ?_) (fun _ h => ?_)
    · refine q_iconst hX d_Deeds_spells_26 ic_0 ?_
      refine q_istore_n hX d_Deeds_spells_27 (by decide) rfl rfl ?_
      exact q_mask [true, true, true] rfl (t_Deeds_spells_l28 hX hT f _ h)
    · refine q_iconst hX d_Deeds_spells_24 ic_0 ?_
      exact q_zretR hX zn_0 h hT d_Deeds_spells_25
set_option maxHeartbeats 4000000 in
theorem c_Promises_begin (l : Launch) (G : qG) (hA : qAd G) (f : Nat) (σ : qMem) (x1 : Int32) (x2 : Int32) {u : qMem} (h : p_Promises_begin f σ x1 x2 = some u) : qCt l y_Promises_begin prog_10_method_7_code 3 none 2 G qKS qRF σ [(.ref 13), (.int x1), (.int x2)] none qKS qRF u 0 0 := by
  refine qCt.of (lv := [some (.ref 13), some (.int x1), some (.int x2)]) (by decide) hA (Nat.le_of_ble_eq_true rfl) rfl ?_
  intro X hl _ _ _ hX hT
  subst hl
  unfold p_Promises_begin at h
  refine q_aload_n hX d_Promises_begin_0 rfl ?_
  refine q_getR hX fl_Promises_11 kc_13 (rfl : qRF 13 0 = some 14) d_Promises_begin_1 ?_
  refine q_iload_n hX d_Promises_begin_4 rfl ?_
  refine q_aald hX kc_14 d_Promises_begin_5 h (fun _ => rfl) (fun hi1 h => ?_)
  refine q_iconst hX d_Promises_begin_6 ic_0 ?_
  obtain ⟨u2, hc3, h⟩ := qbind h
  refine q_cSv hX (c_Ar_fill X.l G hX.ad f _ _ _ _ (kr_14 hi1) hc3) cw_Promises_20 rfl (Nat.le_of_ble_eq_true rfl) rfl (Nat.le_of_ble_eq_true rfl) d_Promises_begin_7 ?_
  refine q_aload_n hX d_Promises_begin_10 rfl ?_
  refine q_getR hX fl_Promises_11 kc_13 (rfl : qRF 13 0 = some 14) d_Promises_begin_11 ?_
  refine q_iload_n hX d_Promises_begin_14 rfl ?_
  refine q_aald hX kc_14 d_Promises_begin_15 h (fun _ => rfl) (fun hi4 h => ?_)
  refine q_iconst hX d_Promises_begin_16 ic_0 ?_
  refine q_iload_n hX d_Promises_begin_17 rfl ?_
  refine q_if_eq hX d_Promises_begin_18 rfl h (fun _ h => ?_) (fun _ h => ?_)
  · refine q_iconst hX d_Promises_begin_25 ic_0 ?_
    refine q_iast hX (kr_14 hi4) qKS_len d_Promises_begin_26 h (fun hi5 h => ?_)
    refine q_aload_n hX d_Promises_begin_27 rfl ?_
    refine q_getR hX fl_Promises_11 kc_13 (rfl : qRF 13 0 = some 14) d_Promises_begin_28 ?_
    refine q_iload_n hX d_Promises_begin_31 rfl ?_
    refine q_aald hX kc_14 d_Promises_begin_32 h (fun _ => rfl) (fun hi6 h => ?_)
    refine q_iconst hX d_Promises_begin_33 ic_4 ?_
    refine q_iload_n hX d_Promises_begin_34 rfl ?_
    refine q_if_eq hX d_Promises_begin_35 rfl h (fun _ h => ?_) (fun _ h => ?_)
    · refine q_iconst hX d_Promises_begin_44 ic_1 ?_
      refine q_iast hX (kr_14 hi6) qKS_len d_Promises_begin_45 h (fun hi7 h => ?_)
      refine q_aload_n hX d_Promises_begin_46 rfl ?_
      refine q_getR hX fl_Promises_11 kc_13 (rfl : qRF 13 0 = some 14) d_Promises_begin_47 ?_
      refine q_iload_n hX d_Promises_begin_50 rfl ?_
      refine q_aald hX kc_14 d_Promises_begin_51 h (fun _ => rfl) (fun hi8 h => ?_)
      refine q_bipush hX d_Promises_begin_52 bp_6 ?_
      refine q_sipush hX d_Promises_begin_54 sp_9999 ?_
      refine q_iast hX (kr_14 hi8) qKS_len d_Promises_begin_57 h (fun hi9 h => ?_)
      exact q_vretW hX h hT d_Promises_begin_58
    · refine q_sipush hX d_Promises_begin_38 sp_360 ?_
      refine q_goto hX d_Promises_begin_41 rfl ?_
      refine q_iast hX (kr_14 hi6) qKS_len d_Promises_begin_45 h (fun hi10 h => ?_)
      refine q_aload_n hX d_Promises_begin_46 rfl ?_
      refine q_getR hX fl_Promises_11 kc_13 (rfl : qRF 13 0 = some 14) d_Promises_begin_47 ?_
      refine q_iload_n hX d_Promises_begin_50 rfl ?_
      refine q_aald hX kc_14 d_Promises_begin_51 h (fun _ => rfl) (fun hi11 h => ?_)
      refine q_bipush hX d_Promises_begin_52 bp_6 ?_
      refine q_sipush hX d_Promises_begin_54 sp_9999 ?_
      refine q_iast hX (kr_14 hi11) qKS_len d_Promises_begin_57 h (fun hi12 h => ?_)
      exact q_vretW hX h hT d_Promises_begin_58
  · refine q_iconst hX d_Promises_begin_21 ic_1 ?_
    refine q_goto hX d_Promises_begin_22 rfl ?_
    refine q_iast hX (kr_14 hi4) qKS_len d_Promises_begin_26 h (fun hi13 h => ?_)
    refine q_aload_n hX d_Promises_begin_27 rfl ?_
    refine q_getR hX fl_Promises_11 kc_13 (rfl : qRF 13 0 = some 14) d_Promises_begin_28 ?_
    refine q_iload_n hX d_Promises_begin_31 rfl ?_
    refine q_aald hX kc_14 d_Promises_begin_32 h (fun _ => rfl) (fun hi14 h => ?_)
    refine q_iconst hX d_Promises_begin_33 ic_4 ?_
    refine q_iload_n hX d_Promises_begin_34 rfl ?_
    refine q_if_eq hX d_Promises_begin_35 rfl h (fun _ h => ?_) (fun _ h => ?_)
    · refine q_iconst hX d_Promises_begin_44 ic_1 ?_
      refine q_iast hX (kr_14 hi14) qKS_len d_Promises_begin_45 h (fun hi15 h => ?_)
      refine q_aload_n hX d_Promises_begin_46 rfl ?_
      refine q_getR hX fl_Promises_11 kc_13 (rfl : qRF 13 0 = some 14) d_Promises_begin_47 ?_
      refine q_iload_n hX d_Promises_begin_50 rfl ?_
      refine q_aald hX kc_14 d_Promises_begin_51 h (fun _ => rfl) (fun hi16 h => ?_)
      refine q_bipush hX d_Promises_begin_52 bp_6 ?_
      refine q_sipush hX d_Promises_begin_54 sp_9999 ?_
      refine q_iast hX (kr_14 hi16) qKS_len d_Promises_begin_57 h (fun hi17 h => ?_)
      exact q_vretW hX h hT d_Promises_begin_58
    · refine q_sipush hX d_Promises_begin_38 sp_360 ?_
      refine q_goto hX d_Promises_begin_41 rfl ?_
      refine q_iast hX (kr_14 hi14) qKS_len d_Promises_begin_45 h (fun hi18 h => ?_)
      refine q_aload_n hX d_Promises_begin_46 rfl ?_
      refine q_getR hX fl_Promises_11 kc_13 (rfl : qRF 13 0 = some 14) d_Promises_begin_47 ?_
      refine q_iload_n hX d_Promises_begin_50 rfl ?_
      refine q_aald hX kc_14 d_Promises_begin_51 h (fun _ => rfl) (fun hi19 h => ?_)
      refine q_bipush hX d_Promises_begin_52 bp_6 ?_
      refine q_sipush hX d_Promises_begin_54 sp_9999 ?_
      refine q_iast hX (kr_14 hi19) qKS_len d_Promises_begin_57 h (fun hi20 h => ?_)
      exact q_vretW hX h hT d_Promises_begin_58
set_option maxHeartbeats 4000000 in
theorem c_Deeds_wordFor (l : Launch) (G : qG) (hA : qAd G) (f : Nat) (σ : qMem) (x0 : Int32) {u : Nat} (h : p_Deeds_wordFor f σ x0 = some u) : qCt l y_Deeds_wordFor prog_4_method_14_code 1 (some (.object "java/lang/String")) 1 G qKS qRF σ [(.int x0)] (some (.ref (1048576 + u))) qKS qRF σ 0 0 := by
  refine qCt.of (lv := [some (.int x0)]) (by decide) hA (Nat.le_of_ble_eq_true rfl) rfl ?_
  intro X hl _ _ _ hX hT
  subst hl
  unfold p_Deeds_wordFor at h
  refine q_iload_n hX d_Deeds_wordFor_0 rfl ?_
  by_cases hs1_1 : x0 = (1 : Int32)
  · have h := q_dec0 h hs1_1
    refine q_tabIn hX hs1_1 d_Deeds_wordFor_1 (by decide) (by decide) rfl rfl ?_
    refine q_ldcS hX (w := 2) (by decide) rfl d_Deeds_wordFor_52 ?_
    exact q_aretR hX h hT d_Deeds_wordFor_54
  have h := q_dec1 h hs1_1
  by_cases hs1_2 : x0 = (2 : Int32)
  · have h := q_dec0 h hs1_2
    refine q_tabIn hX hs1_2 d_Deeds_wordFor_1 (by decide) (by decide) rfl rfl ?_
    refine q_ldcS hX (w := 3) (by decide) rfl d_Deeds_wordFor_55 ?_
    exact q_aretR hX h hT d_Deeds_wordFor_57
  have h := q_dec1 h hs1_2
  by_cases hs1_3 : x0 = (3 : Int32)
  · have h := q_dec0 h hs1_3
    refine q_tabIn hX hs1_3 d_Deeds_wordFor_1 (by decide) (by decide) rfl rfl ?_
    refine q_ldcS hX (w := 4) (by decide) rfl d_Deeds_wordFor_58 ?_
    exact q_aretR hX h hT d_Deeds_wordFor_60
  have h := q_dec1 h hs1_3
  by_cases hs1_4 : x0 = (4 : Int32)
  · have h := q_dec0 h hs1_4
    refine q_tabIn hX hs1_4 d_Deeds_wordFor_1 (by decide) (by decide) rfl rfl ?_
    refine q_ldcS hX (w := 5) (by decide) rfl d_Deeds_wordFor_61 ?_
    exact q_aretR hX h hT d_Deeds_wordFor_63
  have h := q_dec1 h hs1_4
  by_cases hs1_5 : x0 = (5 : Int32)
  · have h := q_dec0 h hs1_5
    refine q_tabIn hX hs1_5 d_Deeds_wordFor_1 (by decide) (by decide) rfl rfl ?_
    refine q_ldcS hX (w := 6) (by decide) rfl d_Deeds_wordFor_64 ?_
    exact q_aretR hX h hT d_Deeds_wordFor_66
  have h := q_dec1 h hs1_5
  by_cases hs1_6 : x0 = (6 : Int32)
  · have h := q_dec0 h hs1_6
    refine q_tabIn hX hs1_6 d_Deeds_wordFor_1 (by decide) (by decide) rfl rfl ?_
    refine q_ldcS hX (w := 7) (by decide) rfl d_Deeds_wordFor_67 ?_
    exact q_aretR hX h hT d_Deeds_wordFor_69
  have h := q_dec1 h hs1_6
  by_cases hs1_7 : x0 = (7 : Int32)
  · have h := q_dec0 h hs1_7
    refine q_tabIn hX hs1_7 d_Deeds_wordFor_1 (by decide) (by decide) rfl rfl ?_
    refine q_ldcS hX (w := 8) (by decide) rfl d_Deeds_wordFor_70 ?_
    exact q_aretR hX h hT d_Deeds_wordFor_72
  have h := q_dec1 h hs1_7
  by_cases hs1_8 : x0 = (8 : Int32)
  · have h := q_dec0 h hs1_8
    refine q_tabIn hX hs1_8 d_Deeds_wordFor_1 (by decide) (by decide) rfl rfl ?_
    refine q_ldcS hX (w := 9) (by decide) rfl d_Deeds_wordFor_73 ?_
    exact q_aretR hX h hT d_Deeds_wordFor_75
  have h := q_dec1 h hs1_8
  by_cases hs1_9 : x0 = (9 : Int32)
  · have h := q_dec0 h hs1_9
    refine q_tabIn hX hs1_9 d_Deeds_wordFor_1 (by decide) (by decide) rfl rfl ?_
    refine q_ldcS hX (w := 10) (by decide) rfl d_Deeds_wordFor_76 ?_
    exact q_aretR hX h hT d_Deeds_wordFor_78
  have h := q_dec1 h hs1_9
  have hout : (x0).toInt < 1 ∨ 9 < (x0).toInt := by
    have e1 : (x0).toInt ≠ 1 := q_ne32 hs1_1
    have e2 : (x0).toInt ≠ 2 := q_ne32 hs1_2
    have e3 : (x0).toInt ≠ 3 := q_ne32 hs1_3
    have e4 : (x0).toInt ≠ 4 := q_ne32 hs1_4
    have e5 : (x0).toInt ≠ 5 := q_ne32 hs1_5
    have e6 : (x0).toInt ≠ 6 := q_ne32 hs1_6
    have e7 : (x0).toInt ≠ 7 := q_ne32 hs1_7
    have e8 : (x0).toInt ≠ 8 := q_ne32 hs1_8
    have e9 : (x0).toInt ≠ 9 := q_ne32 hs1_9
    omega
  refine q_tabOut hX hout d_Deeds_wordFor_1 rfl ?_
  refine q_ldcS hX (w := 11) (by decide) rfl d_Deeds_wordFor_79 ?_
  exact q_aretR hX h hT d_Deeds_wordFor_81
set_option maxHeartbeats 4000000 in
theorem t_Deeds_termSpelt_lb2 {G : qG} {X : qX} (hX : qOk G X "ChantryRolls$Deeds" prog_4_method_13_code 2 (some .int) 6) {u : Int32} {f : Nat} {σ : qMem} (hT : qTg G X 0 0 qKS qRF σ (some (.int u))) {k2 : Int32 → Option (Int32)} (hk2 : ∀ (x1 : Int32), k2 x1 = some u → qV G X 0 0 qKS qRF σ 2 [some (.ref 27), some (.int x1)] []) {x1 : Int32} (h : p_Deeds_termSpelt_l2 f  σ  k2 x1 = some u) : qV G X 0 0 qKS qRF σ 2 [some (.ref 27), some (.int x1)] [] := by
  unfold p_Deeds_termSpelt_l2 at h
  refine q_iload_n hX d_Deeds_termSpelt_2 rfl ?_
  refine q_bipush hX d_Deeds_termSpelt_3 bp_11 ?_
  refine q_icmp_ge hX d_Deeds_termSpelt_5 rfl h (fun _ h => ?_) (fun _ h => ?_)
  · refine q_ldc hX w_556 d_Deeds_termSpelt_27 ?_
    exact q_iretR hX h hT d_Deeds_termSpelt_29
  · refine q_aload_n hX d_Deeds_termSpelt_8 rfl ?_
    refine q_iload_n hX d_Deeds_termSpelt_9 rfl ?_
    obtain ⟨u1, hc2, h⟩ := qbind h
    refine q_cSr hX (c_Deeds_wordFor X.l G hX.ad f _ _ hc2) cw_Deeds_102 rfl (Nat.le_of_ble_eq_true rfl) rfl (Nat.le_of_ble_eq_true rfl) d_Deeds_termSpelt_10 ?_
    obtain ⟨u3, hc4, h⟩ := qbind h
    refine q_cVr hX (c_Deeds_spells X.l G hX.ad f _ _ hc4) cw_Deeds_52 rfl kc_27 rfl (Nat.le_of_ble_eq_true rfl) rfl (Nat.le_of_ble_eq_true rfl) d_Deeds_termSpelt_13 ?_
    refine q_if_eq hX d_Deeds_termSpelt_16 rfl h (fun _ h => ?_) (fun _ h => ?_)
    · refine q_iinc hX d_Deeds_termSpelt_21 rfl (ii_1 _) (by decide) rfl rfl ?_
      refine q_goto hX d_Deeds_termSpelt_24 rfl ?_
      exact q_mask [true, true] rfl (hk2 _ h)
    · refine q_iload_n hX d_Deeds_termSpelt_19 rfl ?_
      exact q_iretR hX h hT d_Deeds_termSpelt_20
theorem t_Deeds_termSpelt_l2 {G : qG} {X : qX} (hX : qOk G X "ChantryRolls$Deeds" prog_4_method_13_code 2 (some .int) 6) {u : Int32} {f : Nat} {σ : qMem} (hT : qTg G X 0 0 qKS qRF σ (some (.int u))) : ∀ (n : Nat) (x1 : Int32), qfix1 (p_Deeds_termSpelt_l2 f  σ ) n x1 = some u → qV G X 0 0 qKS qRF σ 2 [some (.ref 27), some (.int x1)] [] :=
  qfix1_ind (fun k hk _ h => t_Deeds_termSpelt_lb2 hX   hT  hk h)
set_option maxHeartbeats 4000000 in
theorem c_Deeds_termSpelt (l : Launch) (G : qG) (hA : qAd G) (f : Nat) (σ : qMem) {u : Int32} (h : p_Deeds_termSpelt f σ  = some u) : qCt l y_Deeds_termSpelt prog_4_method_13_code 2 (some .int) 6 G qKS qRF σ [(.ref 27)] (some (.int u)) qKS qRF σ 0 0 := by
  refine qCt.of (lv := [some (.ref 27), none]) (by decide) hA (Nat.le_of_ble_eq_true rfl) rfl ?_
  intro X hl _ _ _ hX hT
  subst hl
  unfold p_Deeds_termSpelt at h
  refine q_iconst hX d_Deeds_termSpelt_0 ic_1 ?_
  refine q_istore_n hX d_Deeds_termSpelt_1 (by decide) rfl rfl ?_
  exact q_mask [true, true] rfl (t_Deeds_termSpelt_l2 hX hT f _ h)
set_option maxHeartbeats 4000000 in
theorem t_Deeds_numberRead_lb7 {G : qG} {X : qX} (hX : qOk G X "ChantryRolls$Deeds" prog_4_method_11_code 3 (some .int) 1) {u : Int32} {f : Nat} {σ : qMem} (hT : qTg G X 0 0 qKS qRF σ (some (.int u))) {k7 : Int32 → Int32 → Option (Int32)} (hk7 : ∀ (x1 : Int32) (x2 : Int32), k7 x1 x2 = some u → qV G X 0 0 qKS qRF σ 7 [some (.ref 27), some (.int x1), some (.int x2)] []) {x1 : Int32} {x2 : Int32} (h : p_Deeds_numberRead_l7 f  σ  k7 x1 x2 = some u) : qV G X 0 0 qKS qRF σ 7 [some (.ref 27), some (.int x1), some (.int x2)] [] := by
  unfold p_Deeds_numberRead_l7 at h
  refine q_iload_n hX d_Deeds_numberRead_7 rfl ?_
  refine q_aload_n hX d_Deeds_numberRead_8 rfl ?_
  refine q_getI hX fl_Deeds_28 kc_27 d_Deeds_numberRead_9 ?_
  refine q_icmp_ge hX d_Deeds_numberRead_12 rfl h (fun _ h => ?_) (fun _ h => ?_)
  · refine q_iload_n hX d_Deeds_numberRead_36 rfl ?_
    exact q_iretR hX h hT d_Deeds_numberRead_37
  · refine q_bipush hX d_Deeds_numberRead_15 bp_10 ?_
    refine q_iload_n hX d_Deeds_numberRead_17 rfl ?_
    refine q_imul hX d_Deeds_numberRead_18 ?_
    refine q_aload_n hX d_Deeds_numberRead_19 rfl ?_
    refine q_getR hX fl_Deeds_11 kc_27 (rfl : qRF 27 0 = some 28) d_Deeds_numberRead_20 ?_
    refine q_iload_n hX d_Deeds_numberRead_23 rfl ?_
    refine q_bald hX kc_28 d_Deeds_numberRead_24 h (fun hi1 h => ?_)
    refine q_iadd hX d_Deeds_numberRead_25 ?_
    refine q_bipush hX d_Deeds_numberRead_26 bp_48 ?_
    refine q_isub hX d_Deeds_numberRead_28 ?_
    refine q_istore_n hX d_Deeds_numberRead_29 (by decide) rfl rfl ?_
    refine q_iinc hX d_Deeds_numberRead_30 rfl (ii_1 _) (by decide) rfl rfl ?_
    refine q_goto hX d_Deeds_numberRead_33 rfl ?_
    exact q_mask [true, true, true] rfl (hk7 _ _ h)
theorem t_Deeds_numberRead_l7 {G : qG} {X : qX} (hX : qOk G X "ChantryRolls$Deeds" prog_4_method_11_code 3 (some .int) 1) {u : Int32} {f : Nat} {σ : qMem} (hT : qTg G X 0 0 qKS qRF σ (some (.int u))) : ∀ (n : Nat) (x1 : Int32) (x2 : Int32), qfix2 (p_Deeds_numberRead_l7 f  σ ) n x1 x2 = some u → qV G X 0 0 qKS qRF σ 7 [some (.ref 27), some (.int x1), some (.int x2)] [] :=
  qfix2_ind (fun k hk _ _ h => t_Deeds_numberRead_lb7 hX   hT  hk h)
set_option maxHeartbeats 4000000 in
theorem c_Deeds_numberRead (l : Launch) (G : qG) (hA : qAd G) (f : Nat) (σ : qMem) {u : Int32} (h : p_Deeds_numberRead f σ  = some u) : qCt l y_Deeds_numberRead prog_4_method_11_code 3 (some .int) 1 G qKS qRF σ [(.ref 27)] (some (.int u)) qKS qRF σ 0 0 := by
  refine qCt.of (lv := [some (.ref 27), none, none]) (by decide) hA (Nat.le_of_ble_eq_true rfl) rfl ?_
  intro X hl _ _ _ hX hT
  subst hl
  unfold p_Deeds_numberRead at h
  refine q_iconst hX d_Deeds_numberRead_0 ic_0 ?_
  refine q_istore_n hX d_Deeds_numberRead_1 (by decide) rfl rfl ?_
  refine q_aload_n hX d_Deeds_numberRead_2 rfl ?_
  refine q_getI hX fl_Deeds_25 kc_27 d_Deeds_numberRead_3 ?_
  refine q_istore_n hX d_Deeds_numberRead_6 (by decide) rfl rfl ?_
  exact q_mask [true, true, true] rfl (t_Deeds_numberRead_l7 hX hT f _ _ h)
set_option maxHeartbeats 4000000 in
theorem c_Promises_tell (l : Launch) (G : qG) (hA : qAd G) (f : Nat) (σ : qMem) (x1 : Int32) (x2 : Int32) (x3 : Int32) {u : qMem} (h : p_Promises_tell f σ x1 x2 x3 = some u) : qCt l y_Promises_tell prog_10_method_8_code 4 none 1 G qKS qRF σ [(.ref 13), (.int x1), (.int x2), (.int x3)] none qKS qRF u 0 0 := by
  refine qCt.of (lv := [some (.ref 13), some (.int x1), some (.int x2), some (.int x3)]) (by decide) hA (Nat.le_of_ble_eq_true rfl) rfl ?_
  intro X hl _ _ _ hX hT
  subst hl
  unfold p_Promises_tell at h
  refine q_aload_n hX d_Promises_tell_0 rfl ?_
  refine q_getR hX fl_Promises_11 kc_13 (rfl : qRF 13 0 = some 14) d_Promises_tell_1 ?_
  refine q_iload_n hX d_Promises_tell_4 rfl ?_
  refine q_aald hX kc_14 d_Promises_tell_5 h (fun _ => rfl) (fun hi1 h => ?_)
  refine q_iload_n hX d_Promises_tell_6 rfl ?_
  refine q_iload_n hX d_Promises_tell_7 rfl ?_
  refine q_iast hX (kr_14 hi1) qKS_len d_Promises_tell_8 h (fun hi2 h => ?_)
  exact q_vretW hX h hT d_Promises_tell_9
set_option maxHeartbeats 4000000 in
theorem c_Deeds_readTerm (l : Launch) (G : qG) (hA : qAd G) (f : Nat) (σ : qMem) (x2 : Int32) {u : Int32 × qMem} (h : p_Deeds_readTerm f σ x2 = some u) : qCt l y_Deeds_readTerm prog_4_method_7_code 5 (some .int) 7 G qKS qRF σ [(.ref 27), (.ref 13), (.int x2)] (some (.int u.1)) qKS qRF u.2 0 0 := by
  refine qCt.of (lv := [some (.ref 27), some (.ref 13), some (.int x2), none, none]) (by decide) hA (Nat.le_of_ble_eq_true rfl) rfl ?_
  intro X hl _ _ _ hX hT
  subst hl
  unfold p_Deeds_readTerm at h
  refine q_aload_n hX d_Deeds_readTerm_0 rfl ?_
  obtain ⟨u1, hc2, h⟩ := qbind h
  refine q_cVr hX (c_Deeds_termSpelt X.l G hX.ad f _  hc2) cw_Deeds_65 rfl kc_27 rfl (Nat.le_of_ble_eq_true rfl) rfl (Nat.le_of_ble_eq_true rfl) d_Deeds_readTerm_1 ?_
  refine q_istore_n hX d_Deeds_readTerm_4 (by decide) rfl rfl ?_
  refine q_iload_n hX d_Deeds_readTerm_5 rfl ?_
  refine q_ldc hX w_556 d_Deeds_readTerm_6 ?_
  refine q_icmp_ne hX d_Deeds_readTerm_8 rfl h (fun _ h => ?_) (fun _ h => ?_)
  · refine q_aload_n hX d_Deeds_readTerm_13 rfl ?_
    obtain ⟨u3, hc4, h⟩ := qbind h
    refine q_cVv hX (c_Deeds_nextToken X.l G hX.ad f _  hc4) cw_Deeds_38 rfl kc_27 rfl (Nat.le_of_ble_eq_true rfl) rfl (Nat.le_of_ble_eq_true rfl) d_Deeds_readTerm_14 ?_
    refine q_aload_n hX d_Deeds_readTerm_17 rfl ?_
    refine q_getI hX fl_Deeds_22 kc_27 d_Deeds_readTerm_18 ?_
    refine q_iconst hX d_Deeds_readTerm_21 ic_2 ?_
    refine q_icmp_eq hX d_Deeds_readTerm_22 rfl h (fun _ h => ?_) (fun _ h => ?_)
    · refine q_aload_n hX d_Deeds_readTerm_27 rfl ?_
      obtain ⟨u5, hc6, h⟩ := qbind h
      refine q_cVr hX (c_Deeds_numberRead X.l G hX.ad f _  hc6) cw_Deeds_69 rfl kc_27 rfl (Nat.le_of_ble_eq_true rfl) rfl (Nat.le_of_ble_eq_true rfl) d_Deeds_readTerm_28 ?_
      refine q_istore hX d_Deeds_readTerm_31 (by decide) rfl rfl ?_
      refine q_iload hX d_Deeds_readTerm_33 rfl ?_
      refine q_getsL hX w_561 d_Deeds_readTerm_35 ?_
      refine q_iload_n hX d_Deeds_readTerm_38 rfl ?_
      refine q_taldL hX d_Deeds_readTerm_39 h (fun hi7 h => ?_)
      refine q_getsM hX w_563 d_Deeds_readTerm_40 ?_
      refine q_iload_n hX d_Deeds_readTerm_43 rfl ?_
      refine q_taldM hX d_Deeds_readTerm_44 h (fun hi8 h => ?_)
      obtain ⟨u9, hc10, h⟩ := qbind h
      refine q_cSNr hX (c_C_outside X.l G hX.ad f _ _ _ _ hc10) cw_Deeds_79 rfl (Nat.le_of_ble_eq_true rfl) rfl (Nat.le_of_ble_eq_true rfl) d_Deeds_readTerm_45 ?_
      refine q_if_eq hX d_Deeds_readTerm_48 rfl h (fun _ h => ?_) (fun _ h => ?_)
      · refine q_aload_n hX d_Deeds_readTerm_53 rfl ?_
        refine q_iload_n hX d_Deeds_readTerm_54 rfl ?_
        refine q_iload_n hX d_Deeds_readTerm_55 rfl ?_
        refine q_iload hX d_Deeds_readTerm_56 rfl ?_
        obtain ⟨u11, hc12, h⟩ := qbind h
        refine q_cVv hX (c_Promises_tell X.l G hX.ad f _ _ _ _ hc12) cw_Deeds_83 rfl kc_13 rfl (Nat.le_of_ble_eq_true rfl) rfl (Nat.le_of_ble_eq_true rfl) d_Deeds_readTerm_58 ?_
        refine q_aload_n hX d_Deeds_readTerm_61 rfl ?_
        obtain ⟨u13, hc14, h⟩ := qbind h
        refine q_cVv hX (c_Deeds_nextToken X.l G hX.ad f _  hc14) cw_Deeds_38 rfl kc_27 rfl (Nat.le_of_ble_eq_true rfl) rfl (Nat.le_of_ble_eq_true rfl) d_Deeds_readTerm_62 ?_
        refine q_iconst hX d_Deeds_readTerm_65 ic_0 ?_
        exact q_iretW hX h hT d_Deeds_readTerm_66
      · refine q_iconst hX d_Deeds_readTerm_51 ic_2 ?_
        exact q_iretW hX h hT d_Deeds_readTerm_52
    · refine q_iconst hX d_Deeds_readTerm_25 ic_1 ?_
      exact q_iretW hX h hT d_Deeds_readTerm_26
  · refine q_iconst hX d_Deeds_readTerm_11 ic_1 ?_
    exact q_iretW hX h hT d_Deeds_readTerm_12
set_option maxHeartbeats 4000000 in
theorem t_Deeds_readDeed_b86 {G : qG} {X : qX} (hX : qOk G X "ChantryRolls$Deeds" prog_4_method_6_code 6 (some .int) 8) {u : Int32 × qMem} {f : Nat} {σ : qMem} {x4 : Int32} (hT : qTg G X 0 0 qKS qRF u.2 (some (.int u.1))) (h : p_Deeds_readDeed_b86 f    σ x4 = some u) : qV G X 0 0 qKS qRF σ 86 [some (.ref 27), none, none, none, some (.int x4), none] [] := by
  unfold p_Deeds_readDeed_b86 at h
  refine q_iload hX d_Deeds_readDeed_86 rfl ?_
  refine q_if_ne hX d_Deeds_readDeed_88 rfl h (fun _ h => ?_) (fun _ h => ?_)
  · refine q_iload hX d_Deeds_readDeed_95 rfl ?_
    exact q_iretW hX h hT d_Deeds_readDeed_97
  · refine q_aload_n hX d_Deeds_readDeed_91 rfl ?_
    obtain ⟨u1, hc2, h⟩ := qbind h
    refine q_cVv hX (c_Deeds_nextToken X.l G hX.ad f _  hc2) cw_Deeds_38 rfl kc_27 rfl (Nat.le_of_ble_eq_true rfl) rfl (Nat.le_of_ble_eq_true rfl) d_Deeds_readDeed_92 ?_
    refine q_iload hX d_Deeds_readDeed_95 rfl ?_
    exact q_iretW hX h hT d_Deeds_readDeed_97
set_option maxHeartbeats 4000000 in
theorem t_Deeds_readDeed_lb51 {G : qG} {X : qX} (hX : qOk G X "ChantryRolls$Deeds" prog_4_method_6_code 6 (some .int) 8) {u : Int32 × qMem} {f : Nat} {x2 : Int32} (hT : qTg G X 0 0 qKS qRF u.2 (some (.int u.1))) {k51 : qMem → Int32 → Int32 → Option (Int32 × qMem)} (hk51 : ∀ (σ : qMem) (x4 : Int32) (x5 : Int32), k51 σ x4 x5 = some u → qV G X 0 0 qKS qRF σ 51 [some (.ref 27), some (.ref 13), some (.int x2), none, some (.int x4), some (.int x5)] []) {σ : qMem} {x4 : Int32} {x5 : Int32} (h : p_Deeds_readDeed_l51 f  x2  k51 σ x4 x5 = some u) : qV G X 0 0 qKS qRF σ 51 [some (.ref 27), some (.ref 13), some (.int x2), none, some (.int x4), some (.int x5)] [] := by
  unfold p_Deeds_readDeed_l51 at h
  refine q_iload hX d_Deeds_readDeed_51 rfl ?_
  refine q_sipush hX d_Deeds_readDeed_53 sp_500 ?_
  refine q_icmp_gt hX d_Deeds_readDeed_56 rfl h (fun _ h => ?_) (fun _ h => ?_)
  · exact q_mask [true, false, false, false, true, false] rfl (t_Deeds_readDeed_b86 hX hT h)
  · refine q_iload hX d_Deeds_readDeed_59 rfl ?_
    refine q_if_ne hX d_Deeds_readDeed_61 rfl h (fun _ h => ?_) (fun _ h => ?_)
    · exact q_mask [true, false, false, false, true, false] rfl (t_Deeds_readDeed_b86 hX hT h)
    · refine q_aload_n hX d_Deeds_readDeed_64 rfl ?_
      refine q_getI hX fl_Deeds_22 kc_27 d_Deeds_readDeed_65 ?_
      refine q_iconst hX d_Deeds_readDeed_68 ic_3 ?_
      refine q_icmp_eq hX d_Deeds_readDeed_69 rfl h (fun _ h => ?_) (fun _ h => ?_)
      · exact q_mask [true, false, false, false, true, false] rfl (t_Deeds_readDeed_b86 hX hT h)
      · refine q_aload_n hX d_Deeds_readDeed_72 rfl ?_
        refine q_aload_n hX d_Deeds_readDeed_73 rfl ?_
        refine q_iload_n hX d_Deeds_readDeed_74 rfl ?_
        obtain ⟨u3, hc4, h⟩ := qbind h
        refine q_cVr hX (c_Deeds_readTerm X.l G hX.ad f _ _ hc4) cw_Deeds_62 rfl kc_27 rfl (Nat.le_of_ble_eq_true rfl) rfl (Nat.le_of_ble_eq_true rfl) d_Deeds_readDeed_75 ?_
        refine q_istore hX d_Deeds_readDeed_78 (by decide) rfl rfl ?_
        refine q_iinc hX d_Deeds_readDeed_80 rfl (ii_1 _) (by decide) rfl rfl ?_
        refine q_goto hX d_Deeds_readDeed_83 rfl ?_
        exact q_mask [true, true, true, false, true, true] rfl (hk51 _ _ _ h)
theorem t_Deeds_readDeed_l51 {G : qG} {X : qX} (hX : qOk G X "ChantryRolls$Deeds" prog_4_method_6_code 6 (some .int) 8) {u : Int32 × qMem} {f : Nat} {x2 : Int32} (hT : qTg G X 0 0 qKS qRF u.2 (some (.int u.1))) : ∀ (n : Nat) (σ : qMem) (x4 : Int32) (x5 : Int32), qfix3 (p_Deeds_readDeed_l51 f  x2 ) n σ x4 x5 = some u → qV G X 0 0 qKS qRF σ 51 [some (.ref 27), some (.ref 13), some (.int x2), none, some (.int x4), some (.int x5)] [] :=
  qfix3_ind (fun k hk _ _ _ h => t_Deeds_readDeed_lb51 hX   hT  hk h)
set_option maxHeartbeats 4000000 in
theorem t_Deeds_readDeed_b22 {G : qG} {X : qX} (hX : qOk G X "ChantryRolls$Deeds" prog_4_method_6_code 6 (some .int) 8) {u : Int32 × qMem} {f : Nat} {σ : qMem} {x2 : Int32} {x3 : Int32} (hT : qTg G X 0 0 qKS qRF u.2 (some (.int u.1))) (h : p_Deeds_readDeed_b22 f    σ x2 x3 = some u) : qV G X 0 0 qKS qRF σ 22 [some (.ref 27), some (.ref 13), some (.int x2), some (.int x3), none, none] [] := by
  unfold p_Deeds_readDeed_b22 at h
  refine q_iload_n hX d_Deeds_readDeed_22 rfl ?_
  refine q_bipush hX d_Deeds_readDeed_23 bp_12 ?_
  refine q_icmp_lt hX d_Deeds_readDeed_25 rfl h (fun _ h => ?_) (fun _ h => ?_)
  · refine q_aload_n hX d_Deeds_readDeed_30 rfl ?_
    refine q_iload_n hX d_Deeds_readDeed_31 rfl ?_
    refine q_iload_n hX d_Deeds_readDeed_32 rfl ?_
    obtain ⟨u5, hc6, h⟩ := qbind h
    refine q_cVv hX (c_Promises_begin X.l G hX.ad f _ _ _ hc6) cw_Deeds_58 rfl kc_13 rfl (Nat.le_of_ble_eq_true rfl) rfl (Nat.le_of_ble_eq_true rfl) d_Deeds_readDeed_33 ?_
    refine q_aload_n hX d_Deeds_readDeed_36 rfl ?_
    obtain ⟨u7, hc8, h⟩ := qbind h
    refine q_cVv hX (c_Deeds_nextToken X.l G hX.ad f _  hc8) cw_Deeds_38 rfl kc_27 rfl (Nat.le_of_ble_eq_true rfl) rfl (Nat.le_of_ble_eq_true rfl) d_Deeds_readDeed_37 ?_
    refine q_aload_n hX d_Deeds_readDeed_40 rfl ?_
    refine q_aload_n hX d_Deeds_readDeed_41 rfl ?_
    refine q_iload_n hX d_Deeds_readDeed_42 rfl ?_
    obtain ⟨u9, hc10, h⟩ := qbind h
    refine q_cVr hX (c_Deeds_readTerm X.l G hX.ad f _ _ hc10) cw_Deeds_62 rfl kc_27 rfl (Nat.le_of_ble_eq_true rfl) rfl (Nat.le_of_ble_eq_true rfl) d_Deeds_readDeed_43 ?_
    refine q_istore hX d_Deeds_readDeed_46 (by decide) rfl rfl ?_
    refine q_iconst hX d_Deeds_readDeed_48 ic_1 ?_
    refine q_istore hX d_Deeds_readDeed_49 (by decide) rfl rfl ?_
    exact q_mask [true, true, true, false, true, true] rfl (t_Deeds_readDeed_l51 hX hT f _ _ _ h)
  · refine q_iconst hX d_Deeds_readDeed_28 ic_3 ?_
    exact q_iretW hX h hT d_Deeds_readDeed_29
set_option maxHeartbeats 4000000 in
theorem c_Deeds_readDeed (l : Launch) (G : qG) (hA : qAd G) (f : Nat) (σ : qMem) (x2 : Int32) {u : Int32 × qMem} (h : p_Deeds_readDeed f σ x2 = some u) : qCt l y_Deeds_readDeed prog_4_method_6_code 6 (some .int) 8 G qKS qRF σ [(.ref 27), (.ref 13), (.int x2)] (some (.int u.1)) qKS qRF u.2 0 0 := by
  refine qCt.of (lv := [some (.ref 27), some (.ref 13), some (.int x2), none, none, none]) (by decide) hA (Nat.le_of_ble_eq_true rfl) rfl ?_
  intro X hl _ _ _ hX hT
  subst hl
  unfold p_Deeds_readDeed at h
  refine q_aload_n hX d_Deeds_readDeed_0 rfl ?_
  refine q_ldcS hX (w := 0) (by decide) rfl d_Deeds_readDeed_1 ?_
  obtain ⟨u11, hc12, h⟩ := qbind h
  refine q_cVr hX (c_Deeds_spells X.l G hX.ad f _ _ hc12) cw_Deeds_52 rfl kc_27 rfl (Nat.le_of_ble_eq_true rfl) rfl (Nat.le_of_ble_eq_true rfl) d_Deeds_readDeed_3 ?_
  refine q_istore_n hX d_Deeds_readDeed_6 (by decide) rfl rfl ?_
  refine q_iload_n hX d_Deeds_readDeed_7 rfl ?_
  refine q_if_ne hX d_Deeds_readDeed_8 rfl h (fun _ h => ?_) (fun _ h => ?_)
  · exact q_mask [true, true, true, true, false, false] rfl (t_Deeds_readDeed_b22 hX hT h)
  · refine q_aload_n hX d_Deeds_readDeed_11 rfl ?_
    refine q_ldcS hX (w := 1) (by decide) rfl d_Deeds_readDeed_12 ?_
    obtain ⟨u13, hc14, h⟩ := qbind h
    refine q_cVr hX (c_Deeds_spells X.l G hX.ad f _ _ hc14) cw_Deeds_52 rfl kc_27 rfl (Nat.le_of_ble_eq_true rfl) rfl (Nat.le_of_ble_eq_true rfl) d_Deeds_readDeed_14 ?_
    refine q_if_ne hX d_Deeds_readDeed_17 rfl h (fun _ h => ?_) (fun _ h => ?_)
    · exact q_mask [true, true, true, true, false, false] rfl (t_Deeds_readDeed_b22 hX hT h)
    · refine q_iconst hX d_Deeds_readDeed_20 ic_1 ?_
      exact q_iretW hX h hT d_Deeds_readDeed_21
set_option maxHeartbeats 4000000 in
theorem c_Promises_keep (l : Launch) (G : qG) (hA : qAd G) (f : Nat) (σ : qMem) (x1 : Int32) {u : qMem} (h : p_Promises_keep f σ x1 = some u) : qCt l y_Promises_keep prog_10_method_9_code 2 none 1 G qKS qRF σ [(.ref 13), (.int x1)] none qKS qRF u 0 0 := by
  refine qCt.of (lv := [some (.ref 13), some (.int x1)]) (by decide) hA (Nat.le_of_ble_eq_true rfl) rfl ?_
  intro X hl _ _ _ hX hT
  subst hl
  unfold p_Promises_keep at h
  refine q_aload_n hX d_Promises_keep_0 rfl ?_
  refine q_iload_n hX d_Promises_keep_1 rfl ?_
  refine q_bipush hX d_Promises_keep_2 bp_12 ?_
  refine q_mmin hX w_575 (by decide) (Nat.le_of_ble_eq_true rfl) d_Promises_keep_4 ?_
  refine q_putI hX fl_Promises_16 kc_13 rfl qKS_len d_Promises_keep_7 ?_
  exact q_vretW hX h hT d_Promises_keep_10
set_option maxHeartbeats 4000000 in
theorem t_Deeds_read_b54 {G : qG} {X : qX} (hX : qOk G X "ChantryRolls$Deeds" prog_4_method_5_code 5 (some .int) 9) {u : Int32 × qMem} {f : Nat} {σ : qMem} {x2 : Int32} {x3 : Int32} (hT : qTg G X 0 0 qKS qRF u.2 (some (.int u.1))) (h : p_Deeds_read_b54 f    σ x2 x3 = some u) : qV G X 0 0 qKS qRF σ 54 [some (.ref 27), some (.ref 13), some (.int x2), some (.int x3), none] [] := by
  unfold p_Deeds_read_b54 at h
  refine q_aload_n hX d_Deeds_read_54 rfl ?_
  refine q_iconst hX d_Deeds_read_55 ic_0 ?_
  refine q_putI hX fl_Deeds_15 kc_27 rfl qKS_len d_Deeds_read_56 ?_
  refine q_iload_n hX d_Deeds_read_59 rfl ?_
  refine q_if_eq hX d_Deeds_read_60 rfl h (fun _ h => ?_) (fun _ h => ?_)
  · refine q_aload_n hX d_Deeds_read_76 rfl ?_
    refine q_iload_n hX d_Deeds_read_77 rfl ?_
    obtain ⟨u1, hc2, h⟩ := qbind h
    refine q_cVv hX (c_Promises_keep X.l G hX.ad f _ _ hc2) cw_Deeds_46 rfl kc_13 rfl (Nat.le_of_ble_eq_true rfl) rfl (Nat.le_of_ble_eq_true rfl) d_Deeds_read_78 ?_
    refine q_iload_n hX d_Deeds_read_81 rfl ?_
    exact q_iretW hX h hT d_Deeds_read_82
  · refine q_aload_n hX d_Deeds_read_63 rfl ?_
    refine q_iload_n hX d_Deeds_read_64 rfl ?_
    refine q_putI hX fl_Deeds_19 kc_27 rfl qKS_len d_Deeds_read_65 ?_
    refine q_ldc hX w_570 d_Deeds_read_68 ?_
    refine q_aload_n hX d_Deeds_read_70 rfl ?_
    refine q_getI hX fl_Deeds_25 kc_27 d_Deeds_read_71 ?_
    refine q_isub hX d_Deeds_read_74 ?_
    exact q_iretW hX h hT d_Deeds_read_75
set_option maxHeartbeats 4000000 in
theorem t_Deeds_read_lb19 {G : qG} {X : qX} (hX : qOk G X "ChantryRolls$Deeds" prog_4_method_5_code 5 (some .int) 9) {u : Int32 × qMem} {f : Nat} (hT : qTg G X 0 0 qKS qRF u.2 (some (.int u.1))) {k19 : qMem → Int32 → Int32 → Int32 → Option (Int32 × qMem)} (hk19 : ∀ (σ : qMem) (x2 : Int32) (x3 : Int32) (x4 : Int32), k19 σ x2 x3 x4 = some u → qV G X 0 0 qKS qRF σ 19 [some (.ref 27), some (.ref 13), some (.int x2), some (.int x3), some (.int x4)] []) {σ : qMem} {x2 : Int32} {x3 : Int32} {x4 : Int32} (h : p_Deeds_read_l19 f    k19 σ x2 x3 x4 = some u) : qV G X 0 0 qKS qRF σ 19 [some (.ref 27), some (.ref 13), some (.int x2), some (.int x3), some (.int x4)] [] := by
  unfold p_Deeds_read_l19 at h
  refine q_iload hX d_Deeds_read_19 rfl ?_
  refine q_sipush hX d_Deeds_read_21 sp_500 ?_
  refine q_icmp_gt hX d_Deeds_read_24 rfl h (fun _ h => ?_) (fun _ h => ?_)
  · exact q_mask [true, true, true, true, false] rfl (t_Deeds_read_b54 hX hT h)
  · refine q_iload_n hX d_Deeds_read_27 rfl ?_
    refine q_if_ne hX d_Deeds_read_28 rfl h (fun _ h => ?_) (fun _ h => ?_)
    · exact q_mask [true, true, true, true, false] rfl (t_Deeds_read_b54 hX hT h)
    · refine q_aload_n hX d_Deeds_read_31 rfl ?_
      refine q_getI hX fl_Deeds_22 kc_27 d_Deeds_read_32 ?_
      refine q_if_eq hX d_Deeds_read_35 rfl h (fun _ h => ?_) (fun _ h => ?_)
      · exact q_mask [true, true, true, true, false] rfl (t_Deeds_read_b54 hX hT h)
      · refine q_aload_n hX d_Deeds_read_38 rfl ?_
        refine q_aload_n hX d_Deeds_read_39 rfl ?_
        refine q_iload_n hX d_Deeds_read_40 rfl ?_
        obtain ⟨u3, hc4, h⟩ := qbind h
        refine q_cVr hX (c_Deeds_readDeed X.l G hX.ad f _ _ hc4) cw_Deeds_41 rfl kc_27 rfl (Nat.le_of_ble_eq_true rfl) rfl (Nat.le_of_ble_eq_true rfl) d_Deeds_read_41 ?_
        refine q_istore_n hX d_Deeds_read_44 (by decide) rfl rfl ?_
        refine q_iinc hX d_Deeds_read_45 rfl (ii_1 _) (by decide) rfl rfl ?_
        refine q_iinc hX d_Deeds_read_48 rfl (ii_1 _) (by decide) rfl rfl ?_
        refine q_goto hX d_Deeds_read_51 rfl ?_
        exact q_mask [true, true, true, true, true] rfl (hk19 _ _ _ _ h)
theorem t_Deeds_read_l19 {G : qG} {X : qX} (hX : qOk G X "ChantryRolls$Deeds" prog_4_method_5_code 5 (some .int) 9) {u : Int32 × qMem} {f : Nat} (hT : qTg G X 0 0 qKS qRF u.2 (some (.int u.1))) : ∀ (n : Nat) (σ : qMem) (x2 : Int32) (x3 : Int32) (x4 : Int32), qfix4 (p_Deeds_read_l19 f   ) n σ x2 x3 x4 = some u → qV G X 0 0 qKS qRF σ 19 [some (.ref 27), some (.ref 13), some (.int x2), some (.int x3), some (.int x4)] [] :=
  qfix4_ind (fun k hk _ _ _ _ h => t_Deeds_read_lb19 hX   hT  hk h)
set_option maxHeartbeats 4000000 in
theorem c_Deeds_read (l : Launch) (G : qG) (hA : qAd G) (f : Nat) (σ : qMem) {u : Int32 × qMem} (h : p_Deeds_read f σ  = some u) : qCt l y_Deeds_read prog_4_method_5_code 5 (some .int) 9 G qKS qRF σ [(.ref 27), (.ref 13)] (some (.int u.1)) qKS qRF u.2 0 0 := by
  refine qCt.of (lv := [some (.ref 27), some (.ref 13), none, none, none]) (by decide) hA (Nat.le_of_ble_eq_true rfl) rfl ?_
  intro X hl _ _ _ hX hT
  subst hl
  unfold p_Deeds_read at h
  refine q_aload_n hX d_Deeds_read_0 rfl ?_
  obtain ⟨u5, hc6, h⟩ := qbind h
  refine q_cVr hX (c_Promises_size X.l G hX.ad f _  hc6) cw_Deeds_32 rfl kc_13 rfl (Nat.le_of_ble_eq_true rfl) rfl (Nat.le_of_ble_eq_true rfl) d_Deeds_read_1 ?_
  refine q_istore_n hX d_Deeds_read_4 (by decide) rfl rfl ?_
  refine q_iconst hX d_Deeds_read_5 ic_0 ?_
  refine q_istore_n hX d_Deeds_read_6 (by decide) rfl rfl ?_
  refine q_aload_n hX d_Deeds_read_7 rfl ?_
  refine q_iconst hX d_Deeds_read_8 ic_0 ?_
  refine q_putI hX fl_Deeds_28 kc_27 rfl qKS_len d_Deeds_read_9 ?_
  refine q_aload_n hX d_Deeds_read_12 rfl ?_
  obtain ⟨u7, hc8, h⟩ := qbind h
  refine q_cVv hX (c_Deeds_nextToken X.l G hX.ad f _  hc8) cw_Deeds_38 rfl kc_27 rfl (Nat.le_of_ble_eq_true rfl) rfl (Nat.le_of_ble_eq_true rfl) d_Deeds_read_13 ?_
  refine q_iconst hX d_Deeds_read_16 ic_0 ?_
  refine q_istore hX d_Deeds_read_17 (by decide) rfl rfl ?_
  exact q_mask [true, true, true, true, true] rfl (t_Deeds_read_l19 hX hT f _ _ _ _ h)
set_option maxHeartbeats 4000000 in
theorem c_C_deeds (l : Launch) (G : qG) (hA : qAd G) (f : Nat) (σ : qMem) {u : Int32 × qMem} (h : p_C_deeds f σ  = some u) : qCt l y_C_deeds prog_1_method_7_code 1 (some .int) 10 G qKS qRF σ [(.ref 0)] (some (.int u.1)) qKS qRF u.2 0 0 := by
  refine qCt.of (lv := [some (.ref 0)]) (by decide) hA (Nat.le_of_ble_eq_true rfl) rfl ?_
  intro X hl _ _ _ hX hT
  subst hl
  unfold p_C_deeds at h
  refine q_aload_n hX d_C_deeds_0 rfl ?_
  refine q_getR hX fl_C_26 kc_0 (rfl : qRF 0 2 = some 27) d_C_deeds_1 ?_
  refine q_aload_n hX d_C_deeds_4 rfl ?_
  refine q_getR hX fl_C_19 kc_0 (rfl : qRF 0 1 = some 13) d_C_deeds_5 ?_
  obtain ⟨u1, hc2, h⟩ := qbind h
  refine q_cVr hX (c_Deeds_read X.l G hX.ad f _  hc2) cw_C_163 rfl kc_27 rfl (Nat.le_of_ble_eq_true rfl) rfl (Nat.le_of_ble_eq_true rfl) d_C_deeds_8 ?_
  exact q_iretW hX h hT d_C_deeds_11
set_option maxHeartbeats 4000000 in
theorem c_Deeds_latestFault (l : Launch) (G : qG) (hA : qAd G) (f : Nat) (σ : qMem) {u : Int32} (h : p_Deeds_latestFault f σ  = some u) : qCt l y_Deeds_latestFault prog_4_method_3_code 1 (some .int) 1 G qKS qRF σ [(.ref 27)] (some (.int u)) qKS qRF σ 0 0 := by
  refine qCt.of (lv := [some (.ref 27)]) (by decide) hA (Nat.le_of_ble_eq_true rfl) rfl ?_
  intro X hl _ _ _ hX hT
  subst hl
  unfold p_Deeds_latestFault at h
  refine q_aload_n hX d_Deeds_latestFault_0 rfl ?_
  refine q_getI hX fl_Deeds_19 kc_27 d_Deeds_latestFault_1 ?_
  exact q_iretR hX h hT d_Deeds_latestFault_4
set_option maxHeartbeats 4000000 in
theorem c_C_fault (l : Launch) (G : qG) (hA : qAd G) (f : Nat) (σ : qMem) {u : Int32} (h : p_C_fault f σ  = some u) : qCt l y_C_fault prog_1_method_8_code 1 (some .int) 2 G qKS qRF σ [(.ref 0)] (some (.int u)) qKS qRF σ 0 0 := by
  refine qCt.of (lv := [some (.ref 0)]) (by decide) hA (Nat.le_of_ble_eq_true rfl) rfl ?_
  intro X hl _ _ _ hX hT
  subst hl
  unfold p_C_fault at h
  refine q_aload_n hX d_C_fault_0 rfl ?_
  refine q_getR hX fl_C_26 kc_0 (rfl : qRF 0 2 = some 27) d_C_fault_1 ?_
  obtain ⟨u1, hc2, h⟩ := qbind h
  refine q_cVr hX (c_Deeds_latestFault X.l G hX.ad f _  hc2) cw_C_167 rfl kc_27 rfl (Nat.le_of_ble_eq_true rfl) rfl (Nat.le_of_ble_eq_true rfl) d_C_fault_4 ?_
  exact q_iretR hX h hT d_C_fault_7
set_option maxHeartbeats 4000000 in
theorem c_Promises_has (l : Launch) (G : qG) (hA : qAd G) (f : Nat) (σ : qMem) (x1 : Int32) {u : Int32} (h : p_Promises_has f σ x1 = some u) : qCt l y_Promises_has prog_10_method_3_code 2 (some .boolean) 1 G qKS qRF σ [(.ref 13), (.int x1)] (some (.int u)) qKS qRF σ 0 0 := by
  refine qCt.of (lv := [some (.ref 13), some (.int x1)]) (by decide) hA (Nat.le_of_ble_eq_true rfl) rfl ?_
  intro X hl _ _ _ hX hT
  subst hl
  unfold p_Promises_has at h
  refine q_iload_n hX d_Promises_has_0 rfl ?_
  refine q_if_lt hX d_Promises_has_1 rfl h (fun _ h => ?_) (fun _ h => ?_)
  · refine q_iconst hX d_Promises_has_16 ic_0 ?_
    exact q_zretR hX zn_0 h hT d_Promises_has_17
  · refine q_iload_n hX d_Promises_has_4 rfl ?_
    refine q_aload_n hX d_Promises_has_5 rfl ?_
    refine q_getI hX fl_Promises_16 kc_13 d_Promises_has_6 ?_
    refine q_icmp_ge hX d_Promises_has_9 rfl h (fun _ h => ?_) (fun _ h => ?_)
    · refine q_iconst hX d_Promises_has_16 ic_0 ?_
      exact q_zretR hX zn_0 h hT d_Promises_has_17
    · refine q_iconst hX d_Promises_has_12 ic_1 ?_
      refine q_goto hX d_Promises_has_13 rfl ?_
      exact q_zretR hX zn_1 h hT d_Promises_has_17
set_option maxHeartbeats 4000000 in
theorem c_Promises_of (l : Launch) (G : qG) (hA : qAd G) (f : Nat) (σ : qMem) (x1 : Int32) (x2 : Int32) {u : Int32} (h : p_Promises_of f σ x1 x2 = some u) : qCt l y_Promises_of prog_10_method_5_code 3 (some .int) 1 G qKS qRF σ [(.ref 13), (.int x1), (.int x2)] (some (.int u)) qKS qRF σ 0 0 := by
  refine qCt.of (lv := [some (.ref 13), some (.int x1), some (.int x2)]) (by decide) hA (Nat.le_of_ble_eq_true rfl) rfl ?_
  intro X hl _ _ _ hX hT
  subst hl
  unfold p_Promises_of at h
  refine q_aload_n hX d_Promises_of_0 rfl ?_
  refine q_getR hX fl_Promises_11 kc_13 (rfl : qRF 13 0 = some 14) d_Promises_of_1 ?_
  refine q_iload_n hX d_Promises_of_4 rfl ?_
  refine q_aald hX kc_14 d_Promises_of_5 h (fun _ => rfl) (fun hi1 h => ?_)
  refine q_iload_n hX d_Promises_of_6 rfl ?_
  refine q_iald hX (kr_14 hi1) d_Promises_of_7 h (fun hi2 h => ?_)
  exact q_iretR hX h hT d_Promises_of_8
set_option maxHeartbeats 4000000 in
theorem c_C_told (l : Launch) (G : qG) (hA : qAd G) (f : Nat) (σ : qMem) (x1 : Int32) (x2 : Int32) {u : Int32} (h : p_C_told f σ x1 x2 = some u) : qCt l y_C_told prog_1_method_9_code 3 (some .int) 2 G qKS qRF σ [(.ref 0), (.int x1), (.int x2)] (some (.int u)) qKS qRF σ 0 0 := by
  refine qCt.of (lv := [some (.ref 0), some (.int x1), some (.int x2)]) (by decide) hA (Nat.le_of_ble_eq_true rfl) rfl ?_
  intro X hl _ _ _ hX hT
  subst hl
  unfold p_C_told at h
  refine q_aload_n hX d_C_told_0 rfl ?_
  refine q_getR hX fl_C_19 kc_0 (rfl : qRF 0 1 = some 13) d_C_told_1 ?_
  refine q_iload_n hX d_C_told_4 rfl ?_
  obtain ⟨u1, hc2, h⟩ := qbind h
  refine q_cVr hX (c_Promises_has X.l G hX.ad f _ _ hc2) cw_C_171 rfl kc_13 rfl (Nat.le_of_ble_eq_true rfl) rfl (Nat.le_of_ble_eq_true rfl) d_C_told_5 ?_
  refine q_if_eq hX d_C_told_8 rfl h (fun _ h => ?_) (fun _ h => ?_)
  · refine q_ldc hX w_383 d_C_told_21 ?_
    exact q_iretR hX h hT d_C_told_23
  · refine q_iload_n hX d_C_told_11 rfl ?_
    refine q_iconst hX d_C_told_12 ic_0 ?_
    refine q_bipush hX d_C_told_13 bp_10 ?_
    obtain ⟨u3, hc4, h⟩ := qbind h
    refine q_cSr hX (c_C_outside X.l G hX.ad f _ _ _ _ hc4) cw_C_122 rfl (Nat.le_of_ble_eq_true rfl) rfl (Nat.le_of_ble_eq_true rfl) d_C_told_15 ?_
    refine q_if_eq hX d_C_told_18 rfl h (fun _ h => ?_) (fun _ h => ?_)
    · refine q_aload_n hX d_C_told_24 rfl ?_
      refine q_getR hX fl_C_19 kc_0 (rfl : qRF 0 1 = some 13) d_C_told_25 ?_
      refine q_iload_n hX d_C_told_28 rfl ?_
      refine q_iload_n hX d_C_told_29 rfl ?_
      obtain ⟨u5, hc6, h⟩ := qbind h
      refine q_cVr hX (c_Promises_of X.l G hX.ad f _ _ _ hc6) cw_C_174 rfl kc_13 rfl (Nat.le_of_ble_eq_true rfl) rfl (Nat.le_of_ble_eq_true rfl) d_C_told_30 ?_
      exact q_iretR hX h hT d_C_told_33
    · refine q_ldc hX w_383 d_C_told_21 ?_
      exact q_iretR hX h hT d_C_told_23
set_option maxHeartbeats 4000000 in
theorem c_C_noDay (l : Launch) (G : qG) (hA : qAd G) (f : Nat) (σ : qMem) (x0 : Int32) {u : Int32} (h : p_C_noDay f σ x0 = some u) : qCt l y_C_noDay prog_1_method_43_code 1 (some .boolean) 2 G qKS qRF σ [(.int x0)] (some (.int u)) qKS qRF σ 0 0 := by
  refine qCt.of (lv := [some (.int x0)]) (by decide) hA (Nat.le_of_ble_eq_true rfl) rfl ?_
  intro X hl _ _ _ hX hT
  subst hl
  unfold p_C_noDay at h
  refine q_iload_n hX d_C_noDay_0 rfl ?_
  refine q_iconst hX d_C_noDay_1 ic_0 ?_
  refine q_sipush hX d_C_noDay_2 sp_9999 ?_
  obtain ⟨u1, hc2, h⟩ := qbind h
  refine q_cSr hX (c_C_outside X.l G hX.ad f _ _ _ _ hc2) cw_C_122 rfl (Nat.le_of_ble_eq_true rfl) rfl (Nat.le_of_ble_eq_true rfl) d_C_noDay_5 ?_
  exact q_zretR hX rfl h hT d_C_noDay_8
set_option maxHeartbeats 4000000 in
theorem c_Feasts_full (l : Launch) (G : qG) (hA : qAd G) (f : Nat) (σ : qMem) {u : Int32} (h : p_Feasts_full f σ  = some u) : qCt l y_Feasts_full prog_5_method_3_code 1 (some .boolean) 1 G qKS qRF σ [(.ref 29)] (some (.int u)) qKS qRF σ 0 0 := by
  refine qCt.of (lv := [some (.ref 29)]) (by decide) hA (Nat.le_of_ble_eq_true rfl) rfl ?_
  intro X hl _ _ _ hX hT
  subst hl
  unfold p_Feasts_full at h
  refine q_aload_n hX d_Feasts_full_0 rfl ?_
  refine q_getI hX fl_Feasts_20 kc_29 d_Feasts_full_1 ?_
  refine q_bipush hX d_Feasts_full_4 bp_30 ?_
  refine q_icmp_lt hX d_Feasts_full_6 rfl h (fun _ h => ?_) (fun _ h => ?_)
  · refine q_iconst hX d_Feasts_full_13 ic_0 ?_
    exact q_zretR hX zn_0 h hT d_Feasts_full_14
  · refine q_iconst hX d_Feasts_full_9 ic_1 ?_
    refine q_goto hX d_Feasts_full_10 rfl ?_
    exact q_zretR hX zn_1 h hT d_Feasts_full_14
set_option maxHeartbeats 4000000 in
theorem t_Feasts_insert_lb6 {G : qG} {X : qX} (hX : qOk G X "ChantryRolls$Feasts" prog_5_method_5_code 5 none 1) {u : qMem} {f : Nat} {x1 : Int32} {x2 : Int32} {x3 : Int32} (hT : qTg G X 0 0 qKS qRF u none) {k6 : qMem → Int32 → Option (qMem)} (hk6 : ∀ (σ : qMem) (x4 : Int32), k6 σ x4 = some u → qV G X 0 0 qKS qRF σ 6 [some (.ref 29), some (.int x1), some (.int x2), some (.int x3), some (.int x4)] []) {σ : qMem} {x4 : Int32} (h : p_Feasts_insert_l6 f  x1 x2 x3  k6 σ x4 = some u) : qV G X 0 0 qKS qRF σ 6 [some (.ref 29), some (.int x1), some (.int x2), some (.int x3), some (.int x4)] [] := by
  unfold p_Feasts_insert_l6 at h
  refine q_iload hX d_Feasts_insert_6 rfl ?_
  refine q_iload_n hX d_Feasts_insert_8 rfl ?_
  refine q_icmp_le hX d_Feasts_insert_9 rfl h (fun _ h => ?_) (fun _ h => ?_)
  · refine q_aload_n hX d_Feasts_insert_50 rfl ?_
    refine q_getR hX fl_Feasts_9 kc_29 (rfl : qRF 29 0 = some 30) d_Feasts_insert_51 ?_
    refine q_iload_n hX d_Feasts_insert_54 rfl ?_
    refine q_iload_n hX d_Feasts_insert_55 rfl ?_
    refine q_iast hX kc_30 qKS_len d_Feasts_insert_56 h (fun hi1 h => ?_)
    refine q_aload_n hX d_Feasts_insert_57 rfl ?_
    refine q_getR hX fl_Feasts_13 kc_29 (rfl : qRF 29 1 = some 31) d_Feasts_insert_58 ?_
    refine q_iload_n hX d_Feasts_insert_61 rfl ?_
    refine q_iload_n hX d_Feasts_insert_62 rfl ?_
    refine q_iast hX kc_31 qKS_len d_Feasts_insert_63 h (fun hi2 h => ?_)
    refine q_aload_n hX d_Feasts_insert_64 rfl ?_
    refine q_dup hX rfl d_Feasts_insert_65 ?_
    refine q_getI hX fl_Feasts_16 kc_29 d_Feasts_insert_66 ?_
    refine q_iconst hX d_Feasts_insert_69 ic_1 ?_
    refine q_iadd hX d_Feasts_insert_70 ?_
    refine q_putI hX fl_Feasts_16 kc_29 rfl qKS_len d_Feasts_insert_71 ?_
    exact q_vretW hX h hT d_Feasts_insert_74
  · refine q_aload_n hX d_Feasts_insert_12 rfl ?_
    refine q_getR hX fl_Feasts_9 kc_29 (rfl : qRF 29 0 = some 30) d_Feasts_insert_13 ?_
    refine q_iload hX d_Feasts_insert_16 rfl ?_
    refine q_aload_n hX d_Feasts_insert_18 rfl ?_
    refine q_getR hX fl_Feasts_9 kc_29 (rfl : qRF 29 0 = some 30) d_Feasts_insert_19 ?_
    refine q_iload hX d_Feasts_insert_22 rfl ?_
    refine q_iconst hX d_Feasts_insert_24 ic_1 ?_
    refine q_isub hX d_Feasts_insert_25 ?_
    refine q_iald hX kc_30 d_Feasts_insert_26 h (fun hi3 h => ?_)
    refine q_iast hX kc_30 qKS_len d_Feasts_insert_27 h (fun hi4 h => ?_)
    refine q_aload_n hX d_Feasts_insert_28 rfl ?_
    refine q_getR hX fl_Feasts_13 kc_29 (rfl : qRF 29 1 = some 31) d_Feasts_insert_29 ?_
    refine q_iload hX d_Feasts_insert_32 rfl ?_
    refine q_aload_n hX d_Feasts_insert_34 rfl ?_
    refine q_getR hX fl_Feasts_13 kc_29 (rfl : qRF 29 1 = some 31) d_Feasts_insert_35 ?_
    refine q_iload hX d_Feasts_insert_38 rfl ?_
    refine q_iconst hX d_Feasts_insert_40 ic_1 ?_
    refine q_isub hX d_Feasts_insert_41 ?_
    refine q_iald hX kc_31 d_Feasts_insert_42 h (fun hi5 h => ?_)
    refine q_iast hX kc_31 qKS_len d_Feasts_insert_43 h (fun hi6 h => ?_)
    refine q_iinc hX d_Feasts_insert_44 rfl (ii_m1 _) (by decide) rfl rfl ?_
    refine q_goto hX d_Feasts_insert_47 rfl ?_
    exact q_mask [true, true, true, true, true] rfl (hk6 _ _ h)
theorem t_Feasts_insert_l6 {G : qG} {X : qX} (hX : qOk G X "ChantryRolls$Feasts" prog_5_method_5_code 5 none 1) {u : qMem} {f : Nat} {x1 : Int32} {x2 : Int32} {x3 : Int32} (hT : qTg G X 0 0 qKS qRF u none) : ∀ (n : Nat) (σ : qMem) (x4 : Int32), qfix2 (p_Feasts_insert_l6 f  x1 x2 x3 ) n σ x4 = some u → qV G X 0 0 qKS qRF σ 6 [some (.ref 29), some (.int x1), some (.int x2), some (.int x3), some (.int x4)] [] :=
  qfix2_ind (fun k hk _ _ h => t_Feasts_insert_lb6 hX   hT  hk h)
set_option maxHeartbeats 4000000 in
theorem c_Feasts_insert (l : Launch) (G : qG) (hA : qAd G) (f : Nat) (σ : qMem) (x1 : Int32) (x2 : Int32) (x3 : Int32) {u : qMem} (h : p_Feasts_insert f σ x1 x2 x3 = some u) : qCt l y_Feasts_insert prog_5_method_5_code 5 none 1 G qKS qRF σ [(.ref 29), (.int x1), (.int x2), (.int x3)] none qKS qRF u 0 0 := by
  refine qCt.of (lv := [some (.ref 29), some (.int x1), some (.int x2), some (.int x3), none]) (by decide) hA (Nat.le_of_ble_eq_true rfl) rfl ?_
  intro X hl _ _ _ hX hT
  subst hl
  unfold p_Feasts_insert at h
  refine q_aload_n hX d_Feasts_insert_0 rfl ?_
  refine q_getI hX fl_Feasts_16 kc_29 d_Feasts_insert_1 ?_
  refine q_istore hX d_Feasts_insert_4 (by decide) rfl rfl ?_
  exact q_mask [true, true, true, true, true] rfl (t_Feasts_insert_l6 hX hT f _ _ h)
set_option maxHeartbeats 4000000 in
theorem t_Feasts_add_b73 {G : qG} {X : qX} (hX : qOk G X "ChantryRolls$Feasts" prog_5_method_4_code 4 (some .int) 2) {u : Int32 × qMem} {f : Nat} {σ : qMem} {x1 : Int32} {x2 : Int32} {x3 : Int32} (hT : qTg G X 0 0 qKS qRF u.2 (some (.int u.1))) (h : p_Feasts_add_b73 f    σ x1 x2 x3 = some u) : qV G X 0 0 qKS qRF σ 73 [some (.ref 29), some (.int x1), some (.int x2), some (.int x3)] [] := by
  unfold p_Feasts_add_b73 at h
  refine q_aload_n hX d_Feasts_add_73 rfl ?_
  refine q_iload_n hX d_Feasts_add_74 rfl ?_
  refine q_iload_n hX d_Feasts_add_75 rfl ?_
  refine q_iload_n hX d_Feasts_add_76 rfl ?_
  obtain ⟨u1, hc2, h⟩ := qbind h
  refine q_cVv hX (c_Feasts_insert X.l G hX.ad f _ _ _ _ hc2) cw_Feasts_29 rfl kc_29 rfl (Nat.le_of_ble_eq_true rfl) rfl (Nat.le_of_ble_eq_true rfl) d_Feasts_add_77 ?_
  refine q_aload_n hX d_Feasts_add_80 rfl ?_
  refine q_getI hX fl_Feasts_20 kc_29 d_Feasts_add_81 ?_
  exact q_iretW hX h hT d_Feasts_add_84
set_option maxHeartbeats 4000000 in
theorem t_Feasts_add_b36 {G : qG} {X : qX} (hX : qOk G X "ChantryRolls$Feasts" prog_5_method_4_code 4 (some .int) 2) {u : Int32 × qMem} {f : Nat} {σ : qMem} {x1 : Int32} {x2 : Int32} {x3 : Int32} (hT : qTg G X 0 0 qKS qRF u.2 (some (.int u.1))) (h : p_Feasts_add_b36 f    σ x1 x2 x3 = some u) : qV G X 0 0 qKS qRF σ 36 [some (.ref 29), some (.int x1), some (.int x2), some (.int x3)] [] := by
  unfold p_Feasts_add_b36 at h
  refine q_iload_n hX d_Feasts_add_36 rfl ?_
  refine q_aload_n hX d_Feasts_add_37 rfl ?_
  refine q_getI hX fl_Feasts_16 kc_29 d_Feasts_add_38 ?_
  refine q_icmp_ge hX d_Feasts_add_41 rfl h (fun _ h => ?_) (fun _ h => ?_)
  · exact q_mask [true, true, true, true] rfl (t_Feasts_add_b73 hX hT h)
  · refine q_aload_n hX d_Feasts_add_44 rfl ?_
    refine q_getR hX fl_Feasts_9 kc_29 (rfl : qRF 29 0 = some 30) d_Feasts_add_45 ?_
    refine q_iload_n hX d_Feasts_add_48 rfl ?_
    refine q_iald hX kc_30 d_Feasts_add_49 h (fun hi3 h => ?_)
    refine q_iload_n hX d_Feasts_add_50 rfl ?_
    refine q_icmp_ne hX d_Feasts_add_51 rfl h (fun _ h => ?_) (fun _ h => ?_)
    · exact q_mask [true, true, true, true] rfl (t_Feasts_add_b73 hX hT h)
    · refine q_aload_n hX d_Feasts_add_54 rfl ?_
      refine q_getR hX fl_Feasts_13 kc_29 (rfl : qRF 29 1 = some 31) d_Feasts_add_55 ?_
      refine q_iload_n hX d_Feasts_add_58 rfl ?_
      refine q_aload_n hX d_Feasts_add_59 rfl ?_
      refine q_getR hX fl_Feasts_13 kc_29 (rfl : qRF 29 1 = some 31) d_Feasts_add_60 ?_
      refine q_iload_n hX d_Feasts_add_63 rfl ?_
      refine q_iald hX kc_31 d_Feasts_add_64 h (fun hi4 h => ?_)
      refine q_iload_n hX d_Feasts_add_65 rfl ?_
      refine q_mmax hX w_614 (by decide) (Nat.le_of_ble_eq_true rfl) d_Feasts_add_66 ?_
      refine q_iast hX kc_31 qKS_len d_Feasts_add_69 h (fun hi5 h => ?_)
      refine q_goto hX d_Feasts_add_70 rfl ?_
      refine q_aload_n hX d_Feasts_add_80 rfl ?_
      refine q_getI hX fl_Feasts_20 kc_29 d_Feasts_add_81 ?_
      exact q_iretW hX h hT d_Feasts_add_84
set_option maxHeartbeats 4000000 in
theorem t_Feasts_add_lb12 {G : qG} {X : qX} (hX : qOk G X "ChantryRolls$Feasts" prog_5_method_4_code 4 (some .int) 2) {u : Int32 × qMem} {f : Nat} {σ : qMem} {x1 : Int32} {x2 : Int32} (hT : qTg G X 0 0 qKS qRF u.2 (some (.int u.1))) {k12 : Int32 → Option (Int32 × qMem)} (hk12 : ∀ (x3 : Int32), k12 x3 = some u → qV G X 0 0 qKS qRF σ 12 [some (.ref 29), some (.int x1), some (.int x2), some (.int x3)] []) {x3 : Int32} (h : p_Feasts_add_l12 f  σ x1 x2  k12 x3 = some u) : qV G X 0 0 qKS qRF σ 12 [some (.ref 29), some (.int x1), some (.int x2), some (.int x3)] [] := by
  unfold p_Feasts_add_l12 at h
  refine q_iload_n hX d_Feasts_add_12 rfl ?_
  refine q_aload_n hX d_Feasts_add_13 rfl ?_
  refine q_getI hX fl_Feasts_16 kc_29 d_Feasts_add_14 ?_
  refine q_icmp_ge hX d_Feasts_add_17 rfl h (fun _ h => ?_) (fun _ h => ?_)
  · exact q_mask [true, true, true, true] rfl (t_Feasts_add_b36 hX hT h)
  · refine q_aload_n hX d_Feasts_add_20 rfl ?_
    refine q_getR hX fl_Feasts_9 kc_29 (rfl : qRF 29 0 = some 30) d_Feasts_add_21 ?_
    refine q_iload_n hX d_Feasts_add_24 rfl ?_
    refine q_iald hX kc_30 d_Feasts_add_25 h (fun hi6 h => ?_)
    refine q_iload_n hX d_Feasts_add_26 rfl ?_
    refine q_icmp_ge hX d_Feasts_add_27 rfl h (fun _ h => ?_) (fun _ h => ?_)
    · exact q_mask [true, true, true, true] rfl (t_Feasts_add_b36 hX hT h)
    · refine q_iinc hX d_Feasts_add_30 rfl (ii_1 _) (by decide) rfl rfl ?_
      refine q_goto hX d_Feasts_add_33 rfl ?_
      exact q_mask [true, true, true, true] rfl (hk12 _ h)
theorem t_Feasts_add_l12 {G : qG} {X : qX} (hX : qOk G X "ChantryRolls$Feasts" prog_5_method_4_code 4 (some .int) 2) {u : Int32 × qMem} {f : Nat} {σ : qMem} {x1 : Int32} {x2 : Int32} (hT : qTg G X 0 0 qKS qRF u.2 (some (.int u.1))) : ∀ (n : Nat) (x3 : Int32), qfix1 (p_Feasts_add_l12 f  σ x1 x2 ) n x3 = some u → qV G X 0 0 qKS qRF σ 12 [some (.ref 29), some (.int x1), some (.int x2), some (.int x3)] [] :=
  qfix1_ind (fun k hk _ h => t_Feasts_add_lb12 hX   hT  hk h)
set_option maxHeartbeats 4000000 in
theorem c_Feasts_add (l : Launch) (G : qG) (hA : qAd G) (f : Nat) (σ : qMem) (x1 : Int32) (x2 : Int32) {u : Int32 × qMem} (h : p_Feasts_add f σ x1 x2 = some u) : qCt l y_Feasts_add prog_5_method_4_code 4 (some .int) 2 G qKS qRF σ [(.ref 29), (.int x1), (.int x2)] (some (.int u.1)) qKS qRF u.2 0 0 := by
  refine qCt.of (lv := [some (.ref 29), some (.int x1), some (.int x2), none]) (by decide) hA (Nat.le_of_ble_eq_true rfl) rfl ?_
  intro X hl _ _ _ hX hT
  subst hl
  unfold p_Feasts_add at h
  refine q_aload_n hX d_Feasts_add_0 rfl ?_
  refine q_dup hX rfl d_Feasts_add_1 ?_
  refine q_getI hX fl_Feasts_20 kc_29 d_Feasts_add_2 ?_
  refine q_iconst hX d_Feasts_add_5 ic_1 ?_
  refine q_iadd hX d_Feasts_add_6 ?_
  refine q_putI hX fl_Feasts_20 kc_29 rfl qKS_len d_Feasts_add_7 ?_
  refine q_iconst hX d_Feasts_add_10 ic_0 ?_
  refine q_istore_n hX d_Feasts_add_11 (by decide) rfl rfl ?_
  exact q_mask [true, true, true, true] rfl (t_Feasts_add_l12 hX hT f _ h)
set_option maxHeartbeats 4000000 in
theorem c_C_feast (l : Launch) (G : qG) (hA : qAd G) (f : Nat) (σ : qMem) (x1 : Int32) (x2 : Int32) {u : Int32 × qMem} (h : p_C_feast f σ x1 x2 = some u) : qCt l y_C_feast prog_1_method_10_code 3 (some .int) 3 G qKS qRF σ [(.ref 0), (.int x1), (.int x2)] (some (.int u.1)) qKS qRF u.2 0 0 := by
  refine qCt.of (lv := [some (.ref 0), some (.int x1), some (.int x2)]) (by decide) hA (Nat.le_of_ble_eq_true rfl) rfl ?_
  intro X hl _ _ _ hX hT
  subst hl
  unfold p_C_feast at h
  refine q_iload_n hX d_C_feast_0 rfl ?_
  obtain ⟨u1, hc2, h⟩ := qbind h
  refine q_cSr hX (c_C_noDay X.l G hX.ad f _ _ hc2) cw_C_178 rfl (Nat.le_of_ble_eq_true rfl) rfl (Nat.le_of_ble_eq_true rfl) d_C_feast_1 ?_
  refine q_if_ne hX d_C_feast_4 rfl h (fun _ h => ?_) (fun _ h => ?_)
  · refine q_ldc hX w_383 d_C_feast_16 ?_
    exact q_iretW hX h hT d_C_feast_18
  · refine q_iload_n hX d_C_feast_7 rfl ?_
    refine q_iconst hX d_C_feast_8 ic_1 ?_
    refine q_iconst hX d_C_feast_9 ic_2 ?_
    obtain ⟨u3, hc4, h⟩ := qbind h
    refine q_cSr hX (c_C_outside X.l G hX.ad f _ _ _ _ hc4) cw_C_122 rfl (Nat.le_of_ble_eq_true rfl) rfl (Nat.le_of_ble_eq_true rfl) d_C_feast_10 ?_
    refine q_if_eq hX d_C_feast_13 rfl h (fun _ h => ?_) (fun _ h => ?_)
    · refine q_aload_n hX d_C_feast_19 rfl ?_
      refine q_getR hX fl_C_33 kc_0 (rfl : qRF 0 3 = some 29) d_C_feast_20 ?_
      obtain ⟨u5, hc6, h⟩ := qbind h
      refine q_cVr hX (c_Feasts_full X.l G hX.ad f _  hc6) cw_C_181 rfl kc_29 rfl (Nat.le_of_ble_eq_true rfl) rfl (Nat.le_of_ble_eq_true rfl) d_C_feast_23 ?_
      refine q_if_eq hX d_C_feast_26 rfl h (fun _ h => ?_) (fun _ h => ?_)
      · refine q_aload_n hX d_C_feast_34 rfl ?_
        refine q_getR hX fl_C_33 kc_0 (rfl : qRF 0 3 = some 29) d_C_feast_35 ?_
        refine q_iload_n hX d_C_feast_38 rfl ?_
        refine q_iload_n hX d_C_feast_39 rfl ?_
        obtain ⟨u7, hc8, h⟩ := qbind h
        refine q_cVr hX (c_Feasts_add X.l G hX.ad f _ _ _ hc8) cw_C_186 rfl kc_29 rfl (Nat.le_of_ble_eq_true rfl) rfl (Nat.le_of_ble_eq_true rfl) d_C_feast_40 ?_
        exact q_iretW hX h hT d_C_feast_43
      · refine q_ldc hX w_609 d_C_feast_29 ?_
        refine q_goto hX d_C_feast_31 rfl ?_
        exact q_iretW hX h hT d_C_feast_43
    · refine q_ldc hX w_383 d_C_feast_16 ?_
      exact q_iretW hX h hT d_C_feast_18
set_option maxHeartbeats 4000000 in
theorem t_Feasts_dayBehind_lb13 {G : qG} {X : qX} (hX : qOk G X "ChantryRolls$Feasts" prog_5_method_7_code 4 (some .int) 1) {u : Int32} {f : Nat} {σ : qMem} (hT : qTg G X 0 0 qKS qRF σ (some (.int u))) {k13 : Int32 → Int32 → Option (Int32)} (hk13 : ∀ (x2 : Int32) (x3 : Int32), k13 x2 x3 = some u → qV G X 0 0 qKS qRF σ 13 [some (.ref 29), none, some (.int x2), some (.int x3)] []) {x2 : Int32} {x3 : Int32} (h : p_Feasts_dayBehind_l13 f  σ  k13 x2 x3 = some u) : qV G X 0 0 qKS qRF σ 13 [some (.ref 29), none, some (.int x2), some (.int x3)] [] := by
  unfold p_Feasts_dayBehind_l13 at h
  refine q_iload_n hX d_Feasts_dayBehind_13 rfl ?_
  refine q_aload_n hX d_Feasts_dayBehind_14 rfl ?_
  refine q_getI hX fl_Feasts_16 kc_29 d_Feasts_dayBehind_15 ?_
  refine q_icmp_ge hX d_Feasts_dayBehind_18 rfl h (fun _ h => ?_) (fun _ h => ?_)
  · refine q_iload_n hX d_Feasts_dayBehind_40 rfl ?_
    exact q_iretR hX h hT d_Feasts_dayBehind_41
  · refine q_aload_n hX d_Feasts_dayBehind_21 rfl ?_
    refine q_getR hX fl_Feasts_9 kc_29 (rfl : qRF 29 0 = some 30) d_Feasts_dayBehind_22 ?_
    refine q_iload_n hX d_Feasts_dayBehind_25 rfl ?_
    refine q_iald hX kc_30 d_Feasts_dayBehind_26 h (fun hi1 h => ?_)
    refine q_iload_n hX d_Feasts_dayBehind_27 rfl ?_
    refine q_icmp_ne hX d_Feasts_dayBehind_28 rfl h (fun _ h => ?_) (fun _ h => ?_)
    · refine q_iload_n hX d_Feasts_dayBehind_40 rfl ?_
      exact q_iretR hX h hT d_Feasts_dayBehind_41
    · refine q_iinc hX d_Feasts_dayBehind_31 rfl (ii_1 _) (by decide) rfl rfl ?_
      refine q_iinc hX d_Feasts_dayBehind_34 rfl (ii_1 _) (by decide) rfl rfl ?_
      refine q_goto hX d_Feasts_dayBehind_37 rfl ?_
      exact q_mask [true, false, true, true] rfl (hk13 _ _ h)
theorem t_Feasts_dayBehind_l13 {G : qG} {X : qX} (hX : qOk G X "ChantryRolls$Feasts" prog_5_method_7_code 4 (some .int) 1) {u : Int32} {f : Nat} {σ : qMem} (hT : qTg G X 0 0 qKS qRF σ (some (.int u))) : ∀ (n : Nat) (x2 : Int32) (x3 : Int32), qfix2 (p_Feasts_dayBehind_l13 f  σ ) n x2 x3 = some u → qV G X 0 0 qKS qRF σ 13 [some (.ref 29), none, some (.int x2), some (.int x3)] [] :=
  qfix2_ind (fun k hk _ _ h => t_Feasts_dayBehind_lb13 hX   hT  hk h)
set_option maxHeartbeats 4000000 in
theorem c_Feasts_dayBehind (l : Launch) (G : qG) (hA : qAd G) (f : Nat) (σ : qMem) (x1 : Int32) {u : Int32} (h : p_Feasts_dayBehind f σ x1 = some u) : qCt l y_Feasts_dayBehind prog_5_method_7_code 4 (some .int) 1 G qKS qRF σ [(.ref 29), (.int x1)] (some (.int u)) qKS qRF σ 0 0 := by
  refine qCt.of (lv := [some (.ref 29), some (.int x1), none, none]) (by decide) hA (Nat.le_of_ble_eq_true rfl) rfl ?_
  intro X hl _ _ _ hX hT
  subst hl
  unfold p_Feasts_dayBehind at h
  refine q_aload_n hX d_Feasts_dayBehind_0 rfl ?_
  refine q_getR hX fl_Feasts_9 kc_29 (rfl : qRF 29 0 = some 30) d_Feasts_dayBehind_1 ?_
  refine q_iload_n hX d_Feasts_dayBehind_4 rfl ?_
  refine q_iald hX kc_30 d_Feasts_dayBehind_5 h (fun hi2 h => ?_)
  refine q_iconst hX d_Feasts_dayBehind_6 ic_1 ?_
  refine q_iadd hX d_Feasts_dayBehind_7 ?_
  refine q_istore_n hX d_Feasts_dayBehind_8 (by decide) rfl rfl ?_
  refine q_iload_n hX d_Feasts_dayBehind_9 rfl ?_
  refine q_iconst hX d_Feasts_dayBehind_10 ic_1 ?_
  refine q_iadd hX d_Feasts_dayBehind_11 ?_
  refine q_istore_n hX d_Feasts_dayBehind_12 (by decide) rfl rfl ?_
  exact q_mask [true, false, true, true] rfl (t_Feasts_dayBehind_l13 hX hT f _ _ h)
