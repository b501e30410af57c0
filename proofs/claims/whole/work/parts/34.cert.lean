set_option maxHeartbeats 4000000 in
theorem c_C_status (l : Launch) (G : qG) (hA : qAd G) (f : Nat) (σ : qMem) {u : Int32} (h : p_C_status f σ  = some u) : qCt l y_C_status prog_1_method_41_code 1 (some .int) 1 G qKS qRF σ [(.ref 0)] (some (.int u)) qKS qRF σ 0 0 := by
  refine qCt.of (lv := [some (.ref 0)]) (by decide) hA (Nat.le_of_ble_eq_true rfl) rfl ?_
  intro X hl _ _ _ hX hT
  subst hl
  unfold p_C_status at h
  refine q_aload_n hX d_C_status_0 rfl ?_
  refine q_getI hX fl_C_109 kc_0 d_C_status_1 ?_
  exact q_iretR hX h hT d_C_status_4
set_option maxHeartbeats 4000000 in
theorem c_M_in (l : Launch) (G : qG) (hA : qAd G) (f : Nat) (σ : qMem) (x0 : Int64) (x2 : Int64) (x4 : Int64) {u : Int32} (h : p_M_in f σ x0 x2 x4 = some u) : qCt l y_M_in prog_14_method_3_code 6 (some .boolean) 1 G qKS qRF σ [(.long x0), (.long x2), (.long x4)] (some (.int u)) qKS qRF σ 0 0 := by
  refine qCt.of (lv := [some (.long x0), none, some (.long x2), none, some (.long x4), none]) (by decide) hA (Nat.le_of_ble_eq_true rfl) rfl ?_
  intro X hl _ _ _ hX hT
  subst hl
  unfold p_M_in at h
  refine q_lload_n hX d_M_in_0 rfl ?_
  refine q_lload_n hX d_M_in_1 rfl ?_
  refine q_lcmp hX d_M_in_2 ?_
  refine q_if_lt hX d_M_in_3 rfl h (fun _ h => ?_) (fun _ h => ?_)
  · refine q_iconst hX d_M_in_17 ic_0 ?_
    exact q_zretR hX zn_0 h hT d_M_in_18
  · refine q_lload_n hX d_M_in_6 rfl ?_
    refine q_lload hX d_M_in_7 rfl ?_
    refine q_lcmp hX d_M_in_9 ?_
    refine q_if_gt hX d_M_in_10 rfl h (fun _ h => ?_) (fun _ h => ?_)
    · refine q_iconst hX d_M_in_17 ic_0 ?_
      exact q_zretR hX zn_0 h hT d_M_in_18
    · refine q_iconst hX d_M_in_13 ic_1 ?_
      refine q_goto hX d_M_in_14 rfl ?_
      exact q_zretR hX zn_1 h hT d_M_in_18
set_option maxHeartbeats 4000000 in
theorem c_M_isSheet (l : Launch) (G : qG) (hA : qAd G) (f : Nat) (σ : qMem) (x0 : Int32) {u : Int32} (h : p_M_isSheet f σ x0 = some u) : qCt l y_M_isSheet prog_14_method_5_code 1 (some .boolean) 2 G qKS qRF σ [(.int x0)] (some (.int u)) qKS qRF σ 0 0 := by
  refine qCt.of (lv := [some (.int x0)]) (by decide) hA (Nat.le_of_ble_eq_true rfl) rfl ?_
  intro X hl _ _ _ hX hT
  subst hl
  unfold p_M_isSheet at h
  refine q_iload_n hX d_M_isSheet_0 rfl ?_
  refine q_i2l hX d_M_isSheet_1 ?_
  refine q_lconst hX d_M_isSheet_2 lc_0 ?_
  refine q_ldc2 hX w_1293 d_M_isSheet_3 ?_
  obtain ⟨u1, hc2, h⟩ := qbind h
  refine q_cSr hX (c_M_in X.l G hX.ad f _ _ _ _ hc2) cw_M_147 rfl (Nat.le_of_ble_eq_true rfl) rfl (Nat.le_of_ble_eq_true rfl) d_M_isSheet_6 ?_
  exact q_zretR hX rfl h hT d_M_isSheet_9
set_option maxHeartbeats 4000000 in
theorem c_M_finding (l : Launch) (G : qG) (hA : qAd G) (f : Nat) (σ : qMem) (x1 : Int32) {u : Int32 × qMem} (h : p_M_finding f σ x1 = some u) : qCt l y_M_finding prog_14_method_4_code 2 (some .int) 1 G qKS qRF σ [(.ref 104), (.int x1)] (some (.int u.1)) qKS qRF u.2 0 0 := by
  refine qCt.of (lv := [some (.ref 104), some (.int x1)]) (by decide) hA (Nat.le_of_ble_eq_true rfl) rfl ?_
  intro X hl _ _ _ hX hT
  subst hl
  unfold p_M_finding at h
  refine q_aload_n hX d_M_finding_0 rfl ?_
  refine q_iload_n hX d_M_finding_1 rfl ?_
  refine q_putI hX fl_M_141 kc_104 rfl qKS_len d_M_finding_2 ?_
  refine q_ldc hX w_1303 d_M_finding_5 ?_
  refine q_iload_n hX d_M_finding_7 rfl ?_
  refine q_isub hX d_M_finding_8 ?_
  exact q_iretW hX h hT d_M_finding_9
set_option maxHeartbeats 4000000 in
theorem t_M_sheet_lb65 {G : qG} {X : qX} (hX : qOk G X "ChantryRollsModel" prog_14_method_6_code 5 (some .int) 3) {u : Int32 × qMem} {f : Nat} {x1 : Int32} {x3 : Int32} (hT : qTg G X 0 0 qKS qRF u.2 (some (.int u.1))) {k65 : qMem → Int32 → Option (Int32 × qMem)} (hk65 : ∀ (σ : qMem) (x4 : Int32), k65 σ x4 = some u → qV G X 0 0 qKS qRF σ 65 [some (.ref 104), some (.int x1), none, some (.int x3), some (.int x4)] []) {σ : qMem} {x4 : Int32} (h : p_M_sheet_l65 f  x1 x3  k65 σ x4 = some u) : qV G X 0 0 qKS qRF σ 65 [some (.ref 104), some (.int x1), none, some (.int x3), some (.int x4)] [] := by
  unfold p_M_sheet_l65 at h
  refine q_iload hX d_M_sheet_65 rfl ?_
  refine q_bipush hX d_M_sheet_67 bp_60 ?_
  refine q_icmp_ge hX d_M_sheet_69 rfl h (fun _ h => ?_) (fun _ h => ?_)
  · refine q_iload_n hX d_M_sheet_91 rfl ?_
    exact q_iretW hX h hT d_M_sheet_92
  · refine q_aload_n hX d_M_sheet_72 rfl ?_
    refine q_getR hX fl_M_16 kc_104 (rfl : qRF 104 4 = some 107) d_M_sheet_73 ?_
    refine q_bipush hX d_M_sheet_76 bp_60 ?_
    refine q_iload_n hX d_M_sheet_78 rfl ?_
    refine q_imul hX d_M_sheet_79 ?_
    refine q_iload hX d_M_sheet_80 rfl ?_
    refine q_iadd hX d_M_sheet_82 ?_
    refine q_iconst hX d_M_sheet_83 ic_0 ?_
    refine q_iast hX kc_107 qKS_len d_M_sheet_84 h (fun hi1 h => ?_)
    refine q_iinc hX d_M_sheet_85 rfl (ii_1 _) (by decide) rfl rfl ?_
    refine q_goto hX d_M_sheet_88 rfl ?_
    exact q_mask [true, true, false, true, true] rfl (hk65 _ _ h)
theorem t_M_sheet_l65 {G : qG} {X : qX} (hX : qOk G X "ChantryRollsModel" prog_14_method_6_code 5 (some .int) 3) {u : Int32 × qMem} {f : Nat} {x1 : Int32} {x3 : Int32} (hT : qTg G X 0 0 qKS qRF u.2 (some (.int u.1))) : ∀ (n : Nat) (σ : qMem) (x4 : Int32), qfix2 (p_M_sheet_l65 f  x1 x3 ) n σ x4 = some u → qV G X 0 0 qKS qRF σ 65 [some (.ref 104), some (.int x1), none, some (.int x3), some (.int x4)] [] :=
  qfix2_ind (fun k hk _ _ h => t_M_sheet_lb65 hX   hT  hk h)
set_option maxHeartbeats 4000000 in
theorem c_M_sheet (l : Launch) (G : qG) (hA : qAd G) (f : Nat) (σ : qMem) (x1 : Int32) (x2 : Int32) (x3 : Int32) {u : Int32 × qMem} (h : p_M_sheet f σ x1 x2 x3 = some u) : qCt l y_M_sheet prog_14_method_6_code 5 (some .int) 3 G qKS qRF σ [(.ref 104), (.int x1), (.int x2), (.int x3)] (some (.int u.1)) qKS qRF u.2 0 0 := by
  refine qCt.of (lv := [some (.ref 104), some (.int x1), some (.int x2), some (.int x3), none]) (by decide) hA (Nat.le_of_ble_eq_true rfl) rfl ?_
  intro X hl _ _ _ hX hT
  subst hl
  unfold p_M_sheet at h
  refine q_aload_n hX d_M_sheet_0 rfl ?_
  refine q_iconst hX d_M_sheet_1 ic_0 ?_
  refine q_putI hX fl_M_137 kc_104 rfl qKS_len d_M_sheet_2 ?_
  refine q_iload_n hX d_M_sheet_5 rfl ?_
  obtain ⟨u2, hc3, h⟩ := qbind h
  refine q_cSr hX (c_M_isSheet X.l G hX.ad f _ _ hc3) cw_M_151 rfl (Nat.le_of_ble_eq_true rfl) rfl (Nat.le_of_ble_eq_true rfl) d_M_sheet_6 ?_
  refine q_if_eq hX d_M_sheet_9 rfl h (fun _ h => ?_) (fun _ h => ?_)
  · refine q_ldc hX w_1298 d_M_sheet_30 ?_
    exact q_iretW hX h hT d_M_sheet_32
  · refine q_iload_n hX d_M_sheet_12 rfl ?_
    refine q_i2l hX d_M_sheet_13 ?_
    refine q_lconst hX d_M_sheet_14 lc_0 ?_
    refine q_ldc2 hX w_1297 d_M_sheet_15 ?_
    obtain ⟨u4, hc5, h⟩ := qbind h
    refine q_cSr hX (c_M_in X.l G hX.ad f _ _ _ _ hc5) cw_M_147 rfl (Nat.le_of_ble_eq_true rfl) rfl (Nat.le_of_ble_eq_true rfl) d_M_sheet_18 ?_
    refine q_if_eq hX d_M_sheet_21 rfl h (fun _ h => ?_) (fun _ h => ?_)
    · refine q_ldc hX w_1298 d_M_sheet_30 ?_
      exact q_iretW hX h hT d_M_sheet_32
    · refine q_iload_n hX d_M_sheet_24 rfl ?_
      refine q_bipush hX d_M_sheet_25 bp_60 ?_
      refine q_icmp_le hX d_M_sheet_27 rfl h (fun _ h => ?_) (fun _ h => ?_)
      · refine q_aload_n hX d_M_sheet_33 rfl ?_
        refine q_iconst hX d_M_sheet_34 ic_0 ?_
        refine q_putI hX fl_M_141 kc_104 rfl qKS_len d_M_sheet_35 ?_
        refine q_iload_n hX d_M_sheet_38 rfl ?_
        refine q_if_ge hX d_M_sheet_39 rfl h (fun _ h => ?_) (fun _ h => ?_)
        · refine q_aload_n hX d_M_sheet_48 rfl ?_
          refine q_getR hX fl_M_7 kc_104 (rfl : qRF 104 2 = some 105) d_M_sheet_49 ?_
          refine q_iload_n hX d_M_sheet_52 rfl ?_
          refine q_iload_n hX d_M_sheet_53 rfl ?_
          refine q_iast hX kc_105 qKS_len d_M_sheet_54 h (fun hi6 h => ?_)
          refine q_aload_n hX d_M_sheet_55 rfl ?_
          refine q_getR hX fl_M_13 kc_104 (rfl : qRF 104 3 = some 106) d_M_sheet_56 ?_
          refine q_iload_n hX d_M_sheet_59 rfl ?_
          refine q_iload_n hX d_M_sheet_60 rfl ?_
          refine q_iast hX kc_106 qKS_len d_M_sheet_61 h (fun hi7 h => ?_)
          refine q_iconst hX d_M_sheet_62 ic_0 ?_
          refine q_istore hX d_M_sheet_63 (by decide) rfl rfl ?_
          exact q_mask [true, true, false, true, true] rfl (t_M_sheet_l65 hX hT f _ _ h)
        · refine q_aload_n hX d_M_sheet_42 rfl ?_
          refine q_iconst hX d_M_sheet_43 ic_4 ?_
          obtain ⟨u8, hc9, h⟩ := qbind h
          refine q_cVr hX (c_M_finding X.l G hX.ad f _ _ hc9) cw_M_158 rfl kc_104 rfl (Nat.le_of_ble_eq_true rfl) rfl (Nat.le_of_ble_eq_true rfl) d_M_sheet_44 ?_
          exact q_iretW hX h hT d_M_sheet_47
      · refine q_ldc hX w_1298 d_M_sheet_30 ?_
        exact q_iretW hX h hT d_M_sheet_32
set_option maxHeartbeats 4000000 in
theorem c_M_set (l : Launch) (G : qG) (hA : qAd G) (f : Nat) (σ : qMem) (x1 : Int32) (x2 : Int32) (x3 : Int32) {u : Int32 × qMem} (h : p_M_set f σ x1 x2 x3 = some u) : qCt l y_M_set prog_14_method_7_code 4 (some .int) 3 G qKS qRF σ [(.ref 104), (.int x1), (.int x2), (.int x3)] (some (.int u.1)) qKS qRF u.2 0 0 := by
  refine qCt.of (lv := [some (.ref 104), some (.int x1), some (.int x2), some (.int x3)]) (by decide) hA (Nat.le_of_ble_eq_true rfl) rfl ?_
  intro X hl _ _ _ hX hT
  subst hl
  unfold p_M_set at h
  refine q_aload_n hX d_M_set_0 rfl ?_
  refine q_iconst hX d_M_set_1 ic_0 ?_
  refine q_putI hX fl_M_137 kc_104 rfl qKS_len d_M_set_2 ?_
  refine q_iload_n hX d_M_set_5 rfl ?_
  obtain ⟨u1, hc2, h⟩ := qbind h
  refine q_cSr hX (c_M_isSheet X.l G hX.ad f _ _ hc2) cw_M_151 rfl (Nat.le_of_ble_eq_true rfl) rfl (Nat.le_of_ble_eq_true rfl) d_M_set_6 ?_
  refine q_if_ne hX d_M_set_9 rfl h (fun _ h => ?_) (fun _ h => ?_)
  · refine q_aload_n hX d_M_set_15 rfl ?_
    refine q_iconst hX d_M_set_16 ic_0 ?_
    refine q_putI hX fl_M_141 kc_104 rfl qKS_len d_M_set_17 ?_
    refine q_aload_n hX d_M_set_20 rfl ?_
    refine q_getR hX fl_M_7 kc_104 (rfl : qRF 104 2 = some 105) d_M_set_21 ?_
    refine q_iload_n hX d_M_set_24 rfl ?_
    refine q_iald hX kc_105 d_M_set_25 h (fun hi3 h => ?_)
    refine q_if_ge hX d_M_set_26 rfl h (fun _ h => ?_) (fun _ h => ?_)
    · refine q_iload_n hX d_M_set_35 rfl ?_
      refine q_i2l hX d_M_set_36 ?_
      refine q_lconst hX d_M_set_37 lc_0 ?_
      refine q_aload_n hX d_M_set_38 rfl ?_
      refine q_getR hX fl_M_13 kc_104 (rfl : qRF 104 3 = some 106) d_M_set_39 ?_
      refine q_iload_n hX d_M_set_42 rfl ?_
      refine q_iald hX kc_106 d_M_set_43 h (fun hi4 h => ?_)
      refine q_iconst hX d_M_set_44 ic_1 ?_
      refine q_isub hX d_M_set_45 ?_
      refine q_i2l hX d_M_set_46 ?_
      obtain ⟨u5, hc6, h⟩ := qbind h
      refine q_cSr hX (c_M_in X.l G hX.ad f _ _ _ _ hc6) cw_M_147 rfl (Nat.le_of_ble_eq_true rfl) rfl (Nat.le_of_ble_eq_true rfl) d_M_set_47 ?_
      refine q_if_ne hX d_M_set_50 rfl h (fun _ h => ?_) (fun _ h => ?_)
      · refine q_aload_n hX d_M_set_59 rfl ?_
        refine q_getR hX fl_M_16 kc_104 (rfl : qRF 104 4 = some 107) d_M_set_60 ?_
        refine q_bipush hX d_M_set_63 bp_60 ?_
        refine q_iload_n hX d_M_set_65 rfl ?_
        refine q_imul hX d_M_set_66 ?_
        refine q_iload_n hX d_M_set_67 rfl ?_
        refine q_iadd hX d_M_set_68 ?_
        refine q_aload_n hX d_M_set_69 rfl ?_
        refine q_getR hX fl_M_7 kc_104 (rfl : qRF 104 2 = some 105) d_M_set_70 ?_
        refine q_iload_n hX d_M_set_73 rfl ?_
        refine q_iald hX kc_105 d_M_set_74 h (fun hi7 h => ?_)
        refine q_if_ne hX d_M_set_75 rfl h (fun _ h => ?_) (fun _ h => ?_)
        · refine q_aload_n hX d_M_set_83 rfl ?_
          refine q_getR hX fl_M_7 kc_104 (rfl : qRF 104 2 = some 105) d_M_set_84 ?_
          refine q_iload_n hX d_M_set_87 rfl ?_
          refine q_iald hX kc_105 d_M_set_88 h (fun hi8 h => ?_)
          refine q_iconst hX d_M_set_89 ic_1 ?_
          refine q_icmp_ne hX d_M_set_90 rfl h (fun _ h => ?_) (fun _ h => ?_)
          · refine q_iload_n hX d_M_set_98 rfl ?_
            refine q_iast hX kc_107 qKS_len d_M_set_99 h (fun hi9 h => ?_)
            refine q_aload_n hX d_M_set_100 rfl ?_
            refine q_getR hX fl_M_16 kc_104 (rfl : qRF 104 4 = some 107) d_M_set_101 ?_
            refine q_bipush hX d_M_set_104 bp_60 ?_
            refine q_iload_n hX d_M_set_106 rfl ?_
            refine q_imul hX d_M_set_107 ?_
            refine q_iload_n hX d_M_set_108 rfl ?_
            refine q_iadd hX d_M_set_109 ?_
            refine q_iald hX kc_107 d_M_set_110 h (fun hi10 h => ?_)
            exact q_iretW hX h hT d_M_set_111
          · refine q_iload_n hX d_M_set_93 rfl ?_
            refine q_i2s hX d_M_set_94 ?_
            refine q_goto hX d_M_set_95 rfl ?_
            refine q_iast hX kc_107 qKS_len d_M_set_99 h (fun hi11 h => ?_)
            refine q_aload_n hX d_M_set_100 rfl ?_
            refine q_getR hX fl_M_16 kc_104 (rfl : qRF 104 4 = some 107) d_M_set_101 ?_
            refine q_bipush hX d_M_set_104 bp_60 ?_
            refine q_iload_n hX d_M_set_106 rfl ?_
            refine q_imul hX d_M_set_107 ?_
            refine q_iload_n hX d_M_set_108 rfl ?_
            refine q_iadd hX d_M_set_109 ?_
            refine q_iald hX kc_107 d_M_set_110 h (fun hi12 h => ?_)
            exact q_iretW hX h hT d_M_set_111
        · refine q_iload_n hX d_M_set_78 rfl ?_
          refine q_i2b hX d_M_set_79 ?_
          refine q_goto hX d_M_set_80 rfl ?_
          refine q_iast hX kc_107 qKS_len d_M_set_99 h (fun hi13 h => ?_)
          refine q_aload_n hX d_M_set_100 rfl ?_
          refine q_getR hX fl_M_16 kc_104 (rfl : qRF 104 4 = some 107) d_M_set_101 ?_
          refine q_bipush hX d_M_set_104 bp_60 ?_
          refine q_iload_n hX d_M_set_106 rfl ?_
          refine q_imul hX d_M_set_107 ?_
          refine q_iload_n hX d_M_set_108 rfl ?_
          refine q_iadd hX d_M_set_109 ?_
          refine q_iald hX kc_107 d_M_set_110 h (fun hi14 h => ?_)
          exact q_iretW hX h hT d_M_set_111
      · refine q_aload_n hX d_M_set_53 rfl ?_
        refine q_iconst hX d_M_set_54 ic_2 ?_
        obtain ⟨u15, hc16, h⟩ := qbind h
        refine q_cVr hX (c_M_finding X.l G hX.ad f _ _ hc16) cw_M_158 rfl kc_104 rfl (Nat.le_of_ble_eq_true rfl) rfl (Nat.le_of_ble_eq_true rfl) d_M_set_55 ?_
        exact q_iretW hX h hT d_M_set_58
    · refine q_aload_n hX d_M_set_29 rfl ?_
      refine q_iconst hX d_M_set_30 ic_1 ?_
      obtain ⟨u17, hc18, h⟩ := qbind h
      refine q_cVr hX (c_M_finding X.l G hX.ad f _ _ hc18) cw_M_158 rfl kc_104 rfl (Nat.le_of_ble_eq_true rfl) rfl (Nat.le_of_ble_eq_true rfl) d_M_set_31 ?_
      exact q_iretW hX h hT d_M_set_34
  · refine q_ldc hX w_1298 d_M_set_12 ?_
    exact q_iretW hX h hT d_M_set_14
set_option maxHeartbeats 4000000 in
theorem t_M_copy_b45 {G : qG} {X : qX} (hX : qOk G X "ChantryRollsModel" prog_14_method_8_code 9 (some .int) 3) {u : Int32 × qMem} {f : Nat} {σ : qMem} (hT : qTg G X 0 0 qKS qRF u.2 (some (.int u.1))) (h : p_M_copy_b45 f    σ = some u) : qV G X 0 0 qKS qRF σ 45 [some (.ref 104), none, none, none, none, none, none, none, none] [] := by
  unfold p_M_copy_b45 at h
  refine q_aload_n hX d_M_copy_45 rfl ?_
  refine q_iconst hX d_M_copy_46 ic_1 ?_
  obtain ⟨u1, hc2, h⟩ := qbind h
  refine q_cVr hX (c_M_finding X.l G hX.ad f _ _ hc2) cw_M_158 rfl kc_104 rfl (Nat.le_of_ble_eq_true rfl) rfl (Nat.le_of_ble_eq_true rfl) d_M_copy_47 ?_
  exact q_iretW hX h hT d_M_copy_50
set_option maxHeartbeats 4000000 in
theorem t_M_copy_b121 {G : qG} {X : qX} (hX : qOk G X "ChantryRollsModel" prog_14_method_8_code 9 (some .int) 3) {u : Int32 × qMem} {f : Nat} {σ : qMem} (hT : qTg G X 0 0 qKS qRF u.2 (some (.int u.1))) (h : p_M_copy_b121 f    σ = some u) : qV G X 0 0 qKS qRF σ 121 [some (.ref 104), none, none, none, none, none, none, none, none] [] := by
  unfold p_M_copy_b121 at h
  refine q_aload_n hX d_M_copy_121 rfl ?_
  refine q_iconst hX d_M_copy_122 ic_2 ?_
  obtain ⟨u3, hc4, h⟩ := qbind h
  refine q_cVr hX (c_M_finding X.l G hX.ad f _ _ hc4) cw_M_158 rfl kc_104 rfl (Nat.le_of_ble_eq_true rfl) rfl (Nat.le_of_ble_eq_true rfl) d_M_copy_123 ?_
  exact q_iretW hX h hT d_M_copy_126
set_option maxHeartbeats 4000000 in
theorem t_M_copy_b167 {G : qG} {X : qX} (hX : qOk G X "ChantryRollsModel" prog_14_method_8_code 9 (some .int) 3) {u : Int32 × qMem} {f : Nat} {k143 : qMem → Int32 → Option (Int32 × qMem)} {σ : qMem} {x1 : Int32} {x2 : Int32} {x3 : Int32} {x4 : Int32} {x5 : Int32} {x6 : Int32} {x7 : Int32} {s0 : Int32} (hT : qTg G X 0 0 qKS qRF u.2 (some (.int u.1))) (hk143 : ∀ (σ : qMem) (x7 : Int32), k143 σ x7 = some u → qV G X 0 0 qKS qRF σ 143 [some (.ref 104), some (.int x1), some (.int x2), some (.int x3), some (.int x4), some (.int x5), some (.int x6), some (.int x7), none] []) (h : p_M_copy_b167 f   k143 σ x1 x2 x3 x4 x5 x6 x7 s0 = some u) : qV G X 0 0 qKS qRF σ 167 [some (.ref 104), some (.int x1), some (.int x2), some (.int x3), some (.int x4), some (.int x5), some (.int x6), some (.int x7), none] [(.int s0)] := by
  unfold p_M_copy_b167 at h
  refine q_istore hX d_M_copy_167 (by decide) rfl rfl ?_
  refine q_aload_n hX d_M_copy_169 rfl ?_
  refine q_getR hX fl_M_16 kc_104 (rfl : qRF 104 4 = some 107) d_M_copy_170 ?_
  refine q_bipush hX d_M_copy_173 bp_60 ?_
  refine q_iload_n hX d_M_copy_175 rfl ?_
  refine q_imul hX d_M_copy_176 ?_
  refine q_iload hX d_M_copy_177 rfl ?_
  refine q_iadd hX d_M_copy_179 ?_
  refine q_iload hX d_M_copy_180 rfl ?_
  refine q_iadd hX d_M_copy_182 ?_
  refine q_aload_n hX d_M_copy_183 rfl ?_
  refine q_getR hX fl_M_16 kc_104 (rfl : qRF 104 4 = some 107) d_M_copy_184 ?_
  refine q_bipush hX d_M_copy_187 bp_60 ?_
  refine q_iload_n hX d_M_copy_189 rfl ?_
  refine q_imul hX d_M_copy_190 ?_
  refine q_iload_n hX d_M_copy_191 rfl ?_
  refine q_iadd hX d_M_copy_192 ?_
  refine q_iload hX d_M_copy_193 rfl ?_
  refine q_iadd hX d_M_copy_195 ?_
  refine q_iald hX kc_107 d_M_copy_196 h (fun hi5 h => ?_)
  refine q_iast hX kc_107 qKS_len d_M_copy_197 h (fun hi6 h => ?_)
  refine q_iinc hX d_M_copy_198 rfl (ii_1 _) (by decide) rfl rfl ?_
  refine q_goto hX d_M_copy_201 rfl ?_
  exact q_mask [true, true, true, true, true, true, true, true, false] rfl (hk143 _ _ h)
set_option maxHeartbeats 4000000 in
theorem t_M_copy_lb143 {G : qG} {X : qX} (hX : qOk G X "ChantryRollsModel" prog_14_method_8_code 9 (some .int) 3) {u : Int32 × qMem} {f : Nat} {x1 : Int32} {x2 : Int32} {x3 : Int32} {x4 : Int32} {x5 : Int32} {x6 : Int32} (hT : qTg G X 0 0 qKS qRF u.2 (some (.int u.1))) {k143 : qMem → Int32 → Option (Int32 × qMem)} (hk143 : ∀ (σ : qMem) (x7 : Int32), k143 σ x7 = some u → qV G X 0 0 qKS qRF σ 143 [some (.ref 104), some (.int x1), some (.int x2), some (.int x3), some (.int x4), some (.int x5), some (.int x6), some (.int x7), none] []) {σ : qMem} {x7 : Int32} (h : p_M_copy_l143 f  x1 x2 x3 x4 x5 x6  k143 σ x7 = some u) : qV G X 0 0 qKS qRF σ 143 [some (.ref 104), some (.int x1), some (.int x2), some (.int x3), some (.int x4), some (.int x5), some (.int x6), some (.int x7), none] [] := by
  unfold p_M_copy_l143 at h
  refine q_iload hX d_M_copy_143 rfl ?_
  refine q_iload hX d_M_copy_145 rfl ?_
  refine q_icmp_ge hX d_M_copy_147 rfl h (fun _ h => ?_) (fun _ h => ?_)
  · refine q_iload hX d_M_copy_204 rfl ?_
    exact q_iretW hX h hT d_M_copy_206
  · refine q_iload hX d_M_copy_150 rfl ?_
    refine q_if_eq hX d_M_copy_152 rfl h (fun _ h => ?_) (fun _ h => ?_)
    · refine q_iload hX d_M_copy_160 rfl ?_
      refine q_iconst hX d_M_copy_162 ic_1 ?_
      refine q_isub hX d_M_copy_163 ?_
      refine q_iload hX d_M_copy_164 rfl ?_
      refine q_isub hX d_M_copy_166 ?_
      exact q_mask [true, true, true, true, true, true, true, true, false] rfl (t_M_copy_b167 hX hT hk143 h)
    · refine q_iload hX d_M_copy_155 rfl ?_
      refine q_goto hX d_M_copy_157 rfl ?_
      exact q_mask [true, true, true, true, true, true, true, true, false] rfl (t_M_copy_b167 hX hT hk143 h)
theorem t_M_copy_l143 {G : qG} {X : qX} (hX : qOk G X "ChantryRollsModel" prog_14_method_8_code 9 (some .int) 3) {u : Int32 × qMem} {f : Nat} {x1 : Int32} {x2 : Int32} {x3 : Int32} {x4 : Int32} {x5 : Int32} {x6 : Int32} (hT : qTg G X 0 0 qKS qRF u.2 (some (.int u.1))) : ∀ (n : Nat) (σ : qMem) (x7 : Int32), qfix2 (p_M_copy_l143 f  x1 x2 x3 x4 x5 x6 ) n σ x7 = some u → qV G X 0 0 qKS qRF σ 143 [some (.ref 104), some (.int x1), some (.int x2), some (.int x3), some (.int x4), some (.int x5), some (.int x6), some (.int x7), none] [] :=
  qfix2_ind (fun k hk _ _ h => t_M_copy_lb143 hX   hT  hk h)
set_option maxHeartbeats 4000000 in
theorem c_M_copy (l : Launch) (G : qG) (hA : qAd G) (f : Nat) (σ : qMem) (x1 : Int32) (x2 : Int32) (x3 : Int32) (x4 : Int32) (x5 : Int32) {u : Int32 × qMem} (h : p_M_copy f σ x1 x2 x3 x4 x5 = some u) : qCt l y_M_copy prog_14_method_8_code 9 (some .int) 3 G qKS qRF σ [(.ref 104), (.int x1), (.int x2), (.int x3), (.int x4), (.int x5)] (some (.int u.1)) qKS qRF u.2 0 0 := by
  refine qCt.of (lv := [some (.ref 104), some (.int x1), some (.int x2), some (.int x3), some (.int x4), some (.int x5), none, none, none]) (by decide) hA (Nat.le_of_ble_eq_true rfl) rfl ?_
  intro X hl _ _ _ hX hT
  subst hl
  unfold p_M_copy at h
  refine q_aload_n hX d_M_copy_0 rfl ?_
  refine q_iconst hX d_M_copy_1 ic_0 ?_
  refine q_putI hX fl_M_137 kc_104 rfl qKS_len d_M_copy_2 ?_
  refine q_iload_n hX d_M_copy_5 rfl ?_
  obtain ⟨u7, hc8, h⟩ := qbind h
  refine q_cSr hX (c_M_isSheet X.l G hX.ad f _ _ hc8) cw_M_151 rfl (Nat.le_of_ble_eq_true rfl) rfl (Nat.le_of_ble_eq_true rfl) d_M_copy_6 ?_
  refine q_if_eq hX d_M_copy_9 rfl h (fun _ h => ?_) (fun _ h => ?_)
  · refine q_ldc hX w_1298 d_M_copy_19 ?_
    exact q_iretW hX h hT d_M_copy_21
  · refine q_iload_n hX d_M_copy_12 rfl ?_
    obtain ⟨u9, hc10, h⟩ := qbind h
    refine q_cSr hX (c_M_isSheet X.l G hX.ad f _ _ hc10) cw_M_151 rfl (Nat.le_of_ble_eq_true rfl) rfl (Nat.le_of_ble_eq_true rfl) d_M_copy_13 ?_
    refine q_if_ne hX d_M_copy_16 rfl h (fun _ h => ?_) (fun _ h => ?_)
    · refine q_aload_n hX d_M_copy_22 rfl ?_
      refine q_iconst hX d_M_copy_23 ic_0 ?_
      refine q_putI hX fl_M_141 kc_104 rfl qKS_len d_M_copy_24 ?_
      refine q_aload_n hX d_M_copy_27 rfl ?_
      refine q_getR hX fl_M_7 kc_104 (rfl : qRF 104 2 = some 105) d_M_copy_28 ?_
      refine q_iload_n hX d_M_copy_31 rfl ?_
      refine q_iald hX kc_105 d_M_copy_32 h (fun hi11 h => ?_)
      refine q_if_lt hX d_M_copy_33 rfl h (fun _ h => ?_) (fun _ h => ?_)
      · exact q_mask [true, false, false, false, false, false, false, false, false] rfl (t_M_copy_b45 hX hT h)
      · refine q_aload_n hX d_M_copy_36 rfl ?_
        refine q_getR hX fl_M_7 kc_104 (rfl : qRF 104 2 = some 105) d_M_copy_37 ?_
        refine q_iload_n hX d_M_copy_40 rfl ?_
        refine q_iald hX kc_105 d_M_copy_41 h (fun hi12 h => ?_)
        refine q_if_ge hX d_M_copy_42 rfl h (fun _ h => ?_) (fun _ h => ?_)
        · refine q_aload_n hX d_M_copy_51 rfl ?_
          refine q_getR hX fl_M_7 kc_104 (rfl : qRF 104 2 = some 105) d_M_copy_52 ?_
          refine q_iload_n hX d_M_copy_55 rfl ?_
          refine q_iald hX kc_105 d_M_copy_56 h (fun hi13 h => ?_)
          refine q_aload_n hX d_M_copy_57 rfl ?_
          refine q_getR hX fl_M_7 kc_104 (rfl : qRF 104 2 = some 105) d_M_copy_58 ?_
          refine q_iload_n hX d_M_copy_61 rfl ?_
          refine q_iald hX kc_105 d_M_copy_62 h (fun hi14 h => ?_)
          refine q_icmp_eq hX d_M_copy_63 rfl h (fun _ h => ?_) (fun _ h => ?_)
          · refine q_iload_n hX d_M_copy_72 rfl ?_
            refine q_if_lt hX d_M_copy_73 rfl h (fun _ h => ?_) (fun _ h => ?_)
            · exact q_mask [true, false, false, false, false, false, false, false, false] rfl (t_M_copy_b121 hX hT h)
            · refine q_iload hX d_M_copy_76 rfl ?_
              refine q_if_lt hX d_M_copy_78 rfl h (fun _ h => ?_) (fun _ h => ?_)
              · exact q_mask [true, false, false, false, false, false, false, false, false] rfl (t_M_copy_b121 hX hT h)
              · refine q_iload hX d_M_copy_81 rfl ?_
                refine q_if_lt hX d_M_copy_83 rfl h (fun _ h => ?_) (fun _ h => ?_)
                · exact q_mask [true, false, false, false, false, false, false, false, false] rfl (t_M_copy_b121 hX hT h)
                · refine q_iload_n hX d_M_copy_86 rfl ?_
                  refine q_i2l hX d_M_copy_87 ?_
                  refine q_iload hX d_M_copy_88 rfl ?_
                  refine q_i2l hX d_M_copy_90 ?_
                  refine q_ladd hX d_M_copy_91 ?_
                  refine q_aload_n hX d_M_copy_92 rfl ?_
                  refine q_getR hX fl_M_13 kc_104 (rfl : qRF 104 3 = some 106) d_M_copy_93 ?_
                  refine q_iload_n hX d_M_copy_96 rfl ?_
                  refine q_iald hX kc_106 d_M_copy_97 h (fun hi15 h => ?_)
                  refine q_i2l hX d_M_copy_98 ?_
                  refine q_lcmp hX d_M_copy_99 ?_
                  refine q_if_gt hX d_M_copy_100 rfl h (fun _ h => ?_) (fun _ h => ?_)
                  · exact q_mask [true, false, false, false, false, false, false, false, false] rfl (t_M_copy_b121 hX hT h)
                  · refine q_iload hX d_M_copy_103 rfl ?_
                    refine q_i2l hX d_M_copy_105 ?_
                    refine q_iload hX d_M_copy_106 rfl ?_
                    refine q_i2l hX d_M_copy_108 ?_
                    refine q_ladd hX d_M_copy_109 ?_
                    refine q_aload_n hX d_M_copy_110 rfl ?_
                    refine q_getR hX fl_M_13 kc_104 (rfl : qRF 104 3 = some 106) d_M_copy_111 ?_
                    refine q_iload_n hX d_M_copy_114 rfl ?_
                    refine q_iald hX kc_106 d_M_copy_115 h (fun hi16 h => ?_)
                    refine q_i2l hX d_M_copy_116 ?_
                    refine q_lcmp hX d_M_copy_117 ?_
                    refine q_if_le hX d_M_copy_118 rfl h (fun _ h => ?_) (fun _ h => ?_)
                    · refine q_iload_n hX d_M_copy_127 rfl ?_
                      refine q_iload hX d_M_copy_128 rfl ?_
                      refine q_icmp_lt hX d_M_copy_130 rfl h (fun _ h => ?_) (fun _ h => ?_)
                      · refine q_iconst hX d_M_copy_137 ic_0 ?_
                        refine q_istore hX d_M_copy_138 (by decide) rfl rfl ?_
                        refine q_iconst hX d_M_copy_140 ic_0 ?_
                        refine q_istore hX d_M_copy_141 (by decide) rfl rfl ?_
                        exact q_mask [true, true, true, true, true, true, true, true, false] rfl (t_M_copy_l143 hX hT f _ _ h)
                      · refine q_iconst hX d_M_copy_133 ic_1 ?_
                        refine q_goto hX d_M_copy_134 rfl ?_
                        refine q_istore hX d_M_copy_138 (by decide) rfl rfl ?_
                        refine q_iconst hX d_M_copy_140 ic_0 ?_
                        refine q_istore hX d_M_copy_141 (by decide) rfl rfl ?_
                        exact q_mask [true, true, true, true, true, true, true, true, false] rfl (t_M_copy_l143 hX hT f _ _ h)
                    · exact q_mask [true, false, false, false, false, false, false, false, false] rfl (t_M_copy_b121 hX hT h)
          · refine q_aload_n hX d_M_copy_66 rfl ?_
            refine q_iconst hX d_M_copy_67 ic_5 ?_
            obtain ⟨u17, hc18, h⟩ := qbind h
            refine q_cVr hX (c_M_finding X.l G hX.ad f _ _ hc18) cw_M_158 rfl kc_104 rfl (Nat.le_of_ble_eq_true rfl) rfl (Nat.le_of_ble_eq_true rfl) d_M_copy_68 ?_
            exact q_iretW hX h hT d_M_copy_71
        · exact q_mask [true, false, false, false, false, false, false, false, false] rfl (t_M_copy_b45 hX hT h)
    · refine q_ldc hX w_1298 d_M_copy_19 ?_
      exact q_iretW hX h hT d_M_copy_21
set_option maxHeartbeats 4000000 in
theorem c_M_drop (l : Launch) (G : qG) (hA : qAd G) (f : Nat) (σ : qMem) (x1 : Int32) {u : Int32 × qMem} (h : p_M_drop f σ x1 = some u) : qCt l y_M_drop prog_14_method_9_code 2 (some .int) 3 G qKS qRF σ [(.ref 104), (.int x1)] (some (.int u.1)) qKS qRF u.2 0 0 := by
  refine qCt.of (lv := [some (.ref 104), some (.int x1)]) (by decide) hA (Nat.le_of_ble_eq_true rfl) rfl ?_
  intro X hl _ _ _ hX hT
  subst hl
  unfold p_M_drop at h
  refine q_aload_n hX d_M_drop_0 rfl ?_
  refine q_iconst hX d_M_drop_1 ic_0 ?_
  refine q_putI hX fl_M_137 kc_104 rfl qKS_len d_M_drop_2 ?_
  refine q_iload_n hX d_M_drop_5 rfl ?_
  obtain ⟨u1, hc2, h⟩ := qbind h
  refine q_cSr hX (c_M_isSheet X.l G hX.ad f _ _ hc2) cw_M_151 rfl (Nat.le_of_ble_eq_true rfl) rfl (Nat.le_of_ble_eq_true rfl) d_M_drop_6 ?_
  refine q_if_ne hX d_M_drop_9 rfl h (fun _ h => ?_) (fun _ h => ?_)
  · refine q_aload_n hX d_M_drop_15 rfl ?_
    refine q_iconst hX d_M_drop_16 ic_0 ?_
    refine q_putI hX fl_M_141 kc_104 rfl qKS_len d_M_drop_17 ?_
    refine q_aload_n hX d_M_drop_20 rfl ?_
    refine q_getR hX fl_M_7 kc_104 (rfl : qRF 104 2 = some 105) d_M_drop_21 ?_
    refine q_iload_n hX d_M_drop_24 rfl ?_
    refine q_iald hX kc_105 d_M_drop_25 h (fun hi3 h => ?_)
    refine q_if_ge hX d_M_drop_26 rfl h (fun _ h => ?_) (fun _ h => ?_)
    · refine q_aload_n hX d_M_drop_35 rfl ?_
      refine q_getR hX fl_M_7 kc_104 (rfl : qRF 104 2 = some 105) d_M_drop_36 ?_
      refine q_iload_n hX d_M_drop_39 rfl ?_
      refine q_iconst hX d_M_drop_40 ic_m1 ?_
      refine q_iast hX kc_105 qKS_len d_M_drop_41 h (fun hi4 h => ?_)
      refine q_aload_n hX d_M_drop_42 rfl ?_
      refine q_getR hX fl_M_13 kc_104 (rfl : qRF 104 3 = some 106) d_M_drop_43 ?_
      refine q_iload_n hX d_M_drop_46 rfl ?_
      refine q_iald hX kc_106 d_M_drop_47 h (fun hi5 h => ?_)
      exact q_iretW hX h hT d_M_drop_48
    · refine q_aload_n hX d_M_drop_29 rfl ?_
      refine q_iconst hX d_M_drop_30 ic_1 ?_
      obtain ⟨u6, hc7, h⟩ := qbind h
      refine q_cVr hX (c_M_finding X.l G hX.ad f _ _ hc7) cw_M_158 rfl kc_104 rfl (Nat.le_of_ble_eq_true rfl) rfl (Nat.le_of_ble_eq_true rfl) d_M_drop_31 ?_
      exact q_iretW hX h hT d_M_drop_34
  · refine q_ldc hX w_1298 d_M_drop_12 ?_
    exact q_iretW hX h hT d_M_drop_14
set_option maxHeartbeats 4000000 in
theorem t_M_feed_lb40 {G : qG} {X : qX} (hX : qOk G X "ChantryRollsModel" prog_14_method_14_code 5 (some .int) 2) {u : Int32 × qMem} {f : Nat} {x1 : Int64} (hT : qTg G X 0 0 qKS qRF u.2 (some (.int u.1))) {k40 : qMem → Int32 → Option (Int32 × qMem)} (hk40 : ∀ (σ : qMem) (x4 : Int32), k40 σ x4 = some u → qV G X 0 0 qKS qRF σ 40 [some (.ref 104), some (.long x1), none, none, some (.int x4)] []) {σ : qMem} {x4 : Int32} (h : p_M_feed_l40 f  x1  k40 σ x4 = some u) : qV G X 0 0 qKS qRF σ 40 [some (.ref 104), some (.long x1), none, none, some (.int x4)] [] := by
  unfold p_M_feed_l40 at h
  refine q_iload hX d_M_feed_40 rfl ?_
  refine q_if_lt hX d_M_feed_42 rfl h (fun _ h => ?_) (fun _ h => ?_)
  · refine q_aload_n hX d_M_feed_82 rfl ?_
    refine q_getI hX fl_M_169 kc_104 d_M_feed_83 ?_
    exact q_iretW hX h hT d_M_feed_86
  · refine q_aload_n hX d_M_feed_45 rfl ?_
    refine q_getR hX fl_M_22 kc_104 (rfl : qRF 104 7 = some 109) d_M_feed_46 ?_
    refine q_aload_n hX d_M_feed_49 rfl ?_
    refine q_getI hX fl_M_169 kc_104 d_M_feed_50 ?_
    refine q_lload_n hX d_M_feed_53 rfl ?_
    refine q_bipush hX d_M_feed_54 bp_8 ?_
    refine q_iload hX d_M_feed_56 rfl ?_
    refine q_imul hX d_M_feed_58 ?_
    refine q_lshr hX d_M_feed_59 ?_
    refine q_ldc2 hX w_1322 d_M_feed_60 ?_
    refine q_land hX d_M_feed_63 ?_
    refine q_l2i hX d_M_feed_64 ?_
    refine q_iast hX kc_109 qKS_len d_M_feed_65 h (fun hi1 h => ?_)
    refine q_aload_n hX d_M_feed_66 rfl ?_
    refine q_dup hX rfl d_M_feed_67 ?_
    refine q_getI hX fl_M_169 kc_104 d_M_feed_68 ?_
    refine q_iconst hX d_M_feed_71 ic_1 ?_
    refine q_iadd hX d_M_feed_72 ?_
    refine q_putI hX fl_M_169 kc_104 rfl qKS_len d_M_feed_73 ?_
    refine q_iinc hX d_M_feed_76 rfl (ii_m1 _) (by decide) rfl rfl ?_
    refine q_goto hX d_M_feed_79 rfl ?_
    exact q_mask [true, true, false, false, true] rfl (hk40 _ _ h)
theorem t_M_feed_l40 {G : qG} {X : qX} (hX : qOk G X "ChantryRollsModel" prog_14_method_14_code 5 (some .int) 2) {u : Int32 × qMem} {f : Nat} {x1 : Int64} (hT : qTg G X 0 0 qKS qRF u.2 (some (.int u.1))) : ∀ (n : Nat) (σ : qMem) (x4 : Int32), qfix2 (p_M_feed_l40 f  x1 ) n σ x4 = some u → qV G X 0 0 qKS qRF σ 40 [some (.ref 104), some (.long x1), none, none, some (.int x4)] [] :=
  qfix2_ind (fun k hk _ _ h => t_M_feed_lb40 hX   hT  hk h)
set_option maxHeartbeats 4000000 in
theorem c_M_feed (l : Launch) (G : qG) (hA : qAd G) (f : Nat) (σ : qMem) (x1 : Int64) (x3 : Int32) {u : Int32 × qMem} (h : p_M_feed f σ x1 x3 = some u) : qCt l y_M_feed prog_14_method_14_code 5 (some .int) 2 G qKS qRF σ [(.ref 104), (.long x1), (.int x3)] (some (.int u.1)) qKS qRF u.2 0 0 := by
  refine qCt.of (lv := [some (.ref 104), some (.long x1), none, some (.int x3), none]) (by decide) hA (Nat.le_of_ble_eq_true rfl) rfl ?_
  intro X hl _ _ _ hX hT
  subst hl
  unfold p_M_feed at h
  refine q_aload_n hX d_M_feed_0 rfl ?_
  refine q_iconst hX d_M_feed_1 ic_0 ?_
  refine q_putI hX fl_M_137 kc_104 rfl qKS_len d_M_feed_2 ?_
  refine q_iload_n hX d_M_feed_5 rfl ?_
  refine q_i2l hX d_M_feed_6 ?_
  refine q_lconst hX d_M_feed_7 lc_1 ?_
  refine q_ldc2 hX w_1320 d_M_feed_8 ?_
  obtain ⟨u2, hc3, h⟩ := qbind h
  refine q_cSr hX (c_M_in X.l G hX.ad f _ _ _ _ hc3) cw_M_147 rfl (Nat.le_of_ble_eq_true rfl) rfl (Nat.le_of_ble_eq_true rfl) d_M_feed_11 ?_
  refine q_if_ne hX d_M_feed_14 rfl h (fun _ h => ?_) (fun _ h => ?_)
  · refine q_aload_n hX d_M_feed_20 rfl ?_
    refine q_getI hX fl_M_169 kc_104 d_M_feed_21 ?_
    refine q_iload_n hX d_M_feed_24 rfl ?_
    refine q_iadd hX d_M_feed_25 ?_
    refine q_sipush hX d_M_feed_26 sp_500 ?_
    refine q_icmp_le hX d_M_feed_29 rfl h (fun _ h => ?_) (fun _ h => ?_)
    · refine q_iload_n hX d_M_feed_35 rfl ?_
      refine q_iconst hX d_M_feed_36 ic_1 ?_
      refine q_isub hX d_M_feed_37 ?_
      refine q_istore hX d_M_feed_38 (by decide) rfl rfl ?_
      exact q_mask [true, true, false, false, true] rfl (t_M_feed_l40 hX hT f _ _ h)
    · refine q_ldc hX w_1321 d_M_feed_32 ?_
      exact q_iretW hX h hT d_M_feed_34
  · refine q_ldc hX w_1298 d_M_feed_17 ?_
    exact q_iretW hX h hT d_M_feed_19
set_option maxHeartbeats 4000000 in
theorem c_M_byteAt (l : Launch) (G : qG) (hA : qAd G) (f : Nat) (σ : qMem) (x1 : Int32) {u : Int32} (h : p_M_byteAt f σ x1 = some u) : qCt l y_M_byteAt prog_14_method_15_code 2 (some .int) 1 G qKS qRF σ [(.ref 104), (.int x1)] (some (.int u)) qKS qRF σ 0 0 := by
  refine qCt.of (lv := [some (.ref 104), some (.int x1)]) (by decide) hA (Nat.le_of_ble_eq_true rfl) rfl ?_
  intro X hl _ _ _ hX hT
  subst hl
  unfold p_M_byteAt at h
  refine q_iload_n hX d_M_byteAt_0 rfl ?_
  refine q_aload_n hX d_M_byteAt_1 rfl ?_
  refine q_getI hX fl_M_175 kc_104 d_M_byteAt_2 ?_
  refine q_icmp_ge hX d_M_byteAt_5 rfl h (fun _ h => ?_) (fun _ h => ?_)
  · refine q_ldc hX w_1335 d_M_byteAt_17 ?_
    exact q_iretR hX h hT d_M_byteAt_19
  · refine q_aload_n hX d_M_byteAt_8 rfl ?_
    refine q_getR hX fl_M_22 kc_104 (rfl : qRF 104 7 = some 109) d_M_byteAt_9 ?_
    refine q_iload_n hX d_M_byteAt_12 rfl ?_
    refine q_iald hX kc_109 d_M_byteAt_13 h (fun hi1 h => ?_)
    refine q_goto hX d_M_byteAt_14 rfl ?_
    exact q_iretR hX h hT d_M_byteAt_19
set_option maxHeartbeats 4000000 in
theorem c_M_isLetter (l : Launch) (G : qG) (hA : qAd G) (f : Nat) (σ : qMem) (x0 : Int32) {u : Int32} (h : p_M_isLetter f σ x0 = some u) : qCt l y_M_isLetter prog_14_method_16_code 1 (some .boolean) 1 G qKS qRF σ [(.int x0)] (some (.int u)) qKS qRF σ 0 0 := by
  refine qCt.of (lv := [some (.int x0)]) (by decide) hA (Nat.le_of_ble_eq_true rfl) rfl ?_
  intro X hl _ _ _ hX hT
  subst hl
  unfold p_M_isLetter at h
  refine q_iload_n hX d_M_isLetter_0 rfl ?_
  refine q_bipush hX d_M_isLetter_1 bp_97 ?_
  refine q_icmp_lt hX d_M_isLetter_3 rfl h (fun _ h => ?_) (fun _ h => ?_)
  · refine q_iconst hX d_M_isLetter_16 ic_0 ?_
    exact q_zretR hX zn_0 h hT d_M_isLetter_17
  · refine q_iload_n hX d_M_isLetter_6 rfl ?_
    refine q_bipush hX d_M_isLetter_7 bp_122 ?_
    refine q_icmp_gt hX d_M_isLetter_9 rfl h (fun _ h => ?_) (fun _ h => ?_)
    · refine q_iconst hX d_M_isLetter_16 ic_0 ?_
      exact q_zretR hX zn_0 h hT d_M_isLetter_17
    · refine q_iconst hX d_M_isLetter_12 ic_1 ?_
      refine q_goto hX d_M_isLetter_13 rfl ?_
      exact q_zretR hX zn_1 h hT d_M_isLetter_17
set_option maxHeartbeats 4000000 in
theorem c_M_isFigure (l : Launch) (G : qG) (hA : qAd G) (f : Nat) (σ : qMem) (x0 : Int32) {u : Int32} (h : p_M_isFigure f σ x0 = some u) : qCt l y_M_isFigure prog_14_method_17_code 1 (some .boolean) 1 G qKS qRF σ [(.int x0)] (some (.int u)) qKS qRF σ 0 0 := by
  refine qCt.of (lv := [some (.int x0)]) (by decide) hA (Nat.le_of_ble_eq_true rfl) rfl ?_
  intro X hl _ _ _ hX hT
  subst hl
  unfold p_M_isFigure at h
  refine q_iload_n hX d_M_isFigure_0 rfl ?_
  refine q_bipush hX d_M_isFigure_1 bp_48 ?_
  refine q_icmp_lt hX d_M_isFigure_3 rfl h (fun _ h => ?_) (fun _ h => ?_)
  · refine q_iconst hX d_M_isFigure_16 ic_0 ?_
    exact q_zretR hX zn_0 h hT d_M_isFigure_17
  · refine q_iload_n hX d_M_isFigure_6 rfl ?_
    refine q_bipush hX d_M_isFigure_7 bp_57 ?_
    refine q_icmp_gt hX d_M_isFigure_9 rfl h (fun _ h => ?_) (fun _ h => ?_)
    · refine q_iconst hX d_M_isFigure_16 ic_0 ?_
      exact q_zretR hX zn_0 h hT d_M_isFigure_17
    · refine q_iconst hX d_M_isFigure_12 ic_1 ?_
      refine q_goto hX d_M_isFigure_13 rfl ?_
      exact q_zretR hX zn_1 h hT d_M_isFigure_17
set_option maxHeartbeats 4000000 in
theorem t_M_step_lb77 {G : qG} {X : qX} (hX : qOk G X "ChantryRollsModel" prog_14_method_18_code 2 none 2) {u : qMem} {f : Nat} (hT : qTg G X 0 0 qKS qRF u none) {k77 : qMem → Option (qMem)} (hk77 : ∀ (σ : qMem), k77 σ = some u → qV G X 0 0 qKS qRF σ 77 [some (.ref 104), none] []) {σ : qMem} (h : p_M_step_l77 f    k77 σ = some u) : qV G X 0 0 qKS qRF σ 77 [some (.ref 104), none] [] := by
  unfold p_M_step_l77 at h
  refine q_aload_n hX d_M_step_77 rfl ?_
  refine q_aload_n hX d_M_step_78 rfl ?_
  refine q_getI hX fl_M_179 kc_104 d_M_step_79 ?_
  obtain ⟨u1, hc2, h⟩ := qbind h
  refine q_cVr hX (c_M_byteAt X.l G hX.ad f _ _ hc2) cw_M_182 rfl kc_104 rfl (Nat.le_of_ble_eq_true rfl) rfl (Nat.le_of_ble_eq_true rfl) d_M_step_82 ?_
  obtain ⟨u3, hc4, h⟩ := qbind h
  refine q_cSr hX (c_M_isLetter X.l G hX.ad f _ _ hc4) cw_M_191 rfl (Nat.le_of_ble_eq_true rfl) rfl (Nat.le_of_ble_eq_true rfl) d_M_step_85 ?_
  refine q_if_eq hX d_M_step_88 rfl h (fun _ h => ?_) (fun _ h => ?_)
  · refine q_aload_n hX d_M_step_104 rfl ?_
    refine q_iconst hX d_M_step_105 ic_2 ?_
    refine q_putI hX fl_M_188 kc_104 rfl qKS_len d_M_step_106 ?_
    refine q_goto hX d_M_step_109 rfl ?_
    refine q_aload_n hX d_M_step_196 rfl ?_
    refine q_aload_n hX d_M_step_197 rfl ?_
    refine q_getI hX fl_M_179 kc_104 d_M_step_198 ?_
    refine q_putI hX fl_M_197 kc_104 rfl qKS_len d_M_step_201 ?_
    exact q_vretW hX h hT d_M_step_204
  · refine q_aload_n hX d_M_step_91 rfl ?_
    refine q_dup hX rfl d_M_step_92 ?_
    refine q_getI hX fl_M_179 kc_104 d_M_step_93 ?_
    refine q_iconst hX d_M_step_96 ic_1 ?_
    refine q_iadd hX d_M_step_97 ?_
    refine q_putI hX fl_M_179 kc_104 rfl qKS_len d_M_step_98 ?_
    refine q_goto hX d_M_step_101 rfl ?_
    exact q_mask [true, false] rfl (hk77 _ h)
theorem t_M_step_l77 {G : qG} {X : qX} (hX : qOk G X "ChantryRollsModel" prog_14_method_18_code 2 none 2) {u : qMem} {f : Nat} (hT : qTg G X 0 0 qKS qRF u none) : ∀ (n : Nat) (σ : qMem), qfix1 (p_M_step_l77 f   ) n σ = some u → qV G X 0 0 qKS qRF σ 77 [some (.ref 104), none] [] :=
  qfix1_ind (fun k hk _ h => t_M_step_lb77 hX   hT  hk h)
set_option maxHeartbeats 4000000 in
theorem t_M_step_lb119 {G : qG} {X : qX} (hX : qOk G X "ChantryRollsModel" prog_14_method_18_code 2 none 2) {u : qMem} {f : Nat} (hT : qTg G X 0 0 qKS qRF u none) {k119 : qMem → Option (qMem)} (hk119 : ∀ (σ : qMem), k119 σ = some u → qV G X 0 0 qKS qRF σ 119 [some (.ref 104), none] []) {σ : qMem} (h : p_M_step_l119 f    k119 σ = some u) : qV G X 0 0 qKS qRF σ 119 [some (.ref 104), none] [] := by
  unfold p_M_step_l119 at h
  refine q_aload_n hX d_M_step_119 rfl ?_
  refine q_aload_n hX d_M_step_120 rfl ?_
  refine q_getI hX fl_M_179 kc_104 d_M_step_121 ?_
  obtain ⟨u5, hc6, h⟩ := qbind h
  refine q_cVr hX (c_M_byteAt X.l G hX.ad f _ _ hc6) cw_M_182 rfl kc_104 rfl (Nat.le_of_ble_eq_true rfl) rfl (Nat.le_of_ble_eq_true rfl) d_M_step_124 ?_
  obtain ⟨u7, hc8, h⟩ := qbind h
  refine q_cSr hX (c_M_isFigure X.l G hX.ad f _ _ hc8) cw_M_194 rfl (Nat.le_of_ble_eq_true rfl) rfl (Nat.le_of_ble_eq_true rfl) d_M_step_127 ?_
  refine q_if_eq hX d_M_step_130 rfl h (fun _ h => ?_) (fun _ h => ?_)
  · refine q_aload_n hX d_M_step_146 rfl ?_
    refine q_aload_n hX d_M_step_147 rfl ?_
    refine q_getI hX fl_M_179 kc_104 d_M_step_148 ?_
    refine q_aload_n hX d_M_step_151 rfl ?_
    refine q_getI hX fl_M_185 kc_104 d_M_step_152 ?_
    refine q_isub hX d_M_step_155 ?_
    refine q_iconst hX d_M_step_156 ic_5 ?_
    refine q_icmp_le hX d_M_step_157 rfl h (fun _ h => ?_) (fun _ h => ?_)
    · refine q_iconst hX d_M_step_164 ic_3 ?_
      refine q_putI hX fl_M_188 kc_104 rfl qKS_len d_M_step_165 ?_
      refine q_goto hX d_M_step_168 rfl ?_
      refine q_aload_n hX d_M_step_196 rfl ?_
      refine q_aload_n hX d_M_step_197 rfl ?_
      refine q_getI hX fl_M_179 kc_104 d_M_step_198 ?_
      refine q_putI hX fl_M_197 kc_104 rfl qKS_len d_M_step_201 ?_
      exact q_vretW hX h hT d_M_step_204
    · refine q_iconst hX d_M_step_160 ic_0 ?_
      refine q_goto hX d_M_step_161 rfl ?_
      refine q_putI hX fl_M_188 kc_104 rfl qKS_len d_M_step_165 ?_
      refine q_goto hX d_M_step_168 rfl ?_
      refine q_aload_n hX d_M_step_196 rfl ?_
      refine q_aload_n hX d_M_step_197 rfl ?_
      refine q_getI hX fl_M_179 kc_104 d_M_step_198 ?_
      refine q_putI hX fl_M_197 kc_104 rfl qKS_len d_M_step_201 ?_
      exact q_vretW hX h hT d_M_step_204
  · refine q_aload_n hX d_M_step_133 rfl ?_
    refine q_dup hX rfl d_M_step_134 ?_
    refine q_getI hX fl_M_179 kc_104 d_M_step_135 ?_
    refine q_iconst hX d_M_step_138 ic_1 ?_
    refine q_iadd hX d_M_step_139 ?_
    refine q_putI hX fl_M_179 kc_104 rfl qKS_len d_M_step_140 ?_
    refine q_goto hX d_M_step_143 rfl ?_
    exact q_mask [true, false] rfl (hk119 _ h)
theorem t_M_step_l119 {G : qG} {X : qX} (hX : qOk G X "ChantryRollsModel" prog_14_method_18_code 2 none 2) {u : qMem} {f : Nat} (hT : qTg G X 0 0 qKS qRF u none) : ∀ (n : Nat) (σ : qMem), qfix1 (p_M_step_l119 f   ) n σ = some u → qV G X 0 0 qKS qRF σ 119 [some (.ref 104), none] [] :=
  qfix1_ind (fun k hk _ h => t_M_step_lb119 hX   hT  hk h)
set_option maxHeartbeats 4000000 in
theorem t_M_step_lb0 {G : qG} {X : qX} (hX : qOk G X "ChantryRollsModel" prog_14_method_18_code 2 none 2) {u : qMem} {f : Nat} (hT : qTg G X 0 0 qKS qRF u none) {k0 : qMem → Option (qMem)} (hk0 : ∀ (σ : qMem), k0 σ = some u → qV G X 0 0 qKS qRF σ 0 [some (.ref 104), none] []) {σ : qMem} (h : p_M_step_l0 f    k0 σ = some u) : qV G X 0 0 qKS qRF σ 0 [some (.ref 104), none] [] := by
  unfold p_M_step_l0 at h
  refine q_aload_n hX d_M_step_0 rfl ?_
  refine q_aload_n hX d_M_step_1 rfl ?_
  refine q_getI hX fl_M_179 kc_104 d_M_step_2 ?_
  obtain ⟨u9, hc10, h⟩ := qbind h
  refine q_cVr hX (c_M_byteAt X.l G hX.ad f _ _ hc10) cw_M_182 rfl kc_104 rfl (Nat.le_of_ble_eq_true rfl) rfl (Nat.le_of_ble_eq_true rfl) d_M_step_5 ?_
  refine q_bipush hX d_M_step_8 bp_32 ?_
  refine q_icmp_eq hX d_M_step_10 rfl h (fun _ h => ?_) (fun _ h => ?_)
  · refine q_aload_n hX d_M_step_26 rfl ?_
    refine q_dup hX rfl d_M_step_27 ?_
    refine q_getI hX fl_M_179 kc_104 d_M_step_28 ?_
    refine q_iconst hX d_M_step_31 ic_1 ?_
    refine q_iadd hX d_M_step_32 ?_
    refine q_putI hX fl_M_179 kc_104 rfl qKS_len d_M_step_33 ?_
    refine q_goto hX d_M_step_36 rfl ?_
    exact q_mask [true, false] rfl (hk0 _ h)
  · refine q_aload_n hX d_M_step_13 rfl ?_
    refine q_aload_n hX d_M_step_14 rfl ?_
    refine q_getI hX fl_M_179 kc_104 d_M_step_15 ?_
    obtain ⟨u11, hc12, h⟩ := qbind h
    refine q_cVr hX (c_M_byteAt X.l G hX.ad f _ _ hc12) cw_M_182 rfl kc_104 rfl (Nat.le_of_ble_eq_true rfl) rfl (Nat.le_of_ble_eq_true rfl) d_M_step_18 ?_
    refine q_bipush hX d_M_step_21 bp_10 ?_
    refine q_icmp_ne hX d_M_step_23 rfl h (fun _ h => ?_) (fun _ h => ?_)
    · refine q_aload_n hX d_M_step_39 rfl ?_
      refine q_aload_n hX d_M_step_40 rfl ?_
      refine q_getI hX fl_M_179 kc_104 d_M_step_41 ?_
      refine q_putI hX fl_M_185 kc_104 rfl qKS_len d_M_step_44 ?_
      refine q_aload_n hX d_M_step_47 rfl ?_
      refine q_aload_n hX d_M_step_48 rfl ?_
      refine q_getI hX fl_M_179 kc_104 d_M_step_49 ?_
      obtain ⟨u13, hc14, h⟩ := qbind h
      refine q_cVr hX (c_M_byteAt X.l G hX.ad f _ _ hc14) cw_M_182 rfl kc_104 rfl (Nat.le_of_ble_eq_true rfl) rfl (Nat.le_of_ble_eq_true rfl) d_M_step_52 ?_
      refine q_istore_n hX d_M_step_55 (by decide) rfl rfl ?_
      refine q_iload_n hX d_M_step_56 rfl ?_
      refine q_ldc hX w_1335 d_M_step_57 ?_
      refine q_icmp_ne hX d_M_step_59 rfl h (fun _ h => ?_) (fun _ h => ?_)
      · refine q_iload_n hX d_M_step_70 rfl ?_
        obtain ⟨u15, hc16, h⟩ := qbind h
        refine q_cSr hX (c_M_isLetter X.l G hX.ad f _ _ hc16) cw_M_191 rfl (Nat.le_of_ble_eq_true rfl) rfl (Nat.le_of_ble_eq_true rfl) d_M_step_71 ?_
        refine q_if_eq hX d_M_step_74 rfl h (fun _ h => ?_) (fun _ h => ?_)
        · refine q_iload_n hX d_M_step_112 rfl ?_
          obtain ⟨u17, hc18, h⟩ := qbind h
          refine q_cSr hX (c_M_isFigure X.l G hX.ad f _ _ hc18) cw_M_194 rfl (Nat.le_of_ble_eq_true rfl) rfl (Nat.le_of_ble_eq_true rfl) d_M_step_113 ?_
          refine q_if_eq hX d_M_step_116 rfl h (fun _ h => ?_) (fun _ h => ?_)
          · refine q_aload_n hX d_M_step_171 rfl ?_
            refine q_dup hX rfl d_M_step_172 ?_
            refine q_getI hX fl_M_179 kc_104 d_M_step_173 ?_
            refine q_iconst hX d_M_step_176 ic_1 ?_
            refine q_iadd hX d_M_step_177 ?_
            refine q_putI hX fl_M_179 kc_104 rfl qKS_len d_M_step_178 ?_
            refine q_aload_n hX d_M_step_181 rfl ?_
            refine q_iload_n hX d_M_step_182 rfl ?_
            refine q_bipush hX d_M_step_183 bp_59 ?_
            refine q_icmp_ne hX d_M_step_185 rfl h (fun _ h => ?_) (fun _ h => ?_)
            · refine q_iconst hX d_M_step_192 ic_0 ?_
              refine q_putI hX fl_M_188 kc_104 rfl qKS_len d_M_step_193 ?_
              refine q_aload_n hX d_M_step_196 rfl ?_
              refine q_aload_n hX d_M_step_197 rfl ?_
              refine q_getI hX fl_M_179 kc_104 d_M_step_198 ?_
              refine q_putI hX fl_M_197 kc_104 rfl qKS_len d_M_step_201 ?_
              exact q_vretW hX h hT d_M_step_204
            · refine q_iconst hX d_M_step_188 ic_4 ?_
              refine q_goto hX d_M_step_189 rfl ?_
              refine q_putI hX fl_M_188 kc_104 rfl qKS_len d_M_step_193 ?_
              refine q_aload_n hX d_M_step_196 rfl ?_
              refine q_aload_n hX d_M_step_197 rfl ?_
              refine q_getI hX fl_M_179 kc_104 d_M_step_198 ?_
              refine q_putI hX fl_M_197 kc_104 rfl qKS_len d_M_step_201 ?_
              exact q_vretW hX h hT d_M_step_204
          · exact q_mask [true, false] rfl (t_M_step_l119 hX hT f _ h)
        · exact q_mask [true, false] rfl (t_M_step_l77 hX hT f _ h)
      · refine q_aload_n hX d_M_step_62 rfl ?_
        refine q_iconst hX d_M_step_63 ic_1 ?_
        refine q_putI hX fl_M_188 kc_104 rfl qKS_len d_M_step_64 ?_
        refine q_goto hX d_M_step_67 rfl ?_
        refine q_aload_n hX d_M_step_196 rfl ?_
        refine q_aload_n hX d_M_step_197 rfl ?_
        refine q_getI hX fl_M_179 kc_104 d_M_step_198 ?_
        refine q_putI hX fl_M_197 kc_104 rfl qKS_len d_M_step_201 ?_
        exact q_vretW hX h hT d_M_step_204
    · refine q_aload_n hX d_M_step_26 rfl ?_
      refine q_dup hX rfl d_M_step_27 ?_
      refine q_getI hX fl_M_179 kc_104 d_M_step_28 ?_
      refine q_iconst hX d_M_step_31 ic_1 ?_
      refine q_iadd hX d_M_step_32 ?_
      refine q_putI hX fl_M_179 kc_104 rfl qKS_len d_M_step_33 ?_
      refine q_goto hX d_M_step_36 rfl ?_
      exact q_mask [true, false] rfl (hk0 _ h)
theorem t_M_step_l0 {G : qG} {X : qX} (hX : qOk G X "ChantryRollsModel" prog_14_method_18_code 2 none 2) {u : qMem} {f : Nat} (hT : qTg G X 0 0 qKS qRF u none) : ∀ (n : Nat) (σ : qMem), qfix1 (p_M_step_l0 f   ) n σ = some u → qV G X 0 0 qKS qRF σ 0 [some (.ref 104), none] [] :=
  qfix1_ind (fun k hk _ h => t_M_step_lb0 hX   hT  hk h)
set_option maxHeartbeats 4000000 in
theorem c_M_step (l : Launch) (G : qG) (hA : qAd G) (f : Nat) (σ : qMem) {u : qMem} (h : p_M_step f σ  = some u) : qCt l y_M_step prog_14_method_18_code 2 none 2 G qKS qRF σ [(.ref 104)] none qKS qRF u 0 0 := by
  refine qCt.of (lv := [some (.ref 104), none]) (by decide) hA (Nat.le_of_ble_eq_true rfl) rfl ?_
  intro X hl _ _ _ hX hT
  subst hl
  unfold p_M_step at h
  exact q_mask [true, false] rfl (t_M_step_l0 hX hT f _ h)
set_option maxHeartbeats 4000000 in
theorem t_M_word_lb7 {G : qG} {X : qX} (hX : qOk G X "ChantryRollsModel" prog_14_method_21_code 4 (some .long) 1) {u : Int64} {f : Nat} {σ : qMem} (hT : qTg G X 0 0 qKS qRF σ (some (.long u))) {k7 : Int64 → Int32 → Option (Int64)} (hk7 : ∀ (x1 : Int64) (x3 : Int32), k7 x1 x3 = some u → qV G X 0 0 qKS qRF σ 7 [some (.ref 104), some (.long x1), none, some (.int x3)] []) {x1 : Int64} {x3 : Int32} (h : p_M_word_l7 f  σ  k7 x1 x3 = some u) : qV G X 0 0 qKS qRF σ 7 [some (.ref 104), some (.long x1), none, some (.int x3)] [] := by
  unfold p_M_word_l7 at h
  refine q_iload_n hX d_M_word_7 rfl ?_
  refine q_aload_n hX d_M_word_8 rfl ?_
  refine q_getI hX fl_M_197 kc_104 d_M_word_9 ?_
  refine q_icmp_ge hX d_M_word_12 rfl h (fun _ h => ?_) (fun _ h => ?_)
  · refine q_lload_n hX d_M_word_56 rfl ?_
    exact q_lretR hX h hT d_M_word_57
  · refine q_aload_n hX d_M_word_15 rfl ?_
    refine q_getI hX fl_M_188 kc_104 d_M_word_16 ?_
    refine q_iconst hX d_M_word_19 ic_2 ?_
    refine q_icmp_ne hX d_M_word_20 rfl h (fun _ h => ?_) (fun _ h => ?_)
    · refine q_lload_n hX d_M_word_56 rfl ?_
      exact q_lretR hX h hT d_M_word_57
    · refine q_aload_n hX d_M_word_23 rfl ?_
      refine q_getI hX fl_M_197 kc_104 d_M_word_24 ?_
      refine q_aload_n hX d_M_word_27 rfl ?_
      refine q_getI hX fl_M_185 kc_104 d_M_word_28 ?_
      refine q_isub hX d_M_word_31 ?_
      refine q_bipush hX d_M_word_32 bp_8 ?_
      refine q_icmp_ge hX d_M_word_34 rfl h (fun _ h => ?_) (fun _ h => ?_)
      · refine q_lload_n hX d_M_word_56 rfl ?_
        exact q_lretR hX h hT d_M_word_57
      · refine q_lload_n hX d_M_word_37 rfl ?_
        refine q_bipush hX d_M_word_38 bp_8 ?_
        refine q_lshl hX d_M_word_40 ?_
        refine q_aload_n hX d_M_word_41 rfl ?_
        refine q_getR hX fl_M_22 kc_104 (rfl : qRF 104 7 = some 109) d_M_word_42 ?_
        refine q_iload_n hX d_M_word_45 rfl ?_
        refine q_iald hX kc_109 d_M_word_46 h (fun hi1 h => ?_)
        refine q_i2l hX d_M_word_47 ?_
        refine q_lor hX d_M_word_48 ?_
        refine q_lstore_n hX d_M_word_49 (by decide) rfl rfl ?_
        refine q_iinc hX d_M_word_50 rfl (ii_1 _) (by decide) rfl rfl ?_
        refine q_goto hX d_M_word_53 rfl ?_
        exact q_mask [true, true, false, true] rfl (hk7 _ _ h)
theorem t_M_word_l7 {G : qG} {X : qX} (hX : qOk G X "ChantryRollsModel" prog_14_method_21_code 4 (some .long) 1) {u : Int64} {f : Nat} {σ : qMem} (hT : qTg G X 0 0 qKS qRF σ (some (.long u))) : ∀ (n : Nat) (x1 : Int64) (x3 : Int32), qfix2 (p_M_word_l7 f  σ ) n x1 x3 = some u → qV G X 0 0 qKS qRF σ 7 [some (.ref 104), some (.long x1), none, some (.int x3)] [] :=
  qfix2_ind (fun k hk _ _ h => t_M_word_lb7 hX   hT  hk h)
set_option maxHeartbeats 4000000 in
theorem c_M_word (l : Launch) (G : qG) (hA : qAd G) (f : Nat) (σ : qMem) {u : Int64} (h : p_M_word f σ  = some u) : qCt l y_M_word prog_14_method_21_code 4 (some .long) 1 G qKS qRF σ [(.ref 104)] (some (.long u)) qKS qRF σ 0 0 := by
  refine qCt.of (lv := [some (.ref 104), none, none, none]) (by decide) hA (Nat.le_of_ble_eq_true rfl) rfl ?_
  intro X hl _ _ _ hX hT
  subst hl
  unfold p_M_word at h
  refine q_lconst hX d_M_word_0 lc_0 ?_
  refine q_lstore_n hX d_M_word_1 (by decide) rfl rfl ?_
  refine q_aload_n hX d_M_word_2 rfl ?_
  refine q_getI hX fl_M_185 kc_104 d_M_word_3 ?_
  refine q_istore_n hX d_M_word_6 (by decide) rfl rfl ?_
  exact q_mask [true, true, false, true] rfl (t_M_word_l7 hX hT f _ _ h)
set_option maxHeartbeats 4000000 in
theorem c_M_bad (l : Launch) (G : qG) (hA : qAd G) (f : Nat) (σ : qMem) (x1 : Int32) {u : qMem} (h : p_M_bad f σ x1 = some u) : qCt l y_M_bad prog_14_method_19_code 2 none 1 G qKS qRF σ [(.ref 104), (.int x1)] none qKS qRF u 0 0 := by
  refine qCt.of (lv := [some (.ref 104), some (.int x1)]) (by decide) hA (Nat.le_of_ble_eq_true rfl) rfl ?_
  intro X hl _ _ _ hX hT
  subst hl
  unfold p_M_bad at h
  refine q_aload_n hX d_M_bad_0 rfl ?_
  refine q_getI hX fl_M_200 kc_104 d_M_bad_1 ?_
  refine q_if_ne hX d_M_bad_4 rfl h (fun _ h => ?_) (fun _ h => ?_)
  · exact q_vretW hX h hT d_M_bad_20
  · refine q_aload_n hX d_M_bad_7 rfl ?_
    refine q_iload_n hX d_M_bad_8 rfl ?_
    refine q_putI hX fl_M_200 kc_104 rfl qKS_len d_M_bad_9 ?_
    refine q_aload_n hX d_M_bad_12 rfl ?_
    refine q_aload_n hX d_M_bad_13 rfl ?_
    refine q_getI hX fl_M_185 kc_104 d_M_bad_14 ?_
    refine q_putI hX fl_M_203 kc_104 rfl qKS_len d_M_bad_17 ?_
    exact q_vretW hX h hT d_M_bad_20
set_option maxHeartbeats 4000000 in
theorem t_M_need_b9 {G : qG} {X : qX} (hX : qOk G X "ChantryRollsModel" prog_14_method_20_code 2 none 3) {u : qMem} {f : Nat} {σ : qMem} (hT : qTg G X 0 0 qKS qRF u none) (h : p_M_need_b9 f    σ = some u) : qV G X 0 0 qKS qRF σ 9 [some (.ref 104), none] [] := by
  unfold p_M_need_b9 at h
  refine q_aload_n hX d_M_need_9 rfl ?_
  refine q_getI hX fl_M_200 kc_104 d_M_need_10 ?_
  refine q_if_ne hX d_M_need_13 rfl h (fun _ h => ?_) (fun _ h => ?_)
  · exact q_vretW hX h hT d_M_need_20
  · refine q_aload_n hX d_M_need_16 rfl ?_
    obtain ⟨u1, hc2, h⟩ := qbind h
    refine q_cVv hX (c_M_step X.l G hX.ad f _  hc2) cw_M_210 rfl kc_104 rfl (Nat.le_of_ble_eq_true rfl) rfl (Nat.le_of_ble_eq_true rfl) d_M_need_17 ?_
    exact q_vretW hX h hT d_M_need_20
set_option maxHeartbeats 4000000 in
theorem c_M_need (l : Launch) (G : qG) (hA : qAd G) (f : Nat) (σ : qMem) (x1 : Int32) {u : qMem} (h : p_M_need f σ x1 = some u) : qCt l y_M_need prog_14_method_20_code 2 none 3 G qKS qRF σ [(.ref 104), (.int x1)] none qKS qRF u 0 0 := by
  refine qCt.of (lv := [some (.ref 104), some (.int x1)]) (by decide) hA (Nat.le_of_ble_eq_true rfl) rfl ?_
  intro X hl _ _ _ hX hT
  subst hl
  unfold p_M_need at h
  refine q_iload_n hX d_M_need_0 rfl ?_
  refine q_if_ne hX d_M_need_1 rfl h (fun _ h => ?_) (fun _ h => ?_)
  · exact q_mask [true, false] rfl (t_M_need_b9 hX hT h)
  · refine q_aload_n hX d_M_need_4 rfl ?_
    refine q_iconst hX d_M_need_5 ic_1 ?_
    obtain ⟨u3, hc4, h⟩ := qbind h
    refine q_cVv hX (c_M_bad X.l G hX.ad f _ _ hc4) cw_M_206 rfl kc_104 rfl (Nat.le_of_ble_eq_true rfl) rfl (Nat.le_of_ble_eq_true rfl) d_M_need_6 ?_
    exact q_mask [true, false] rfl (t_M_need_b9 hX hT h)
set_option maxHeartbeats 4000000 in
theorem c_M_termOfWord (l : Launch) (G : qG) (hA : qAd G) (f : Nat) (σ : qMem) {u : Int32} (h : p_M_termOfWord f σ  = some u) : qCt l y_M_termOfWord prog_14_method_22_code 3 (some .int) 2 G qKS qRF σ [(.ref 104)] (some (.int u)) qKS qRF σ 0 0 := by
  refine qCt.of (lv := [some (.ref 104), none, none]) (by decide) hA (Nat.le_of_ble_eq_true rfl) rfl ?_
  intro X hl _ _ _ hX hT
  subst hl
  unfold p_M_termOfWord at h
  refine q_aload_n hX d_M_termOfWord_0 rfl ?_
  obtain ⟨u1, hc2, h⟩ := qbind h
  refine q_cVr hX (c_M_word X.l G hX.ad f _  hc2) cw_M_213 rfl kc_104 rfl (Nat.le_of_ble_eq_true rfl) rfl (Nat.le_of_ble_eq_true rfl) d_M_termOfWord_1 ?_
  refine q_lstore_n hX d_M_termOfWord_4 (by decide) rfl rfl ?_
  refine q_lload_n hX d_M_termOfWord_5 rfl ?_
  refine q_ldc2 hX w_1368 d_M_termOfWord_6 ?_
  refine q_lcmp hX d_M_termOfWord_9 ?_
  refine q_if_ne hX d_M_termOfWord_10 rfl h (fun _ h => ?_) (fun _ h => ?_)
  · refine q_lload_n hX d_M_termOfWord_17 rfl ?_
    refine q_ldc2 hX w_1369 d_M_termOfWord_18 ?_
    refine q_lcmp hX d_M_termOfWord_21 ?_
    refine q_if_ne hX d_M_termOfWord_22 rfl h (fun _ h => ?_) (fun _ h => ?_)
    · refine q_lload_n hX d_M_termOfWord_29 rfl ?_
      refine q_ldc2 hX w_1370 d_M_termOfWord_30 ?_
      refine q_lcmp hX d_M_termOfWord_33 ?_
      refine q_if_ne hX d_M_termOfWord_34 rfl h (fun _ h => ?_) (fun _ h => ?_)
      · refine q_lload_n hX d_M_termOfWord_41 rfl ?_
        refine q_ldc2 hX w_1371 d_M_termOfWord_42 ?_
        refine q_lcmp hX d_M_termOfWord_45 ?_
        refine q_if_ne hX d_M_termOfWord_46 rfl h (fun _ h => ?_) (fun _ h => ?_)
        · refine q_lload_n hX d_M_termOfWord_53 rfl ?_
          refine q_ldc2 hX w_1372 d_M_termOfWord_54 ?_
          refine q_lcmp hX d_M_termOfWord_57 ?_
          refine q_if_ne hX d_M_termOfWord_58 rfl h (fun _ h => ?_) (fun _ h => ?_)
          · refine q_lload_n hX d_M_termOfWord_65 rfl ?_
            refine q_ldc2 hX w_1373 d_M_termOfWord_66 ?_
            refine q_lcmp hX d_M_termOfWord_69 ?_
            refine q_if_ne hX d_M_termOfWord_70 rfl h (fun _ h => ?_) (fun _ h => ?_)
            · refine q_lload_n hX d_M_termOfWord_78 rfl ?_
              refine q_ldc2 hX w_1374 d_M_termOfWord_79 ?_
              refine q_lcmp hX d_M_termOfWord_82 ?_
              refine q_if_ne hX d_M_termOfWord_83 rfl h (fun _ h => ?_) (fun _ h => ?_)
              · refine q_lload_n hX d_M_termOfWord_91 rfl ?_
                refine q_ldc2 hX w_1375 d_M_termOfWord_92 ?_
                refine q_lcmp hX d_M_termOfWord_95 ?_
                refine q_if_ne hX d_M_termOfWord_96 rfl h (fun _ h => ?_) (fun _ h => ?_)
                · refine q_lload_n hX d_M_termOfWord_104 rfl ?_
                  refine q_ldc2 hX w_1376 d_M_termOfWord_105 ?_
                  refine q_lcmp hX d_M_termOfWord_108 ?_
                  refine q_if_ne hX d_M_termOfWord_109 rfl h (fun _ h => ?_) (fun _ h => ?_)
                  · refine q_lload_n hX d_M_termOfWord_117 rfl ?_
                    refine q_ldc2 hX w_1377 d_M_termOfWord_118 ?_
                    refine q_lcmp hX d_M_termOfWord_121 ?_
                    refine q_if_ne hX d_M_termOfWord_122 rfl h (fun _ h => ?_) (fun _ h => ?_)
                    · refine q_ldc hX w_1335 d_M_termOfWord_130 ?_
                      exact q_iretR hX h hT d_M_termOfWord_132
                    · refine q_bipush hX d_M_termOfWord_125 bp_10 ?_
                      refine q_goto hX d_M_termOfWord_127 rfl ?_
                      exact q_iretR hX h hT d_M_termOfWord_132
                  · refine q_bipush hX d_M_termOfWord_112 bp_9 ?_
                    refine q_goto hX d_M_termOfWord_114 rfl ?_
                    exact q_iretR hX h hT d_M_termOfWord_132
                · refine q_bipush hX d_M_termOfWord_99 bp_8 ?_
                  refine q_goto hX d_M_termOfWord_101 rfl ?_
                  exact q_iretR hX h hT d_M_termOfWord_132
              · refine q_bipush hX d_M_termOfWord_86 bp_7 ?_
                refine q_goto hX d_M_termOfWord_88 rfl ?_
                exact q_iretR hX h hT d_M_termOfWord_132
            · refine q_bipush hX d_M_termOfWord_73 bp_6 ?_
              refine q_goto hX d_M_termOfWord_75 rfl ?_
              exact q_iretR hX h hT d_M_termOfWord_132
          · refine q_iconst hX d_M_termOfWord_61 ic_5 ?_
            refine q_goto hX d_M_termOfWord_62 rfl ?_
            exact q_iretR hX h hT d_M_termOfWord_132
        · refine q_iconst hX d_M_termOfWord_49 ic_4 ?_
          refine q_goto hX d_M_termOfWord_50 rfl ?_
          exact q_iretR hX h hT d_M_termOfWord_132
      · refine q_iconst hX d_M_termOfWord_37 ic_3 ?_
        refine q_goto hX d_M_termOfWord_38 rfl ?_
        exact q_iretR hX h hT d_M_termOfWord_132
    · refine q_iconst hX d_M_termOfWord_25 ic_2 ?_
      refine q_goto hX d_M_termOfWord_26 rfl ?_
      exact q_iretR hX h hT d_M_termOfWord_132
  · refine q_iconst hX d_M_termOfWord_13 ic_1 ?_
    refine q_goto hX d_M_termOfWord_14 rfl ?_
    exact q_iretR hX h hT d_M_termOfWord_132
set_option maxHeartbeats 4000000 in
theorem c_M_mostOf (l : Launch) (G : qG) (hA : qAd G) (f : Nat) (σ : qMem) (x0 : Int32) {u : Int32} (h : p_M_mostOf f σ x0 = some u) : qCt l y_M_mostOf prog_14_method_23_code 1 (some .int) 1 G qKS qRF σ [(.int x0)] (some (.int u)) qKS qRF σ 0 0 := by
  refine qCt.of (lv := [some (.int x0)]) (by decide) hA (Nat.le_of_ble_eq_true rfl) rfl ?_
  intro X hl _ _ _ hX hT
  subst hl
  unfold p_M_mostOf at h
  refine q_iload_n hX d_M_mostOf_0 rfl ?_
  refine q_iconst hX d_M_mostOf_1 ic_2 ?_
  refine q_icmp_ne hX d_M_mostOf_2 rfl h (fun _ h => ?_) (fun _ h => ?_)
  · refine q_iload_n hX d_M_mostOf_9 rfl ?_
    refine q_iconst hX d_M_mostOf_10 ic_3 ?_
    refine q_icmp_ne hX d_M_mostOf_11 rfl h (fun _ h => ?_) (fun _ h => ?_)
    · refine q_iload_n hX d_M_mostOf_19 rfl ?_
      refine q_iconst hX d_M_mostOf_20 ic_4 ?_
      refine q_icmp_ne hX d_M_mostOf_21 rfl h (fun _ h => ?_) (fun _ h => ?_)
      · refine q_iload_n hX d_M_mostOf_30 rfl ?_
        refine q_iconst hX d_M_mostOf_31 ic_5 ?_
        refine q_icmp_eq hX d_M_mostOf_32 rfl h (fun _ h => ?_) (fun _ h => ?_)
        · refine q_sipush hX d_M_mostOf_41 sp_9999 ?_
          refine q_goto hX d_M_mostOf_44 rfl ?_
          exact q_iretR hX h hT d_M_mostOf_70
        · refine q_iload_n hX d_M_mostOf_35 rfl ?_
          refine q_bipush hX d_M_mostOf_36 bp_6 ?_
          refine q_icmp_ne hX d_M_mostOf_38 rfl h (fun _ h => ?_) (fun _ h => ?_)
          · refine q_iload_n hX d_M_mostOf_47 rfl ?_
            refine q_bipush hX d_M_mostOf_48 bp_7 ?_
            refine q_icmp_ne hX d_M_mostOf_50 rfl h (fun _ h => ?_) (fun _ h => ?_)
            · refine q_iload_n hX d_M_mostOf_57 rfl ?_
              refine q_bipush hX d_M_mostOf_58 bp_8 ?_
              refine q_icmp_ne hX d_M_mostOf_60 rfl h (fun _ h => ?_) (fun _ h => ?_)
              · refine q_bipush hX d_M_mostOf_68 bp_99 ?_
                exact q_iretR hX h hT d_M_mostOf_70
              · refine q_bipush hX d_M_mostOf_63 bp_100 ?_
                refine q_goto hX d_M_mostOf_65 rfl ?_
                exact q_iretR hX h hT d_M_mostOf_70
            · refine q_iconst hX d_M_mostOf_53 ic_5 ?_
              refine q_goto hX d_M_mostOf_54 rfl ?_
              exact q_iretR hX h hT d_M_mostOf_70
          · refine q_sipush hX d_M_mostOf_41 sp_9999 ?_
            refine q_goto hX d_M_mostOf_44 rfl ?_
            exact q_iretR hX h hT d_M_mostOf_70
      · refine q_sipush hX d_M_mostOf_24 sp_360 ?_
        refine q_goto hX d_M_mostOf_27 rfl ?_
        exact q_iretR hX h hT d_M_mostOf_70
    · refine q_bipush hX d_M_mostOf_14 bp_7 ?_
      refine q_goto hX d_M_mostOf_16 rfl ?_
      exact q_iretR hX h hT d_M_mostOf_70
  · refine q_iconst hX d_M_mostOf_5 ic_3 ?_
    refine q_goto hX d_M_mostOf_6 rfl ?_
    exact q_iretR hX h hT d_M_mostOf_70
set_option maxHeartbeats 4000000 in
theorem t_M_readTerm_b122 {G : qG} {X : qX} (hX : qOk G X "ChantryRollsModel" prog_14_method_24_code 4 none 4) {u : qMem} {f : Nat} {σ : qMem} {x1 : Int32} {x2 : Int32} {s1 : Int32} (hT : qTg G X 0 0 qKS qRF u none) (h : p_M_readTerm_b122 f    σ x1 x2 s1 = some u) : qV G X 0 0 qKS qRF σ 122 [some (.ref 104), some (.int x1), some (.int x2), none] [(.int s1), (.ref 104)] := by
  unfold p_M_readTerm_b122 at h
  obtain ⟨u1, hc2, h⟩ := qbind h
  refine q_cVv hX (c_M_need X.l G hX.ad f _ _ hc2) cw_M_241 rfl kc_104 rfl (Nat.le_of_ble_eq_true rfl) rfl (Nat.le_of_ble_eq_true rfl) d_M_readTerm_122 ?_
  refine q_aload_n hX d_M_readTerm_125 rfl ?_
  refine q_getR hX fl_M_19 kc_104 (rfl : qRF 104 6 = some 108) d_M_readTerm_126 ?_
  refine q_bipush hX d_M_readTerm_129 bp_11 ?_
  refine q_aload_n hX d_M_readTerm_131 rfl ?_
  refine q_getI hX fl_M_248 kc_104 d_M_readTerm_132 ?_
  refine q_imul hX d_M_readTerm_135 ?_
  refine q_iload_n hX d_M_readTerm_136 rfl ?_
  refine q_iadd hX d_M_readTerm_137 ?_
  refine q_iload_n hX d_M_readTerm_138 rfl ?_
  refine q_iast hX kc_108 qKS_len d_M_readTerm_139 h (fun hi3 h => ?_)
  exact q_vretW hX h hT d_M_readTerm_140
set_option maxHeartbeats 4000000 in
theorem t_M_readTerm_b108 {G : qG} {X : qX} (hX : qOk G X "ChantryRollsModel" prog_14_method_24_code 4 none 4) {u : qMem} {f : Nat} {σ : qMem} {x1 : Int32} {x2 : Int32} (hT : qTg G X 0 0 qKS qRF u none) (h : p_M_readTerm_b108 f    σ x1 x2 = some u) : qV G X 0 0 qKS qRF σ 108 [some (.ref 104), some (.int x1), some (.int x2), none] [] := by
  unfold p_M_readTerm_b108 at h
  refine q_aload_n hX d_M_readTerm_108 rfl ?_
  refine q_aload_n hX d_M_readTerm_109 rfl ?_
  refine q_getI hX fl_M_188 kc_104 d_M_readTerm_110 ?_
  refine q_iconst hX d_M_readTerm_113 ic_3 ?_
  refine q_icmp_ne hX d_M_readTerm_114 rfl h (fun _ h => ?_) (fun _ h => ?_)
  · refine q_iconst hX d_M_readTerm_121 ic_0 ?_
    exact q_mask [true, true, true, false] rfl (t_M_readTerm_b122 hX hT h)
  · refine q_iconst hX d_M_readTerm_117 ic_1 ?_
    refine q_goto hX d_M_readTerm_118 rfl ?_
    exact q_mask [true, true, true, false] rfl (t_M_readTerm_b122 hX hT h)
set_option maxHeartbeats 4000000 in
theorem t_M_readTerm_b92 {G : qG} {X : qX} (hX : qOk G X "ChantryRollsModel" prog_14_method_24_code 4 none 4) {u : qMem} {f : Nat} {σ : qMem} {x1 : Int32} {x2 : Int32} {s0 : Int64} {s1 : Int64} (hT : qTg G X 0 0 qKS qRF u none) (h : p_M_readTerm_b92 f    σ x1 x2 s0 s1 = some u) : qV G X 0 0 qKS qRF σ 92 [some (.ref 104), some (.int x1), some (.int x2), none] [(.long s1), (.long s0)] := by
  unfold p_M_readTerm_b92 at h
  refine q_iload_n hX d_M_readTerm_92 rfl ?_
  obtain ⟨u4, hc5, h⟩ := qbind h
  refine q_cSr hX (c_M_mostOf X.l G hX.ad f _ _ hc5) cw_M_245 rfl (Nat.le_of_ble_eq_true rfl) rfl (Nat.le_of_ble_eq_true rfl) d_M_readTerm_93 ?_
  refine q_i2l hX d_M_readTerm_96 ?_
  obtain ⟨u6, hc7, h⟩ := qbind h
  refine q_cSr hX (c_M_in X.l G hX.ad f _ _ _ _ hc7) cw_M_147 rfl (Nat.le_of_ble_eq_true rfl) rfl (Nat.le_of_ble_eq_true rfl) d_M_readTerm_97 ?_
  refine q_if_ne hX d_M_readTerm_100 rfl h (fun _ h => ?_) (fun _ h => ?_)
  · exact q_mask [true, true, true, false] rfl (t_M_readTerm_b108 hX hT h)
  · refine q_aload_n hX d_M_readTerm_103 rfl ?_
    refine q_iconst hX d_M_readTerm_104 ic_2 ?_
    obtain ⟨u8, hc9, h⟩ := qbind h
    refine q_cVv hX (c_M_bad X.l G hX.ad f _ _ hc9) cw_M_206 rfl kc_104 rfl (Nat.le_of_ble_eq_true rfl) rfl (Nat.le_of_ble_eq_true rfl) d_M_readTerm_105 ?_
    exact q_mask [true, true, true, false] rfl (t_M_readTerm_b108 hX hT h)
set_option maxHeartbeats 4000000 in
theorem t_M_readTerm_b72 {G : qG} {X : qX} (hX : qOk G X "ChantryRollsModel" prog_14_method_24_code 4 none 4) {u : qMem} {f : Nat} {σ : qMem} {x1 : Int32} {x2 : Int32} (hT : qTg G X 0 0 qKS qRF u none) (h : p_M_readTerm_b72 f    σ x1 x2 = some u) : qV G X 0 0 qKS qRF σ 72 [some (.ref 104), some (.int x1), some (.int x2), none] [] := by
  unfold p_M_readTerm_b72 at h
  refine q_aload_n hX d_M_readTerm_72 rfl ?_
  refine q_getI hX fl_M_188 kc_104 d_M_readTerm_73 ?_
  refine q_iconst hX d_M_readTerm_76 ic_3 ?_
  refine q_icmp_ne hX d_M_readTerm_77 rfl h (fun _ h => ?_) (fun _ h => ?_)
  · exact q_mask [true, true, true, false] rfl (t_M_readTerm_b108 hX hT h)
  · refine q_iload_n hX d_M_readTerm_80 rfl ?_
    refine q_i2l hX d_M_readTerm_81 ?_
    refine q_iload_n hX d_M_readTerm_82 rfl ?_
    refine q_iconst hX d_M_readTerm_83 ic_4 ?_
    refine q_icmp_ne hX d_M_readTerm_84 rfl h (fun _ h => ?_) (fun _ h => ?_)
    · refine q_lconst hX d_M_readTerm_91 lc_0 ?_
      exact q_mask [true, true, true, false] rfl (t_M_readTerm_b92 hX hT h)
    · refine q_lconst hX d_M_readTerm_87 lc_1 ?_
      refine q_goto hX d_M_readTerm_88 rfl ?_
      exact q_mask [true, true, true, false] rfl (t_M_readTerm_b92 hX hT h)
set_option maxHeartbeats 4000000 in
theorem t_M_readTerm_lb35 {G : qG} {X : qX} (hX : qOk G X "ChantryRollsModel" prog_14_method_24_code 4 none 4) {u : qMem} {f : Nat} {σ : qMem} {x1 : Int32} (hT : qTg G X 0 0 qKS qRF u none) {k35 : Int32 → Int32 → Option (qMem)} (hk35 : ∀ (x2 : Int32) (x3 : Int32), k35 x2 x3 = some u → qV G X 0 0 qKS qRF σ 35 [some (.ref 104), some (.int x1), some (.int x2), some (.int x3)] []) {x2 : Int32} {x3 : Int32} (h : p_M_readTerm_l35 f  σ x1  k35 x2 x3 = some u) : qV G X 0 0 qKS qRF σ 35 [some (.ref 104), some (.int x1), some (.int x2), some (.int x3)] [] := by
  unfold p_M_readTerm_l35 at h
  refine q_iload_n hX d_M_readTerm_35 rfl ?_
  refine q_aload_n hX d_M_readTerm_36 rfl ?_
  refine q_getI hX fl_M_197 kc_104 d_M_readTerm_37 ?_
  refine q_icmp_ge hX d_M_readTerm_40 rfl h (fun _ h => ?_) (fun _ h => ?_)
  · exact q_mask [true, true, true, false] rfl (t_M_readTerm_b72 hX hT h)
  · refine q_aload_n hX d_M_readTerm_43 rfl ?_
    refine q_getI hX fl_M_188 kc_104 d_M_readTerm_44 ?_
    refine q_iconst hX d_M_readTerm_47 ic_3 ?_
    refine q_icmp_ne hX d_M_readTerm_48 rfl h (fun _ h => ?_) (fun _ h => ?_)
    · exact q_mask [true, true, true, false] rfl (t_M_readTerm_b72 hX hT h)
    · refine q_bipush hX d_M_readTerm_51 bp_10 ?_
      refine q_iload_n hX d_M_readTerm_53 rfl ?_
      refine q_imul hX d_M_readTerm_54 ?_
      refine q_aload_n hX d_M_readTerm_55 rfl ?_
      refine q_getR hX fl_M_22 kc_104 (rfl : qRF 104 7 = some 109) d_M_readTerm_56 ?_
      refine q_iload_n hX d_M_readTerm_59 rfl ?_
      refine q_iald hX kc_109 d_M_readTerm_60 h (fun hi10 h => ?_)
      refine q_iadd hX d_M_readTerm_61 ?_
      refine q_bipush hX d_M_readTerm_62 bp_48 ?_
      refine q_isub hX d_M_readTerm_64 ?_
      refine q_istore_n hX d_M_readTerm_65 (by decide) rfl rfl ?_
      refine q_iinc hX d_M_readTerm_66 rfl (ii_1 _) (by decide) rfl rfl ?_
      refine q_goto hX d_M_readTerm_69 rfl ?_
      exact q_mask [true, true, true, true] rfl (hk35 _ _ h)
theorem t_M_readTerm_l35 {G : qG} {X : qX} (hX : qOk G X "ChantryRollsModel" prog_14_method_24_code 4 none 4) {u : qMem} {f : Nat} {σ : qMem} {x1 : Int32} (hT : qTg G X 0 0 qKS qRF u none) : ∀ (n : Nat) (x2 : Int32) (x3 : Int32), qfix2 (p_M_readTerm_l35 f  σ x1 ) n x2 x3 = some u → qV G X 0 0 qKS qRF σ 35 [some (.ref 104), some (.int x1), some (.int x2), some (.int x3)] [] :=
  qfix2_ind (fun k hk _ _ h => t_M_readTerm_lb35 hX   hT  hk h)
set_option maxHeartbeats 4000000 in
theorem t_M_readTerm_b17 {G : qG} {X : qX} (hX : qOk G X "ChantryRollsModel" prog_14_method_24_code 4 none 4) {u : qMem} {f : Nat} {σ : qMem} {x1 : Int32} {s1 : Int32} (hT : qTg G X 0 0 qKS qRF u none) (h : p_M_readTerm_b17 f    σ x1 s1 = some u) : qV G X 0 0 qKS qRF σ 17 [some (.ref 104), some (.int x1), none, none] [(.int s1), (.ref 104)] := by
  unfold p_M_readTerm_b17 at h
  obtain ⟨u11, hc12, h⟩ := qbind h
  refine q_cVv hX (c_M_need X.l G hX.ad f _ _ hc12) cw_M_241 rfl kc_104 rfl (Nat.le_of_ble_eq_true rfl) rfl (Nat.le_of_ble_eq_true rfl) d_M_readTerm_17 ?_
  refine q_aload_n hX d_M_readTerm_20 rfl ?_
  refine q_getI hX fl_M_200 kc_104 d_M_readTerm_21 ?_
  refine q_if_le hX d_M_readTerm_24 rfl h (fun _ h => ?_) (fun _ h => ?_)
  · refine q_iconst hX d_M_readTerm_28 ic_0 ?_
    refine q_istore_n hX d_M_readTerm_29 (by decide) rfl rfl ?_
    refine q_aload_n hX d_M_readTerm_30 rfl ?_
    refine q_getI hX fl_M_185 kc_104 d_M_readTerm_31 ?_
    refine q_istore_n hX d_M_readTerm_34 (by decide) rfl rfl ?_
    exact q_mask [true, true, true, true] rfl (t_M_readTerm_l35 hX hT f _ _ h)
  · exact q_vretW hX h hT d_M_readTerm_27
set_option maxHeartbeats 4000000 in
theorem c_M_readTerm (l : Launch) (G : qG) (hA : qAd G) (f : Nat) (σ : qMem) {u : qMem} (h : p_M_readTerm f σ  = some u) : qCt l y_M_readTerm prog_14_method_24_code 4 none 4 G qKS qRF σ [(.ref 104)] none qKS qRF u 0 0 := by
  refine qCt.of (lv := [some (.ref 104), none, none, none]) (by decide) hA (Nat.le_of_ble_eq_true rfl) rfl ?_
  intro X hl _ _ _ hX hT
  subst hl
  unfold p_M_readTerm at h
  refine q_aload_n hX d_M_readTerm_0 rfl ?_
  obtain ⟨u13, hc14, h⟩ := qbind h
  refine q_cVr hX (c_M_termOfWord X.l G hX.ad f _  hc14) cw_M_237 rfl kc_104 rfl (Nat.le_of_ble_eq_true rfl) rfl (Nat.le_of_ble_eq_true rfl) d_M_readTerm_1 ?_
  refine q_istore_n hX d_M_readTerm_4 (by decide) rfl rfl ?_
  refine q_aload_n hX d_M_readTerm_5 rfl ?_
  refine q_iload_n hX d_M_readTerm_6 rfl ?_
  refine q_ldc hX w_1335 d_M_readTerm_7 ?_
  refine q_icmp_eq hX d_M_readTerm_9 rfl h (fun _ h => ?_) (fun _ h => ?_)
  · refine q_iconst hX d_M_readTerm_16 ic_0 ?_
    exact q_mask [true, true, false, false] rfl (t_M_readTerm_b17 hX hT h)
  · refine q_iconst hX d_M_readTerm_12 ic_1 ?_
    refine q_goto hX d_M_readTerm_13 rfl ?_
    exact q_mask [true, true, false, false] rfl (t_M_readTerm_b17 hX hT h)
set_option maxHeartbeats 4000000 in
theorem t_M_readDeed_b210 {G : qG} {X : qX} (hX : qOk G X "ChantryRollsModel" prog_14_method_25_code 6 none 5) {u : qMem} {f : Nat} {σ : qMem} {s1 : Int32} (hT : qTg G X 0 0 qKS qRF u none) (h : p_M_readDeed_b210 f    σ s1 = some u) : qV G X 0 0 qKS qRF σ 210 [some (.ref 104), none, none, none, none, none] [(.int s1), (.ref 104)] := by
  unfold p_M_readDeed_b210 at h
  obtain ⟨u1, hc2, h⟩ := qbind h
  refine q_cVv hX (c_M_need X.l G hX.ad f _ _ hc2) cw_M_241 rfl kc_104 rfl (Nat.le_of_ble_eq_true rfl) rfl (Nat.le_of_ble_eq_true rfl) d_M_readDeed_210 ?_
  refine q_aload_n hX d_M_readDeed_213 rfl ?_
  refine q_dup hX rfl d_M_readDeed_214 ?_
  refine q_getI hX fl_M_248 kc_104 d_M_readDeed_215 ?_
  refine q_iconst hX d_M_readDeed_218 ic_1 ?_
  refine q_iadd hX d_M_readDeed_219 ?_
  refine q_putI hX fl_M_248 kc_104 rfl qKS_len d_M_readDeed_220 ?_
  exact q_vretW hX h hT d_M_readDeed_223
set_option maxHeartbeats 4000000 in
theorem t_M_readDeed_lb154 {G : qG} {X : qX} (hX : qOk G X "ChantryRollsModel" prog_14_method_25_code 6 none 5) {u : qMem} {f : Nat} (hT : qTg G X 0 0 qKS qRF u none) {k154 : qMem → Int32 → Option (qMem)} (hk154 : ∀ (σ : qMem) (x5 : Int32), k154 σ x5 = some u → qV G X 0 0 qKS qRF σ 154 [some (.ref 104), none, none, none, none, some (.int x5)] []) {σ : qMem} {x5 : Int32} (h : p_M_readDeed_l154 f    k154 σ x5 = some u) : qV G X 0 0 qKS qRF σ 154 [some (.ref 104), none, none, none, none, some (.int x5)] [] := by
  unfold p_M_readDeed_l154 at h
  refine q_iload hX d_M_readDeed_154 rfl ?_
  refine q_if_eq hX d_M_readDeed_156 rfl h (fun _ h => ?_) (fun _ h => ?_)
  · refine q_aload_n hX d_M_readDeed_189 rfl ?_
    refine q_getI hX fl_M_200 kc_104 d_M_readDeed_190 ?_
    refine q_if_ne hX d_M_readDeed_193 rfl h (fun _ h => ?_) (fun _ h => ?_)
    · refine q_aload_n hX d_M_readDeed_213 rfl ?_
      refine q_dup hX rfl d_M_readDeed_214 ?_
      refine q_getI hX fl_M_248 kc_104 d_M_readDeed_215 ?_
      refine q_iconst hX d_M_readDeed_218 ic_1 ?_
      refine q_iadd hX d_M_readDeed_219 ?_
      refine q_putI hX fl_M_248 kc_104 rfl qKS_len d_M_readDeed_220 ?_
      exact q_vretW hX h hT d_M_readDeed_223
    · refine q_aload_n hX d_M_readDeed_196 rfl ?_
      refine q_aload_n hX d_M_readDeed_197 rfl ?_
      refine q_getI hX fl_M_188 kc_104 d_M_readDeed_198 ?_
      refine q_iconst hX d_M_readDeed_201 ic_4 ?_
      refine q_icmp_ne hX d_M_readDeed_202 rfl h (fun _ h => ?_) (fun _ h => ?_)
      · refine q_iconst hX d_M_readDeed_209 ic_0 ?_
        exact q_mask [true, false, false, false, false, false] rfl (t_M_readDeed_b210 hX hT h)
      · refine q_iconst hX d_M_readDeed_205 ic_1 ?_
        refine q_goto hX d_M_readDeed_206 rfl ?_
        exact q_mask [true, false, false, false, false, false] rfl (t_M_readDeed_b210 hX hT h)
  · refine q_aload_n hX d_M_readDeed_159 rfl ?_
    obtain ⟨u3, hc4, h⟩ := qbind h
    refine q_cVv hX (c_M_readTerm X.l G hX.ad f _  hc4) cw_M_255 rfl kc_104 rfl (Nat.le_of_ble_eq_true rfl) rfl (Nat.le_of_ble_eq_true rfl) d_M_readDeed_160 ?_
    refine q_aload_n hX d_M_readDeed_163 rfl ?_
    refine q_getI hX fl_M_200 kc_104 d_M_readDeed_164 ?_
    refine q_if_ne hX d_M_readDeed_167 rfl h (fun _ h => ?_) (fun _ h => ?_)
    · refine q_iconst hX d_M_readDeed_183 ic_0 ?_
      refine q_istore hX d_M_readDeed_184 (by decide) rfl rfl ?_
      refine q_goto hX d_M_readDeed_186 rfl ?_
      exact q_mask [true, false, false, false, false, true] rfl (hk154 _ _ h)
    · refine q_aload_n hX d_M_readDeed_170 rfl ?_
      obtain ⟨u5, hc6, h⟩ := qbind h
      refine q_cVr hX (c_M_termOfWord X.l G hX.ad f _  hc6) cw_M_237 rfl kc_104 rfl (Nat.le_of_ble_eq_true rfl) rfl (Nat.le_of_ble_eq_true rfl) d_M_readDeed_171 ?_
      refine q_ldc hX w_1335 d_M_readDeed_174 ?_
      refine q_icmp_eq hX d_M_readDeed_176 rfl h (fun _ h => ?_) (fun _ h => ?_)
      · refine q_iconst hX d_M_readDeed_183 ic_0 ?_
        refine q_istore hX d_M_readDeed_184 (by decide) rfl rfl ?_
        refine q_goto hX d_M_readDeed_186 rfl ?_
        exact q_mask [true, false, false, false, false, true] rfl (hk154 _ _ h)
      · refine q_iconst hX d_M_readDeed_179 ic_1 ?_
        refine q_goto hX d_M_readDeed_180 rfl ?_
        refine q_istore hX d_M_readDeed_184 (by decide) rfl rfl ?_
        refine q_goto hX d_M_readDeed_186 rfl ?_
        exact q_mask [true, false, false, false, false, true] rfl (hk154 _ _ h)
theorem t_M_readDeed_l154 {G : qG} {X : qX} (hX : qOk G X "ChantryRollsModel" prog_14_method_25_code 6 none 5) {u : qMem} {f : Nat} (hT : qTg G X 0 0 qKS qRF u none) : ∀ (n : Nat) (σ : qMem) (x5 : Int32), qfix2 (p_M_readDeed_l154 f   ) n σ x5 = some u → qV G X 0 0 qKS qRF σ 154 [some (.ref 104), none, none, none, none, some (.int x5)] [] :=
  qfix2_ind (fun k hk _ _ h => t_M_readDeed_lb154 hX   hT  hk h)
set_option maxHeartbeats 4000000 in
theorem t_M_readDeed_b137 {G : qG} {X : qX} (hX : qOk G X "ChantryRollsModel" prog_14_method_25_code 6 none 5) {u : qMem} {f : Nat} {σ : qMem} {x4 : Int32} {s1 : Int32} {s2 : Int32} (hT : qTg G X 0 0 qKS qRF u none) (h : p_M_readDeed_b137 f    σ x4 s1 s2 = some u) : qV G X 0 0 qKS qRF σ 137 [some (.ref 104), none, none, none, some (.int x4), none] [(.int s2), (.int s1), (.ref 108)] := by
  unfold p_M_readDeed_b137 at h
  refine q_iast hX kc_108 qKS_len d_M_readDeed_137 h (fun hi7 h => ?_)
  refine q_aload_n hX d_M_readDeed_138 rfl ?_
  refine q_getR hX fl_M_19 kc_104 (rfl : qRF 104 6 = some 108) d_M_readDeed_139 ?_
  refine q_iload hX d_M_readDeed_142 rfl ?_
  refine q_bipush hX d_M_readDeed_144 bp_6 ?_
  refine q_iadd hX d_M_readDeed_146 ?_
  refine q_sipush hX d_M_readDeed_147 sp_9999 ?_
  refine q_iast hX kc_108 qKS_len d_M_readDeed_150 h (fun hi8 h => ?_)
  refine q_iconst hX d_M_readDeed_151 ic_1 ?_
  refine q_istore hX d_M_readDeed_152 (by decide) rfl rfl ?_
  exact q_mask [true, false, false, false, false, true] rfl (t_M_readDeed_l154 hX hT f _ _ h)
set_option maxHeartbeats 4000000 in
theorem t_M_readDeed_b113 {G : qG} {X : qX} (hX : qOk G X "ChantryRollsModel" prog_14_method_25_code 6 none 5) {u : qMem} {f : Nat} {σ : qMem} {x1 : Int64} {x4 : Int32} {s1 : Int32} {s2 : Int32} (hT : qTg G X 0 0 qKS qRF u none) (h : p_M_readDeed_b113 f    σ x1 x4 s1 s2 = some u) : qV G X 0 0 qKS qRF σ 113 [some (.ref 104), some (.long x1), none, none, some (.int x4), none] [(.int s2), (.int s1), (.ref 108)] := by
  unfold p_M_readDeed_b113 at h
  refine q_iast hX kc_108 qKS_len d_M_readDeed_113 h (fun hi9 h => ?_)
  refine q_aload_n hX d_M_readDeed_114 rfl ?_
  refine q_getR hX fl_M_19 kc_104 (rfl : qRF 104 6 = some 108) d_M_readDeed_115 ?_
  refine q_iload hX d_M_readDeed_118 rfl ?_
  refine q_iconst hX d_M_readDeed_120 ic_4 ?_
  refine q_iadd hX d_M_readDeed_121 ?_
  refine q_lload_n hX d_M_readDeed_122 rfl ?_
  refine q_ldc2 hX w_1351 d_M_readDeed_123 ?_
  refine q_lcmp hX d_M_readDeed_126 ?_
  refine q_if_ne hX d_M_readDeed_127 rfl h (fun _ h => ?_) (fun _ h => ?_)
  · refine q_iconst hX d_M_readDeed_136 ic_1 ?_
    exact q_mask [true, false, false, false, true, false] rfl (t_M_readDeed_b137 hX hT h)
  · refine q_sipush hX d_M_readDeed_130 sp_360 ?_
    refine q_goto hX d_M_readDeed_133 rfl ?_
    exact q_mask [true, false, false, false, true, false] rfl (t_M_readDeed_b137 hX hT h)
set_option maxHeartbeats 4000000 in
theorem t_M_readDeed_lb70 {G : qG} {X : qX} (hX : qOk G X "ChantryRollsModel" prog_14_method_25_code 6 none 5) {u : qMem} {f : Nat} {x1 : Int64} {x4 : Int32} (hT : qTg G X 0 0 qKS qRF u none) {k70 : qMem → Int32 → Option (qMem)} (hk70 : ∀ (σ : qMem) (x5 : Int32), k70 σ x5 = some u → qV G X 0 0 qKS qRF σ 70 [some (.ref 104), some (.long x1), none, none, some (.int x4), some (.int x5)] []) {σ : qMem} {x5 : Int32} (h : p_M_readDeed_l70 f  x1 x4  k70 σ x5 = some u) : qV G X 0 0 qKS qRF σ 70 [some (.ref 104), some (.long x1), none, none, some (.int x4), some (.int x5)] [] := by
  unfold p_M_readDeed_l70 at h
  refine q_iload hX d_M_readDeed_70 rfl ?_
  refine q_bipush hX d_M_readDeed_72 bp_11 ?_
  refine q_icmp_ge hX d_M_readDeed_74 rfl h (fun _ h => ?_) (fun _ h => ?_)
  · refine q_aload_n hX d_M_readDeed_94 rfl ?_
    refine q_getR hX fl_M_19 kc_104 (rfl : qRF 104 6 = some 108) d_M_readDeed_95 ?_
    refine q_iload hX d_M_readDeed_98 rfl ?_
    refine q_lload_n hX d_M_readDeed_100 rfl ?_
    refine q_ldc2 hX w_1351 d_M_readDeed_101 ?_
    refine q_lcmp hX d_M_readDeed_104 ?_
    refine q_if_ne hX d_M_readDeed_105 rfl h (fun _ h => ?_) (fun _ h => ?_)
    · refine q_iconst hX d_M_readDeed_112 ic_0 ?_
      exact q_mask [true, true, false, false, true, false] rfl (t_M_readDeed_b113 hX hT h)
    · refine q_iconst hX d_M_readDeed_108 ic_1 ?_
      refine q_goto hX d_M_readDeed_109 rfl ?_
      exact q_mask [true, true, false, false, true, false] rfl (t_M_readDeed_b113 hX hT h)
  · refine q_aload_n hX d_M_readDeed_77 rfl ?_
    refine q_getR hX fl_M_19 kc_104 (rfl : qRF 104 6 = some 108) d_M_readDeed_78 ?_
    refine q_iload hX d_M_readDeed_81 rfl ?_
    refine q_iload hX d_M_readDeed_83 rfl ?_
    refine q_iadd hX d_M_readDeed_85 ?_
    refine q_iconst hX d_M_readDeed_86 ic_0 ?_
    refine q_iast hX kc_108 qKS_len d_M_readDeed_87 h (fun hi10 h => ?_)
    refine q_iinc hX d_M_readDeed_88 rfl (ii_1 _) (by decide) rfl rfl ?_
    refine q_goto hX d_M_readDeed_91 rfl ?_
    exact q_mask [true, true, false, false, true, true] rfl (hk70 _ _ h)
theorem t_M_readDeed_l70 {G : qG} {X : qX} (hX : qOk G X "ChantryRollsModel" prog_14_method_25_code 6 none 5) {u : qMem} {f : Nat} {x1 : Int64} {x4 : Int32} (hT : qTg G X 0 0 qKS qRF u none) : ∀ (n : Nat) (σ : qMem) (x5 : Int32), qfix2 (p_M_readDeed_l70 f  x1 x4 ) n σ x5 = some u → qV G X 0 0 qKS qRF σ 70 [some (.ref 104), some (.long x1), none, none, some (.int x4), some (.int x5)] [] :=
  qfix2_ind (fun k hk _ _ h => t_M_readDeed_lb70 hX   hT  hk h)
set_option maxHeartbeats 4000000 in
theorem t_M_readDeed_b45 {G : qG} {X : qX} (hX : qOk G X "ChantryRollsModel" prog_14_method_25_code 6 none 5) {u : qMem} {f : Nat} {σ : qMem} {x1 : Int64} {x3 : Int32} (hT : qTg G X 0 0 qKS qRF u none) (h : p_M_readDeed_b45 f    σ x1 x3 = some u) : qV G X 0 0 qKS qRF σ 45 [some (.ref 104), some (.long x1), none, some (.int x3), none, none] [] := by
  unfold p_M_readDeed_b45 at h
  refine q_aload_n hX d_M_readDeed_45 rfl ?_
  refine q_iload_n hX d_M_readDeed_46 rfl ?_
  obtain ⟨u11, hc12, h⟩ := qbind h
  refine q_cVv hX (c_M_need X.l G hX.ad f _ _ hc12) cw_M_241 rfl kc_104 rfl (Nat.le_of_ble_eq_true rfl) rfl (Nat.le_of_ble_eq_true rfl) d_M_readDeed_47 ?_
  refine q_aload_n hX d_M_readDeed_50 rfl ?_
  refine q_getI hX fl_M_200 kc_104 d_M_readDeed_51 ?_
  refine q_if_le hX d_M_readDeed_54 rfl h (fun _ h => ?_) (fun _ h => ?_)
  · refine q_bipush hX d_M_readDeed_58 bp_11 ?_
    refine q_aload_n hX d_M_readDeed_60 rfl ?_
    refine q_getI hX fl_M_248 kc_104 d_M_readDeed_61 ?_
    refine q_imul hX d_M_readDeed_64 ?_
    refine q_istore hX d_M_readDeed_65 (by decide) rfl rfl ?_
    refine q_iconst hX d_M_readDeed_67 ic_0 ?_
    refine q_istore hX d_M_readDeed_68 (by decide) rfl rfl ?_
    exact q_mask [true, true, false, false, true, true] rfl (t_M_readDeed_l70 hX hT f _ _ h)
  · exact q_vretW hX h hT d_M_readDeed_57
set_option maxHeartbeats 4000000 in
theorem t_M_readDeed_b26 {G : qG} {X : qX} (hX : qOk G X "ChantryRollsModel" prog_14_method_25_code 6 none 5) {u : qMem} {f : Nat} {σ : qMem} {x1 : Int64} {s0 : Int32} (hT : qTg G X 0 0 qKS qRF u none) (h : p_M_readDeed_b26 f    σ x1 s0 = some u) : qV G X 0 0 qKS qRF σ 26 [some (.ref 104), some (.long x1), none, none, none, none] [(.int s0)] := by
  unfold p_M_readDeed_b26 at h
  refine q_istore_n hX d_M_readDeed_26 (by decide) rfl rfl ?_
  refine q_iload_n hX d_M_readDeed_27 rfl ?_
  refine q_if_eq hX d_M_readDeed_28 rfl h (fun _ h => ?_) (fun _ h => ?_)
  · exact q_mask [true, true, false, true, false, false] rfl (t_M_readDeed_b45 hX hT h)
  · refine q_aload_n hX d_M_readDeed_31 rfl ?_
    refine q_getI hX fl_M_248 kc_104 d_M_readDeed_32 ?_
    refine q_bipush hX d_M_readDeed_35 bp_12 ?_
    refine q_icmp_ne hX d_M_readDeed_37 rfl h (fun _ h => ?_) (fun _ h => ?_)
    · exact q_mask [true, true, false, true, false, false] rfl (t_M_readDeed_b45 hX hT h)
    · refine q_aload_n hX d_M_readDeed_40 rfl ?_
      refine q_iconst hX d_M_readDeed_41 ic_3 ?_
      obtain ⟨u13, hc14, h⟩ := qbind h
      refine q_cVv hX (c_M_bad X.l G hX.ad f _ _ hc14) cw_M_206 rfl kc_104 rfl (Nat.le_of_ble_eq_true rfl) rfl (Nat.le_of_ble_eq_true rfl) d_M_readDeed_42 ?_
      exact q_mask [true, true, false, true, false, false] rfl (t_M_readDeed_b45 hX hT h)
set_option maxHeartbeats 4000000 in
theorem c_M_readDeed (l : Launch) (G : qG) (hA : qAd G) (f : Nat) (σ : qMem) {u : qMem} (h : p_M_readDeed f σ  = some u) : qCt l y_M_readDeed prog_14_method_25_code 6 none 5 G qKS qRF σ [(.ref 104)] none qKS qRF u 0 0 := by
  refine qCt.of (lv := [some (.ref 104), none, none, none, none, none]) (by decide) hA (Nat.le_of_ble_eq_true rfl) rfl ?_
  intro X hl _ _ _ hX hT
  subst hl
  unfold p_M_readDeed at h
  refine q_aload_n hX d_M_readDeed_0 rfl ?_
  obtain ⟨u15, hc16, h⟩ := qbind h
  refine q_cVr hX (c_M_word X.l G hX.ad f _  hc16) cw_M_213 rfl kc_104 rfl (Nat.le_of_ble_eq_true rfl) rfl (Nat.le_of_ble_eq_true rfl) d_M_readDeed_1 ?_
  refine q_lstore_n hX d_M_readDeed_4 (by decide) rfl rfl ?_
  refine q_lload_n hX d_M_readDeed_5 rfl ?_
  refine q_ldc2 hX w_1350 d_M_readDeed_6 ?_
  refine q_lcmp hX d_M_readDeed_9 ?_
  refine q_if_eq hX d_M_readDeed_10 rfl h (fun _ h => ?_) (fun _ h => ?_)
  · refine q_iconst hX d_M_readDeed_21 ic_1 ?_
    refine q_goto hX d_M_readDeed_22 rfl ?_
    exact q_mask [true, true, false, false, false, false] rfl (t_M_readDeed_b26 hX hT h)
  · refine q_lload_n hX d_M_readDeed_13 rfl ?_
    refine q_ldc2 hX w_1351 d_M_readDeed_14 ?_
    refine q_lcmp hX d_M_readDeed_17 ?_
    refine q_if_ne hX d_M_readDeed_18 rfl h (fun _ h => ?_) (fun _ h => ?_)
    · refine q_iconst hX d_M_readDeed_25 ic_0 ?_
      exact q_mask [true, true, false, false, false, false] rfl (t_M_readDeed_b26 hX hT h)
    · refine q_iconst hX d_M_readDeed_21 ic_1 ?_
      refine q_goto hX d_M_readDeed_22 rfl ?_
      exact q_mask [true, true, false, false, false, false] rfl (t_M_readDeed_b26 hX hT h)
set_option maxHeartbeats 4000000 in
theorem t_M_deeds_lb91 {G : qG} {X : qX} (hX : qOk G X "ChantryRollsModel" prog_14_method_26_code 2 (some .int) 6) {u : Int32 × qMem} {f : Nat} (hT : qTg G X 0 0 qKS qRF u.2 (some (.int u.1))) {k91 : qMem → Int32 → Option (Int32 × qMem)} (hk91 : ∀ (σ : qMem) (x1 : Int32), k91 σ x1 = some u → qV G X 0 0 qKS qRF σ 91 [some (.ref 104), some (.int x1)] []) {σ : qMem} {x1 : Int32} (h : p_M_deeds_l91 f    k91 σ x1 = some u) : qV G X 0 0 qKS qRF σ 91 [some (.ref 104), some (.int x1)] [] := by
  unfold p_M_deeds_l91 at h
  refine q_iload_n hX d_M_deeds_91 rfl ?_
  refine q_aload_n hX d_M_deeds_92 rfl ?_
  refine q_getI hX fl_M_248 kc_104 d_M_deeds_93 ?_
  refine q_icmp_ge hX d_M_deeds_96 rfl h (fun _ h => ?_) (fun _ h => ?_)
  · refine q_aload_n hX d_M_deeds_113 rfl ?_
    refine q_aload_n hX d_M_deeds_114 rfl ?_
    refine q_getI hX fl_M_248 kc_104 d_M_deeds_115 ?_
    refine q_putI hX fl_M_162 kc_104 rfl qKS_len d_M_deeds_118 ?_
    refine q_aload_n hX d_M_deeds_121 rfl ?_
    refine q_getI hX fl_M_162 kc_104 d_M_deeds_122 ?_
    exact q_iretW hX h hT d_M_deeds_125
  · refine q_aload_n hX d_M_deeds_99 rfl ?_
    refine q_getR hX fl_M_95 kc_104 (rfl : qRF 104 47 = some 133) d_M_deeds_100 ?_
    refine q_iload_n hX d_M_deeds_103 rfl ?_
    refine q_ldc hX w_1335 d_M_deeds_104 ?_
    refine q_iast hX kc_133 qKS_len d_M_deeds_106 h (fun hi1 h => ?_)
    refine q_iinc hX d_M_deeds_107 rfl (ii_1 _) (by decide) rfl rfl ?_
    refine q_goto hX d_M_deeds_110 rfl ?_
    exact q_mask [true, true] rfl (hk91 _ _ h)
theorem t_M_deeds_l91 {G : qG} {X : qX} (hX : qOk G X "ChantryRollsModel" prog_14_method_26_code 2 (some .int) 6) {u : Int32 × qMem} {f : Nat} (hT : qTg G X 0 0 qKS qRF u.2 (some (.int u.1))) : ∀ (n : Nat) (σ : qMem) (x1 : Int32), qfix2 (p_M_deeds_l91 f   ) n σ x1 = some u → qV G X 0 0 qKS qRF σ 91 [some (.ref 104), some (.int x1)] [] :=
  qfix2_ind (fun k hk _ _ h => t_M_deeds_lb91 hX   hT  hk h)
set_option maxHeartbeats 4000000 in
theorem t_M_deeds_b62 {G : qG} {X : qX} (hX : qOk G X "ChantryRollsModel" prog_14_method_26_code 2 (some .int) 6) {u : Int32 × qMem} {f : Nat} {σ : qMem} (hT : qTg G X 0 0 qKS qRF u.2 (some (.int u.1))) (h : p_M_deeds_b62 f    σ = some u) : qV G X 0 0 qKS qRF σ 62 [some (.ref 104), none] [] := by
  unfold p_M_deeds_b62 at h
  refine q_aload_n hX d_M_deeds_62 rfl ?_
  refine q_getI hX fl_M_200 kc_104 d_M_deeds_63 ?_
  refine q_if_le hX d_M_deeds_66 rfl h (fun _ h => ?_) (fun _ h => ?_)
  · refine q_aload_n hX d_M_deeds_86 rfl ?_
    refine q_getI hX fl_M_162 kc_104 d_M_deeds_87 ?_
    refine q_istore_n hX d_M_deeds_90 (by decide) rfl rfl ?_
    exact q_mask [true, true] rfl (t_M_deeds_l91 hX hT f _ _ h)
  · refine q_aload_n hX d_M_deeds_69 rfl ?_
    refine q_aload_n hX d_M_deeds_70 rfl ?_
    refine q_getI hX fl_M_200 kc_104 d_M_deeds_71 ?_
    refine q_putI hX fl_M_261 kc_104 rfl qKS_len d_M_deeds_74 ?_
    refine q_ldcw hX w_1381 d_M_deeds_77 ?_
    refine q_aload_n hX d_M_deeds_80 rfl ?_
    refine q_getI hX fl_M_203 kc_104 d_M_deeds_81 ?_
    refine q_isub hX d_M_deeds_84 ?_
    exact q_iretW hX h hT d_M_deeds_85
set_option maxHeartbeats 4000000 in
theorem t_M_deeds_lb40 {G : qG} {X : qX} (hX : qOk G X "ChantryRollsModel" prog_14_method_26_code 2 (some .int) 6) {u : Int32 × qMem} {f : Nat} (hT : qTg G X 0 0 qKS qRF u.2 (some (.int u.1))) {k40 : qMem → Option (Int32 × qMem)} (hk40 : ∀ (σ : qMem), k40 σ = some u → qV G X 0 0 qKS qRF σ 40 [some (.ref 104), none] []) {σ : qMem} (h : p_M_deeds_l40 f    k40 σ = some u) : qV G X 0 0 qKS qRF σ 40 [some (.ref 104), none] [] := by
  unfold p_M_deeds_l40 at h
  refine q_aload_n hX d_M_deeds_40 rfl ?_
  refine q_getI hX fl_M_200 kc_104 d_M_deeds_41 ?_
  refine q_if_ne hX d_M_deeds_44 rfl h (fun _ h => ?_) (fun _ h => ?_)
  · exact q_mask [true, false] rfl (t_M_deeds_b62 hX hT h)
  · refine q_aload_n hX d_M_deeds_47 rfl ?_
    refine q_getI hX fl_M_188 kc_104 d_M_deeds_48 ?_
    refine q_iconst hX d_M_deeds_51 ic_1 ?_
    refine q_icmp_eq hX d_M_deeds_52 rfl h (fun _ h => ?_) (fun _ h => ?_)
    · exact q_mask [true, false] rfl (t_M_deeds_b62 hX hT h)
    · refine q_aload_n hX d_M_deeds_55 rfl ?_
      obtain ⟨u2, hc3, h⟩ := qbind h
      refine q_cVv hX (c_M_readDeed X.l G hX.ad f _  hc3) cw_M_258 rfl kc_104 rfl (Nat.le_of_ble_eq_true rfl) rfl (Nat.le_of_ble_eq_true rfl) d_M_deeds_56 ?_
      refine q_goto hX d_M_deeds_59 rfl ?_
      exact q_mask [true, false] rfl (hk40 _ h)
theorem t_M_deeds_l40 {G : qG} {X : qX} (hX : qOk G X "ChantryRollsModel" prog_14_method_26_code 2 (some .int) 6) {u : Int32 × qMem} {f : Nat} (hT : qTg G X 0 0 qKS qRF u.2 (some (.int u.1))) : ∀ (n : Nat) (σ : qMem), qfix1 (p_M_deeds_l40 f   ) n σ = some u → qV G X 0 0 qKS qRF σ 40 [some (.ref 104), none] [] :=
  qfix1_ind (fun k hk _ h => t_M_deeds_lb40 hX   hT  hk h)
set_option maxHeartbeats 4000000 in
theorem c_M_deeds (l : Launch) (G : qG) (hA : qAd G) (f : Nat) (σ : qMem) {u : Int32 × qMem} (h : p_M_deeds f σ  = some u) : qCt l y_M_deeds prog_14_method_26_code 2 (some .int) 6 G qKS qRF σ [(.ref 104)] (some (.int u.1)) qKS qRF u.2 0 0 := by
  refine qCt.of (lv := [some (.ref 104), none]) (by decide) hA (Nat.le_of_ble_eq_true rfl) rfl ?_
  intro X hl _ _ _ hX hT
  subst hl
  unfold p_M_deeds at h
  refine q_aload_n hX d_M_deeds_0 rfl ?_
  refine q_iconst hX d_M_deeds_1 ic_0 ?_
  refine q_putI hX fl_M_137 kc_104 rfl qKS_len d_M_deeds_2 ?_
  refine q_aload_n hX d_M_deeds_5 rfl ?_
  refine q_aload_n hX d_M_deeds_6 rfl ?_
  refine q_getI hX fl_M_169 kc_104 d_M_deeds_7 ?_
  refine q_putI hX fl_M_175 kc_104 rfl qKS_len d_M_deeds_10 ?_
  refine q_aload_n hX d_M_deeds_13 rfl ?_
  refine q_iconst hX d_M_deeds_14 ic_0 ?_
  refine q_putI hX fl_M_169 kc_104 rfl qKS_len d_M_deeds_15 ?_
  refine q_aload_n hX d_M_deeds_18 rfl ?_
  refine q_iconst hX d_M_deeds_19 ic_0 ?_
  refine q_putI hX fl_M_179 kc_104 rfl qKS_len d_M_deeds_20 ?_
  refine q_aload_n hX d_M_deeds_23 rfl ?_
  refine q_iconst hX d_M_deeds_24 ic_0 ?_
  refine q_putI hX fl_M_200 kc_104 rfl qKS_len d_M_deeds_25 ?_
  refine q_aload_n hX d_M_deeds_28 rfl ?_
  refine q_aload_n hX d_M_deeds_29 rfl ?_
  refine q_getI hX fl_M_162 kc_104 d_M_deeds_30 ?_
  refine q_putI hX fl_M_248 kc_104 rfl qKS_len d_M_deeds_33 ?_
  refine q_aload_n hX d_M_deeds_36 rfl ?_
  obtain ⟨u4, hc5, h⟩ := qbind h
  refine q_cVv hX (c_M_step X.l G hX.ad f _  hc5) cw_M_210 rfl kc_104 rfl (Nat.le_of_ble_eq_true rfl) rfl (Nat.le_of_ble_eq_true rfl) d_M_deeds_37 ?_
  exact q_mask [true, false] rfl (t_M_deeds_l40 hX hT f _ h)
set_option maxHeartbeats 4000000 in
theorem c_M_fault (l : Launch) (G : qG) (hA : qAd G) (f : Nat) (σ : qMem) {u : Int32 × qMem} (h : p_M_fault f σ  = some u) : qCt l y_M_fault prog_14_method_27_code 1 (some .int) 1 G qKS qRF σ [(.ref 104)] (some (.int u.1)) qKS qRF u.2 0 0 := by
  refine qCt.of (lv := [some (.ref 104)]) (by decide) hA (Nat.le_of_ble_eq_true rfl) rfl ?_
  intro X hl _ _ _ hX hT
  subst hl
  unfold p_M_fault at h
  refine q_aload_n hX d_M_fault_0 rfl ?_
  refine q_iconst hX d_M_fault_1 ic_0 ?_
  refine q_putI hX fl_M_137 kc_104 rfl qKS_len d_M_fault_2 ?_
  refine q_aload_n hX d_M_fault_5 rfl ?_
  refine q_getI hX fl_M_261 kc_104 d_M_fault_6 ?_
  exact q_iretW hX h hT d_M_fault_9
set_option maxHeartbeats 4000000 in
theorem c_M_isPromise (l : Launch) (G : qG) (hA : qAd G) (f : Nat) (σ : qMem) (x1 : Int32) {u : Int32} (h : p_M_isPromise f σ x1 = some u) : qCt l y_M_isPromise prog_14_method_11_code 2 (some .boolean) 2 G qKS qRF σ [(.ref 104), (.int x1)] (some (.int u)) qKS qRF σ 0 0 := by
  refine qCt.of (lv := [some (.ref 104), some (.int x1)]) (by decide) hA (Nat.le_of_ble_eq_true rfl) rfl ?_
  intro X hl _ _ _ hX hT
  subst hl
  unfold p_M_isPromise at h
  refine q_iload_n hX d_M_isPromise_0 rfl ?_
  refine q_i2l hX d_M_isPromise_1 ?_
  refine q_lconst hX d_M_isPromise_2 lc_0 ?_
  refine q_aload_n hX d_M_isPromise_3 rfl ?_
  refine q_getI hX fl_M_162 kc_104 d_M_isPromise_4 ?_
  refine q_iconst hX d_M_isPromise_7 ic_1 ?_
  refine q_isub hX d_M_isPromise_8 ?_
  refine q_i2l hX d_M_isPromise_9 ?_
  obtain ⟨u1, hc2, h⟩ := qbind h
  refine q_cSr hX (c_M_in X.l G hX.ad f _ _ _ _ hc2) cw_M_147 rfl (Nat.le_of_ble_eq_true rfl) rfl (Nat.le_of_ble_eq_true rfl) d_M_isPromise_10 ?_
  exact q_zretR hX rfl h hT d_M_isPromise_13
set_option maxHeartbeats 4000000 in
theorem c_M_of (l : Launch) (G : qG) (hA : qAd G) (f : Nat) (σ : qMem) (x1 : Int32) (x2 : Int32) {u : Int32} (h : p_M_of f σ x1 x2 = some u) : qCt l y_M_of prog_14_method_13_code 3 (some .int) 1 G qKS qRF σ [(.ref 104), (.int x1), (.int x2)] (some (.int u)) qKS qRF σ 0 0 := by
  refine qCt.of (lv := [some (.ref 104), some (.int x1), some (.int x2)]) (by decide) hA (Nat.le_of_ble_eq_true rfl) rfl ?_
  intro X hl _ _ _ hX hT
  subst hl
  unfold p_M_of at h
  refine q_aload_n hX d_M_of_0 rfl ?_
  refine q_getR hX fl_M_19 kc_104 (rfl : qRF 104 6 = some 108) d_M_of_1 ?_
  refine q_bipush hX d_M_of_4 bp_11 ?_
  refine q_iload_n hX d_M_of_6 rfl ?_
  refine q_imul hX d_M_of_7 ?_
  refine q_iload_n hX d_M_of_8 rfl ?_
  refine q_iadd hX d_M_of_9 ?_
  refine q_iald hX kc_108 d_M_of_10 h (fun hi1 h => ?_)
  exact q_iretR hX h hT d_M_of_11
set_option maxHeartbeats 4000000 in
theorem c_M_told (l : Launch) (G : qG) (hA : qAd G) (f : Nat) (σ : qMem) (x1 : Int32) (x2 : Int32) {u : Int32 × qMem} (h : p_M_told f σ x1 x2 = some u) : qCt l y_M_told prog_14_method_28_code 3 (some .int) 3 G qKS qRF σ [(.ref 104), (.int x1), (.int x2)] (some (.int u.1)) qKS qRF u.2 0 0 := by
  refine qCt.of (lv := [some (.ref 104), some (.int x1), some (.int x2)]) (by decide) hA (Nat.le_of_ble_eq_true rfl) rfl ?_
  intro X hl _ _ _ hX hT
  subst hl
  unfold p_M_told at h
  refine q_aload_n hX d_M_told_0 rfl ?_
  refine q_iconst hX d_M_told_1 ic_0 ?_
  refine q_putI hX fl_M_137 kc_104 rfl qKS_len d_M_told_2 ?_
  refine q_aload_n hX d_M_told_5 rfl ?_
  refine q_iload_n hX d_M_told_6 rfl ?_
  obtain ⟨u1, hc2, h⟩ := qbind h
  refine q_cVr hX (c_M_isPromise X.l G hX.ad f _ _ hc2) cw_M_265 rfl kc_104 rfl (Nat.le_of_ble_eq_true rfl) rfl (Nat.le_of_ble_eq_true rfl) d_M_told_7 ?_
  refine q_if_eq hX d_M_told_10 rfl h (fun _ h => ?_) (fun _ h => ?_)
  · refine q_ldc hX w_1298 d_M_told_25 ?_
    refine q_goto hX d_M_told_27 rfl ?_
    exact q_iretW hX h hT d_M_told_36
  · refine q_iload_n hX d_M_told_13 rfl ?_
    refine q_i2l hX d_M_told_14 ?_
    refine q_lconst hX d_M_told_15 lc_0 ?_
    refine q_ldc2 hX w_1394 d_M_told_16 ?_
    obtain ⟨u3, hc4, h⟩ := qbind h
    refine q_cSr hX (c_M_in X.l G hX.ad f _ _ _ _ hc4) cw_M_147 rfl (Nat.le_of_ble_eq_true rfl) rfl (Nat.le_of_ble_eq_true rfl) d_M_told_19 ?_
    refine q_if_ne hX d_M_told_22 rfl h (fun _ h => ?_) (fun _ h => ?_)
    · refine q_aload_n hX d_M_told_30 rfl ?_
      refine q_iload_n hX d_M_told_31 rfl ?_
      refine q_iload_n hX d_M_told_32 rfl ?_
      obtain ⟨u5, hc6, h⟩ := qbind h
      refine q_cVr hX (c_M_of X.l G hX.ad f _ _ _ hc6) cw_M_270 rfl kc_104 rfl (Nat.le_of_ble_eq_true rfl) rfl (Nat.le_of_ble_eq_true rfl) d_M_told_33 ?_
      exact q_iretW hX h hT d_M_told_36
    · refine q_ldc hX w_1298 d_M_told_25 ?_
      refine q_goto hX d_M_told_27 rfl ?_
      exact q_iretW hX h hT d_M_told_36
set_option maxHeartbeats 4000000 in
theorem c_M_isDay (l : Launch) (G : qG) (hA : qAd G) (f : Nat) (σ : qMem) (x0 : Int32) {u : Int32} (h : p_M_isDay f σ x0 = some u) : qCt l y_M_isDay prog_14_method_12_code 1 (some .boolean) 2 G qKS qRF σ [(.int x0)] (some (.int u)) qKS qRF σ 0 0 := by
  refine qCt.of (lv := [some (.int x0)]) (by decide) hA (Nat.le_of_ble_eq_true rfl) rfl ?_
  intro X hl _ _ _ hX hT
  subst hl
  unfold p_M_isDay at h
  refine q_iload_n hX d_M_isDay_0 rfl ?_
  refine q_i2l hX d_M_isDay_1 ?_
  refine q_lconst hX d_M_isDay_2 lc_0 ?_
  refine q_ldc2 hX w_1406 d_M_isDay_3 ?_
  obtain ⟨u1, hc2, h⟩ := qbind h
  refine q_cSr hX (c_M_in X.l G hX.ad f _ _ _ _ hc2) cw_M_147 rfl (Nat.le_of_ble_eq_true rfl) rfl (Nat.le_of_ble_eq_true rfl) d_M_isDay_6 ?_
  exact q_zretR hX rfl h hT d_M_isDay_9
set_option maxHeartbeats 4000000 in
theorem c_M_feast (l : Launch) (G : qG) (hA : qAd G) (f : Nat) (σ : qMem) (x1 : Int32) (x2 : Int32) {u : Int32 × qMem} (h : p_M_feast f σ x1 x2 = some u) : qCt l y_M_feast prog_14_method_29_code 3 (some .int) 3 G qKS qRF σ [(.ref 104), (.int x1), (.int x2)] (some (.int u.1)) qKS qRF u.2 0 0 := by
  refine qCt.of (lv := [some (.ref 104), some (.int x1), some (.int x2)]) (by decide) hA (Nat.le_of_ble_eq_true rfl) rfl ?_
  intro X hl _ _ _ hX hT
  subst hl
  unfold p_M_feast at h
  refine q_aload_n hX d_M_feast_0 rfl ?_
  refine q_iconst hX d_M_feast_1 ic_0 ?_
  refine q_putI hX fl_M_137 kc_104 rfl qKS_len d_M_feast_2 ?_
  refine q_iload_n hX d_M_feast_5 rfl ?_
  obtain ⟨u1, hc2, h⟩ := qbind h
  refine q_cSr hX (c_M_isDay X.l G hX.ad f _ _ hc2) cw_M_274 rfl (Nat.le_of_ble_eq_true rfl) rfl (Nat.le_of_ble_eq_true rfl) d_M_feast_6 ?_
  refine q_if_eq hX d_M_feast_9 rfl h (fun _ h => ?_) (fun _ h => ?_)
  · refine q_ldc hX w_1298 d_M_feast_24 ?_
    exact q_iretW hX h hT d_M_feast_26
  · refine q_iload_n hX d_M_feast_12 rfl ?_
    refine q_i2l hX d_M_feast_13 ?_
    refine q_lconst hX d_M_feast_14 lc_1 ?_
    refine q_ldc2 hX w_1297 d_M_feast_15 ?_
    obtain ⟨u3, hc4, h⟩ := qbind h
    refine q_cSr hX (c_M_in X.l G hX.ad f _ _ _ _ hc4) cw_M_147 rfl (Nat.le_of_ble_eq_true rfl) rfl (Nat.le_of_ble_eq_true rfl) d_M_feast_18 ?_
    refine q_if_ne hX d_M_feast_21 rfl h (fun _ h => ?_) (fun _ h => ?_)
    · refine q_aload_n hX d_M_feast_27 rfl ?_
      refine q_getI hX fl_M_277 kc_104 d_M_feast_28 ?_
      refine q_bipush hX d_M_feast_31 bp_30 ?_
      refine q_icmp_ne hX d_M_feast_33 rfl h (fun _ h => ?_) (fun _ h => ?_)
      · refine q_aload_n hX d_M_feast_39 rfl ?_
        refine q_getR hX fl_M_25 kc_104 (rfl : qRF 104 19 = some 110) d_M_feast_40 ?_
        refine q_aload_n hX d_M_feast_43 rfl ?_
        refine q_getI hX fl_M_277 kc_104 d_M_feast_44 ?_
        refine q_iload_n hX d_M_feast_47 rfl ?_
        refine q_iast hX kc_110 qKS_len d_M_feast_48 h (fun hi5 h => ?_)
        refine q_aload_n hX d_M_feast_49 rfl ?_
        refine q_getR hX fl_M_28 kc_104 (rfl : qRF 104 20 = some 111) d_M_feast_50 ?_
        refine q_aload_n hX d_M_feast_53 rfl ?_
        refine q_getI hX fl_M_277 kc_104 d_M_feast_54 ?_
        refine q_iload_n hX d_M_feast_57 rfl ?_
        refine q_iast hX kc_111 qKS_len d_M_feast_58 h (fun hi6 h => ?_)
        refine q_aload_n hX d_M_feast_59 rfl ?_
        refine q_dup hX rfl d_M_feast_60 ?_
        refine q_getI hX fl_M_277 kc_104 d_M_feast_61 ?_
        refine q_iconst hX d_M_feast_64 ic_1 ?_
        refine q_iadd hX d_M_feast_65 ?_
        refine q_putI hX fl_M_277 kc_104 rfl qKS_len d_M_feast_66 ?_
        refine q_aload_n hX d_M_feast_69 rfl ?_
        refine q_getI hX fl_M_277 kc_104 d_M_feast_70 ?_
        exact q_iretW hX h hT d_M_feast_73
      · refine q_ldc hX w_1321 d_M_feast_36 ?_
        exact q_iretW hX h hT d_M_feast_38
    · refine q_ldc hX w_1298 d_M_feast_24 ?_
      exact q_iretW hX h hT d_M_feast_26
set_option maxHeartbeats 4000000 in
theorem c_M_isPriest (l : Launch) (G : qG) (hA : qAd G) (f : Nat) (σ : qMem) (x0 : Int32) {u : Int32} (h : p_M_isPriest f σ x0 = some u) : qCt l y_M_isPriest prog_14_method_33_code 1 (some .boolean) 2 G qKS qRF σ [(.int x0)] (some (.int u)) qKS qRF σ 0 0 := by
  refine qCt.of (lv := [some (.int x0)]) (by decide) hA (Nat.le_of_ble_eq_true rfl) rfl ?_
  intro X hl _ _ _ hX hT
  subst hl
  unfold p_M_isPriest at h
  refine q_iload_n hX d_M_isPriest_0 rfl ?_
  refine q_i2l hX d_M_isPriest_1 ?_
  refine q_lconst hX d_M_isPriest_2 lc_0 ?_
  refine q_ldc2 hX w_1293 d_M_isPriest_3 ?_
  obtain ⟨u1, hc2, h⟩ := qbind h
  refine q_cSr hX (c_M_in X.l G hX.ad f _ _ _ _ hc2) cw_M_147 rfl (Nat.le_of_ble_eq_true rfl) rfl (Nat.le_of_ble_eq_true rfl) d_M_isPriest_6 ?_
  exact q_zretR hX rfl h hT d_M_isPriest_9
set_option maxHeartbeats 4000000 in
theorem c_M_vow (l : Launch) (G : qG) (hA : qAd G) (f : Nat) (σ : qMem) (x1 : Int32) (x2 : Int32) {u : Int32 × qMem} (h : p_M_vow f σ x1 x2 = some u) : qCt l y_M_vow prog_14_method_34_code 4 (some .int) 3 G qKS qRF σ [(.ref 104), (.int x1), (.int x2)] (some (.int u.1)) qKS qRF u.2 0 0 := by
  refine qCt.of (lv := [some (.ref 104), some (.int x1), some (.int x2), none]) (by decide) hA (Nat.le_of_ble_eq_true rfl) rfl ?_
  intro X hl _ _ _ hX hT
  subst hl
  unfold p_M_vow at h
  refine q_aload_n hX d_M_vow_0 rfl ?_
  refine q_iconst hX d_M_vow_1 ic_0 ?_
  refine q_putI hX fl_M_137 kc_104 rfl qKS_len d_M_vow_2 ?_
  refine q_iload_n hX d_M_vow_5 rfl ?_
  obtain ⟨u1, hc2, h⟩ := qbind h
  refine q_cSr hX (c_M_isPriest X.l G hX.ad f _ _ hc2) cw_M_286 rfl (Nat.le_of_ble_eq_true rfl) rfl (Nat.le_of_ble_eq_true rfl) d_M_vow_6 ?_
  refine q_if_eq hX d_M_vow_9 rfl h (fun _ h => ?_) (fun _ h => ?_)
  · refine q_ldc hX w_1298 d_M_vow_24 ?_
    exact q_iretW hX h hT d_M_vow_26
  · refine q_iload_n hX d_M_vow_12 rfl ?_
    refine q_i2l hX d_M_vow_13 ?_
    refine q_lconst hX d_M_vow_14 lc_1 ?_
    refine q_ldc2 hX w_1414 d_M_vow_15 ?_
    obtain ⟨u3, hc4, h⟩ := qbind h
    refine q_cSr hX (c_M_in X.l G hX.ad f _ _ _ _ hc4) cw_M_147 rfl (Nat.le_of_ble_eq_true rfl) rfl (Nat.le_of_ble_eq_true rfl) d_M_vow_18 ?_
    refine q_if_ne hX d_M_vow_21 rfl h (fun _ h => ?_) (fun _ h => ?_)
    · refine q_aload_n hX d_M_vow_27 rfl ?_
      refine q_getR hX fl_M_44 kc_104 (rfl : qRF 104 26 = some 116) d_M_vow_28 ?_
      refine q_iload_n hX d_M_vow_31 rfl ?_
      refine q_iald hX kc_116 d_M_vow_32 h (fun hi5 h => ?_)
      refine q_istore_n hX d_M_vow_33 (by decide) rfl rfl ?_
      refine q_aload_n hX d_M_vow_34 rfl ?_
      refine q_getR hX fl_M_44 kc_104 (rfl : qRF 104 26 = some 116) d_M_vow_35 ?_
      refine q_iload_n hX d_M_vow_38 rfl ?_
      refine q_iload_n hX d_M_vow_39 rfl ?_
      refine q_iast hX kc_116 qKS_len d_M_vow_40 h (fun hi6 h => ?_)
      refine q_iload_n hX d_M_vow_41 rfl ?_
      exact q_iretW hX h hT d_M_vow_42
    · refine q_ldc hX w_1298 d_M_vow_24 ?_
      exact q_iretW hX h hT d_M_vow_26
set_option maxHeartbeats 4000000 in
theorem c_M_sick (l : Launch) (G : qG) (hA : qAd G) (f : Nat) (σ : qMem) (x1 : Int32) (x2 : Int32) (x3 : Int32) {u : Int32 × qMem} (h : p_M_sick f σ x1 x2 x3 = some u) : qCt l y_M_sick prog_14_method_35_code 4 (some .int) 3 G qKS qRF σ [(.ref 104), (.int x1), (.int x2), (.int x3)] (some (.int u.1)) qKS qRF u.2 0 0 := by
  refine qCt.of (lv := [some (.ref 104), some (.int x1), some (.int x2), some (.int x3)]) (by decide) hA (Nat.le_of_ble_eq_true rfl) rfl ?_
  intro X hl _ _ _ hX hT
  subst hl
  unfold p_M_sick at h
  refine q_aload_n hX d_M_sick_0 rfl ?_
  refine q_iconst hX d_M_sick_1 ic_0 ?_
  refine q_putI hX fl_M_137 kc_104 rfl qKS_len d_M_sick_2 ?_
  refine q_iload_n hX d_M_sick_5 rfl ?_
  obtain ⟨u1, hc2, h⟩ := qbind h
  refine q_cSr hX (c_M_isPriest X.l G hX.ad f _ _ hc2) cw_M_286 rfl (Nat.le_of_ble_eq_true rfl) rfl (Nat.le_of_ble_eq_true rfl) d_M_sick_6 ?_
  refine q_if_eq hX d_M_sick_9 rfl h (fun _ h => ?_) (fun _ h => ?_)
  · refine q_ldc hX w_1298 d_M_sick_32 ?_
    exact q_iretW hX h hT d_M_sick_34
  · refine q_iload_n hX d_M_sick_12 rfl ?_
    obtain ⟨u3, hc4, h⟩ := qbind h
    refine q_cSr hX (c_M_isDay X.l G hX.ad f _ _ hc4) cw_M_274 rfl (Nat.le_of_ble_eq_true rfl) rfl (Nat.le_of_ble_eq_true rfl) d_M_sick_13 ?_
    refine q_if_eq hX d_M_sick_16 rfl h (fun _ h => ?_) (fun _ h => ?_)
    · refine q_ldc hX w_1298 d_M_sick_32 ?_
      exact q_iretW hX h hT d_M_sick_34
    · refine q_iload_n hX d_M_sick_19 rfl ?_
      refine q_i2l hX d_M_sick_20 ?_
      refine q_iload_n hX d_M_sick_21 rfl ?_
      refine q_i2l hX d_M_sick_22 ?_
      refine q_ldc2 hX w_1406 d_M_sick_23 ?_
      obtain ⟨u5, hc6, h⟩ := qbind h
      refine q_cSr hX (c_M_in X.l G hX.ad f _ _ _ _ hc6) cw_M_147 rfl (Nat.le_of_ble_eq_true rfl) rfl (Nat.le_of_ble_eq_true rfl) d_M_sick_26 ?_
      refine q_if_ne hX d_M_sick_29 rfl h (fun _ h => ?_) (fun _ h => ?_)
      · refine q_aload_n hX d_M_sick_35 rfl ?_
        refine q_getI hX fl_M_291 kc_104 d_M_sick_36 ?_
        refine q_bipush hX d_M_sick_39 bp_20 ?_
        refine q_icmp_ne hX d_M_sick_41 rfl h (fun _ h => ?_) (fun _ h => ?_)
        · refine q_aload_n hX d_M_sick_47 rfl ?_
          refine q_getR hX fl_M_47 kc_104 (rfl : qRF 104 28 = some 117) d_M_sick_48 ?_
          refine q_aload_n hX d_M_sick_51 rfl ?_
          refine q_getI hX fl_M_291 kc_104 d_M_sick_52 ?_
          refine q_iload_n hX d_M_sick_55 rfl ?_
          refine q_iast hX kc_117 qKS_len d_M_sick_56 h (fun hi7 h => ?_)
          refine q_aload_n hX d_M_sick_57 rfl ?_
          refine q_getR hX fl_M_50 kc_104 (rfl : qRF 104 29 = some 118) d_M_sick_58 ?_
          refine q_aload_n hX d_M_sick_61 rfl ?_
          refine q_getI hX fl_M_291 kc_104 d_M_sick_62 ?_
          refine q_iload_n hX d_M_sick_65 rfl ?_
          refine q_iast hX kc_118 qKS_len d_M_sick_66 h (fun hi8 h => ?_)
          refine q_aload_n hX d_M_sick_67 rfl ?_
          refine q_getR hX fl_M_53 kc_104 (rfl : qRF 104 30 = some 119) d_M_sick_68 ?_
          refine q_aload_n hX d_M_sick_71 rfl ?_
          refine q_getI hX fl_M_291 kc_104 d_M_sick_72 ?_
          refine q_iload_n hX d_M_sick_75 rfl ?_
          refine q_iast hX kc_119 qKS_len d_M_sick_76 h (fun hi9 h => ?_)
          refine q_aload_n hX d_M_sick_77 rfl ?_
          refine q_dup hX rfl d_M_sick_78 ?_
          refine q_getI hX fl_M_291 kc_104 d_M_sick_79 ?_
          refine q_iconst hX d_M_sick_82 ic_1 ?_
          refine q_iadd hX d_M_sick_83 ?_
          refine q_putI hX fl_M_291 kc_104 rfl qKS_len d_M_sick_84 ?_
          refine q_aload_n hX d_M_sick_87 rfl ?_
          refine q_getI hX fl_M_291 kc_104 d_M_sick_88 ?_
          exact q_iretW hX h hT d_M_sick_91
        · refine q_ldc hX w_1321 d_M_sick_44 ?_
          exact q_iretW hX h hT d_M_sick_46
      · refine q_ldc hX w_1298 d_M_sick_32 ?_
        exact q_iretW hX h hT d_M_sick_34
