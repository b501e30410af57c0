set_option maxHeartbeats 4000000 in
theorem c_M_line (l : Launch) (G : qG) (hA : qAd G) (f : Nat) (σ : qMem) (x1 : Int32) (x2 : Int32) (x3 : Int32) {u : Int32 × qMem} (h : p_M_line f σ x1 x2 x3 = some u) : qCt l y_M_line prog_14_method_37_code 4 (some .int) 3 G qKS qRF σ [(.ref 104), (.int x1), (.int x2), (.int x3)] (some (.int u.1)) qKS qRF u.2 0 0 := by
  refine qCt.of (lv := [some (.ref 104), some (.int x1), some (.int x2), some (.int x3)]) (by decide) hA (Nat.le_of_ble_eq_true rfl) rfl ?_
  intro X hl _ _ _ hX hT
  subst hl
  unfold p_M_line at h
  refine q_aload_n hX d_M_line_0 rfl ?_
  refine q_iload_n hX d_M_line_1 rfl ?_
  obtain ⟨u1, hc2, h⟩ := qbind h
  refine q_cVr hX (c_M_isPromise X.l G hX.ad f _ _ hc2) cw_M_265 rfl kc_104 rfl (Nat.le_of_ble_eq_true rfl) rfl (Nat.le_of_ble_eq_true rfl) d_M_line_2 ?_
  refine q_if_eq hX d_M_line_5 rfl h (fun _ h => ?_) (fun _ h => ?_)
  · refine q_ldc hX w_1298 d_M_line_27 ?_
    exact q_iretW hX h hT d_M_line_29
  · refine q_iload_n hX d_M_line_8 rfl ?_
    obtain ⟨u3, hc4, h⟩ := qbind h
    refine q_cSr hX (c_M_isDay X.l G hX.ad f _ _ hc4) cw_M_274 rfl (Nat.le_of_ble_eq_true rfl) rfl (Nat.le_of_ble_eq_true rfl) d_M_line_9 ?_
    refine q_if_eq hX d_M_line_12 rfl h (fun _ h => ?_) (fun _ h => ?_)
    · refine q_ldc hX w_1298 d_M_line_27 ?_
      exact q_iretW hX h hT d_M_line_29
    · refine q_iload_n hX d_M_line_15 rfl ?_
      refine q_i2l hX d_M_line_16 ?_
      refine q_lconst hX d_M_line_17 lc_0 ?_
      refine q_ldc2 hX w_1427 d_M_line_18 ?_
      obtain ⟨u5, hc6, h⟩ := qbind h
      refine q_cSr hX (c_M_in X.l G hX.ad f _ _ _ _ hc6) cw_M_147 rfl (Nat.le_of_ble_eq_true rfl) rfl (Nat.le_of_ble_eq_true rfl) d_M_line_21 ?_
      refine q_if_ne hX d_M_line_24 rfl h (fun _ h => ?_) (fun _ h => ?_)
      · refine q_aload_n hX d_M_line_30 rfl ?_
        refine q_getI hX fl_M_296 kc_104 d_M_line_31 ?_
        refine q_bipush hX d_M_line_34 bp_60 ?_
        refine q_icmp_ne hX d_M_line_36 rfl h (fun _ h => ?_) (fun _ h => ?_)
        · refine q_aload_n hX d_M_line_42 rfl ?_
          refine q_getR hX fl_M_31 kc_104 (rfl : qRF 104 22 = some 112) d_M_line_43 ?_
          refine q_aload_n hX d_M_line_46 rfl ?_
          refine q_getI hX fl_M_296 kc_104 d_M_line_47 ?_
          refine q_iload_n hX d_M_line_50 rfl ?_
          refine q_iast hX kc_112 qKS_len d_M_line_51 h (fun hi7 h => ?_)
          refine q_aload_n hX d_M_line_52 rfl ?_
          refine q_getR hX fl_M_34 kc_104 (rfl : qRF 104 23 = some 113) d_M_line_53 ?_
          refine q_aload_n hX d_M_line_56 rfl ?_
          refine q_getI hX fl_M_296 kc_104 d_M_line_57 ?_
          refine q_iload_n hX d_M_line_60 rfl ?_
          refine q_iast hX kc_113 qKS_len d_M_line_61 h (fun hi8 h => ?_)
          refine q_aload_n hX d_M_line_62 rfl ?_
          refine q_getR hX fl_M_37 kc_104 (rfl : qRF 104 24 = some 114) d_M_line_63 ?_
          refine q_aload_n hX d_M_line_66 rfl ?_
          refine q_getI hX fl_M_296 kc_104 d_M_line_67 ?_
          refine q_iload_n hX d_M_line_70 rfl ?_
          refine q_iast hX kc_114 qKS_len d_M_line_71 h (fun hi9 h => ?_)
          refine q_aload_n hX d_M_line_72 rfl ?_
          refine q_dup hX rfl d_M_line_73 ?_
          refine q_getI hX fl_M_296 kc_104 d_M_line_74 ?_
          refine q_iconst hX d_M_line_77 ic_1 ?_
          refine q_iadd hX d_M_line_78 ?_
          refine q_putI hX fl_M_296 kc_104 rfl qKS_len d_M_line_79 ?_
          refine q_aload_n hX d_M_line_82 rfl ?_
          refine q_getI hX fl_M_296 kc_104 d_M_line_83 ?_
          refine q_iconst hX d_M_line_86 ic_1 ?_
          refine q_isub hX d_M_line_87 ?_
          exact q_iretW hX h hT d_M_line_88
        · refine q_ldc hX w_1321 d_M_line_39 ?_
          exact q_iretW hX h hT d_M_line_41
      · refine q_ldc hX w_1298 d_M_line_27 ?_
        exact q_iretW hX h hT d_M_line_29
set_option maxHeartbeats 4000000 in
theorem c_M_say (l : Launch) (G : qG) (hA : qAd G) (f : Nat) (σ : qMem) (x1 : Int32) (x2 : Int32) (x3 : Int32) {u : Int32 × qMem} (h : p_M_say f σ x1 x2 x3 = some u) : qCt l y_M_say prog_14_method_38_code 4 (some .int) 4 G qKS qRF σ [(.ref 104), (.int x1), (.int x2), (.int x3)] (some (.int u.1)) qKS qRF u.2 0 0 := by
  refine qCt.of (lv := [some (.ref 104), some (.int x1), some (.int x2), some (.int x3)]) (by decide) hA (Nat.le_of_ble_eq_true rfl) rfl ?_
  intro X hl _ _ _ hX hT
  subst hl
  unfold p_M_say at h
  refine q_aload_n hX d_M_say_0 rfl ?_
  refine q_iconst hX d_M_say_1 ic_0 ?_
  refine q_putI hX fl_M_137 kc_104 rfl qKS_len d_M_say_2 ?_
  refine q_aload_n hX d_M_say_5 rfl ?_
  refine q_iload_n hX d_M_say_6 rfl ?_
  refine q_iload_n hX d_M_say_7 rfl ?_
  refine q_iload_n hX d_M_say_8 rfl ?_
  obtain ⟨u1, hc2, h⟩ := qbind h
  refine q_cVr hX (c_M_line X.l G hX.ad f _ _ _ _ hc2) cw_M_299 rfl kc_104 rfl (Nat.le_of_ble_eq_true rfl) rfl (Nat.le_of_ble_eq_true rfl) d_M_say_9 ?_
  exact q_iretW hX h hT d_M_say_12
set_option maxHeartbeats 4000000 in
theorem t_M_lookItems_b35 {G : qG} {X : qX} (hX : qOk G X "ChantryRollsModel" prog_14_method_10_code 4 (some .int) 2) {u : Int32 × qMem} {f : Nat} {σ : qMem} (hT : qTg G X 0 0 qKS qRF u.2 (some (.int u.1))) (h : p_M_lookItems_b35 f    σ = some u) : qV G X 0 0 qKS qRF σ 35 [some (.ref 104), none, none, none] [] := by
  unfold p_M_lookItems_b35 at h
  refine q_aload_n hX d_M_lookItems_35 rfl ?_
  refine q_iconst hX d_M_lookItems_36 ic_2 ?_
  obtain ⟨u1, hc2, h⟩ := qbind h
  refine q_cVr hX (c_M_finding X.l G hX.ad f _ _ hc2) cw_M_158 rfl kc_104 rfl (Nat.le_of_ble_eq_true rfl) rfl (Nat.le_of_ble_eq_true rfl) d_M_lookItems_37 ?_
  refine q_goto hX d_M_lookItems_40 rfl ?_
  exact q_iretW hX h hT d_M_lookItems_44
set_option maxHeartbeats 4000000 in
theorem c_M_lookItems (l : Launch) (G : qG) (hA : qAd G) (f : Nat) (σ : qMem) (x1 : Int32) (x2 : Int32) (x3 : Int32) {u : Int32 × qMem} (h : p_M_lookItems f σ x1 x2 x3 = some u) : qCt l y_M_lookItems prog_14_method_10_code 4 (some .int) 2 G qKS qRF σ [(.ref 104), (.int x1), (.int x2), (.int x3)] (some (.int u.1)) qKS qRF u.2 0 0 := by
  refine qCt.of (lv := [some (.ref 104), some (.int x1), some (.int x2), some (.int x3)]) (by decide) hA (Nat.le_of_ble_eq_true rfl) rfl ?_
  intro X hl _ _ _ hX hT
  subst hl
  unfold p_M_lookItems at h
  refine q_aload_n hX d_M_lookItems_0 rfl ?_
  refine q_getR hX fl_M_7 kc_104 (rfl : qRF 104 2 = some 105) d_M_lookItems_1 ?_
  refine q_iload_n hX d_M_lookItems_4 rfl ?_
  refine q_iald hX kc_105 d_M_lookItems_5 h (fun hi3 h => ?_)
  refine q_if_ge hX d_M_lookItems_6 rfl h (fun _ h => ?_) (fun _ h => ?_)
  · refine q_iload_n hX d_M_lookItems_15 rfl ?_
    refine q_if_lt hX d_M_lookItems_16 rfl h (fun _ h => ?_) (fun _ h => ?_)
    · exact q_mask [true, false, false, false] rfl (t_M_lookItems_b35 hX hT h)
    · refine q_iload_n hX d_M_lookItems_19 rfl ?_
      refine q_i2l hX d_M_lookItems_20 ?_
      refine q_iload_n hX d_M_lookItems_21 rfl ?_
      refine q_i2l hX d_M_lookItems_22 ?_
      refine q_ladd hX d_M_lookItems_23 ?_
      refine q_aload_n hX d_M_lookItems_24 rfl ?_
      refine q_getR hX fl_M_13 kc_104 (rfl : qRF 104 3 = some 106) d_M_lookItems_25 ?_
      refine q_iload_n hX d_M_lookItems_28 rfl ?_
      refine q_iald hX kc_106 d_M_lookItems_29 h (fun hi4 h => ?_)
      refine q_i2l hX d_M_lookItems_30 ?_
      refine q_lcmp hX d_M_lookItems_31 ?_
      refine q_if_le hX d_M_lookItems_32 rfl h (fun _ h => ?_) (fun _ h => ?_)
      · refine q_iconst hX d_M_lookItems_43 ic_0 ?_
        exact q_iretW hX h hT d_M_lookItems_44
      · exact q_mask [true, false, false, false] rfl (t_M_lookItems_b35 hX hT h)
  · refine q_aload_n hX d_M_lookItems_9 rfl ?_
    refine q_iconst hX d_M_lookItems_10 ic_1 ?_
    obtain ⟨u5, hc6, h⟩ := qbind h
    refine q_cVr hX (c_M_finding X.l G hX.ad f _ _ hc6) cw_M_158 rfl kc_104 rfl (Nat.le_of_ble_eq_true rfl) rfl (Nat.le_of_ble_eq_true rfl) d_M_lookItems_11 ?_
    exact q_iretW hX h hT d_M_lookItems_14
set_option maxHeartbeats 4000000 in
theorem t_M_lines_lb57 {G : qG} {X : qX} (hX : qOk G X "ChantryRollsModel" prog_14_method_39_code 8 (some .int) 4) {u : Int32 × qMem} {f : Nat} {x1 : Int32} {x2 : Int32} {x3 : Int32} (hT : qTg G X 0 0 qKS qRF u.2 (some (.int u.1))) {k57 : qMem → Int32 → Int32 → Option (Int32 × qMem)} (hk57 : ∀ (σ : qMem) (x5 : Int32) (x6 : Int32), k57 σ x5 x6 = some u → qV G X 0 0 qKS qRF σ 57 [some (.ref 104), some (.int x1), some (.int x2), some (.int x3), none, some (.int x5), some (.int x6), none] []) {σ : qMem} {x5 : Int32} {x6 : Int32} (h : p_M_lines_l57 f  x1 x2 x3  k57 σ x5 x6 = some u) : qV G X 0 0 qKS qRF σ 57 [some (.ref 104), some (.int x1), some (.int x2), some (.int x3), none, some (.int x5), some (.int x6), none] [] := by
  unfold p_M_lines_l57 at h
  refine q_iload hX d_M_lines_57 rfl ?_
  refine q_iload_n hX d_M_lines_59 rfl ?_
  refine q_icmp_ge hX d_M_lines_60 rfl h (fun _ h => ?_) (fun _ h => ?_)
  · refine q_iload hX d_M_lines_124 rfl ?_
    exact q_iretW hX h hT d_M_lines_126
  · refine q_bipush hX d_M_lines_63 bp_60 ?_
    refine q_iload_n hX d_M_lines_65 rfl ?_
    refine q_imul hX d_M_lines_66 ?_
    refine q_iload_n hX d_M_lines_67 rfl ?_
    refine q_iadd hX d_M_lines_68 ?_
    refine q_iconst hX d_M_lines_69 ic_3 ?_
    refine q_iload hX d_M_lines_70 rfl ?_
    refine q_imul hX d_M_lines_72 ?_
    refine q_iadd hX d_M_lines_73 ?_
    refine q_istore hX d_M_lines_74 (by decide) rfl rfl ?_
    refine q_iload hX d_M_lines_76 rfl ?_
    refine q_aload_n hX d_M_lines_78 rfl ?_
    refine q_aload_n hX d_M_lines_79 rfl ?_
    refine q_getR hX fl_M_16 kc_104 (rfl : qRF 104 4 = some 107) d_M_lines_80 ?_
    refine q_iload hX d_M_lines_83 rfl ?_
    refine q_iald hX kc_107 d_M_lines_85 h (fun hi1 h => ?_)
    refine q_aload_n hX d_M_lines_86 rfl ?_
    refine q_getR hX fl_M_16 kc_104 (rfl : qRF 104 4 = some 107) d_M_lines_87 ?_
    refine q_iload hX d_M_lines_90 rfl ?_
    refine q_iconst hX d_M_lines_92 ic_1 ?_
    refine q_iadd hX d_M_lines_93 ?_
    refine q_iald hX kc_107 d_M_lines_94 h (fun hi2 h => ?_)
    refine q_aload_n hX d_M_lines_95 rfl ?_
    refine q_getR hX fl_M_16 kc_104 (rfl : qRF 104 4 = some 107) d_M_lines_96 ?_
    refine q_iload hX d_M_lines_99 rfl ?_
    refine q_iconst hX d_M_lines_101 ic_2 ?_
    refine q_iadd hX d_M_lines_102 ?_
    refine q_iald hX kc_107 d_M_lines_103 h (fun hi3 h => ?_)
    obtain ⟨u4, hc5, h⟩ := qbind h
    refine q_cVr hX (c_M_line X.l G hX.ad f _ _ _ _ hc5) cw_M_299 rfl kc_104 rfl (Nat.le_of_ble_eq_true rfl) rfl (Nat.le_of_ble_eq_true rfl) d_M_lines_104 ?_
    refine q_if_lt hX d_M_lines_107 rfl h (fun _ h => ?_) (fun _ h => ?_)
    · refine q_iconst hX d_M_lines_114 ic_0 ?_
      refine q_iadd hX d_M_lines_115 ?_
      refine q_istore hX d_M_lines_116 (by decide) rfl rfl ?_
      refine q_iinc hX d_M_lines_118 rfl (ii_1 _) (by decide) rfl rfl ?_
      refine q_goto hX d_M_lines_121 rfl ?_
      exact q_mask [true, true, true, true, false, true, true, false] rfl (hk57 _ _ _ h)
    · refine q_iconst hX d_M_lines_110 ic_1 ?_
      refine q_goto hX d_M_lines_111 rfl ?_
      refine q_iadd hX d_M_lines_115 ?_
      refine q_istore hX d_M_lines_116 (by decide) rfl rfl ?_
      refine q_iinc hX d_M_lines_118 rfl (ii_1 _) (by decide) rfl rfl ?_
      refine q_goto hX d_M_lines_121 rfl ?_
      exact q_mask [true, true, true, true, false, true, true, false] rfl (hk57 _ _ _ h)
theorem t_M_lines_l57 {G : qG} {X : qX} (hX : qOk G X "ChantryRollsModel" prog_14_method_39_code 8 (some .int) 4) {u : Int32 × qMem} {f : Nat} {x1 : Int32} {x2 : Int32} {x3 : Int32} (hT : qTg G X 0 0 qKS qRF u.2 (some (.int u.1))) : ∀ (n : Nat) (σ : qMem) (x5 : Int32) (x6 : Int32), qfix3 (p_M_lines_l57 f  x1 x2 x3 ) n σ x5 x6 = some u → qV G X 0 0 qKS qRF σ 57 [some (.ref 104), some (.int x1), some (.int x2), some (.int x3), none, some (.int x5), some (.int x6), none] [] :=
  qfix3_ind (fun k hk _ _ _ h => t_M_lines_lb57 hX   hT  hk h)
set_option maxHeartbeats 4000000 in
theorem c_M_lines (l : Launch) (G : qG) (hA : qAd G) (f : Nat) (σ : qMem) (x1 : Int32) (x2 : Int32) (x3 : Int32) {u : Int32 × qMem} (h : p_M_lines f σ x1 x2 x3 = some u) : qCt l y_M_lines prog_14_method_39_code 8 (some .int) 4 G qKS qRF σ [(.ref 104), (.int x1), (.int x2), (.int x3)] (some (.int u.1)) qKS qRF u.2 0 0 := by
  refine qCt.of (lv := [some (.ref 104), some (.int x1), some (.int x2), some (.int x3), none, none, none, none]) (by decide) hA (Nat.le_of_ble_eq_true rfl) rfl ?_
  intro X hl _ _ _ hX hT
  subst hl
  unfold p_M_lines at h
  refine q_aload_n hX d_M_lines_0 rfl ?_
  refine q_iconst hX d_M_lines_1 ic_0 ?_
  refine q_putI hX fl_M_137 kc_104 rfl qKS_len d_M_lines_2 ?_
  refine q_iload_n hX d_M_lines_5 rfl ?_
  obtain ⟨u6, hc7, h⟩ := qbind h
  refine q_cSr hX (c_M_isSheet X.l G hX.ad f _ _ hc7) cw_M_151 rfl (Nat.le_of_ble_eq_true rfl) rfl (Nat.le_of_ble_eq_true rfl) d_M_lines_6 ?_
  refine q_if_eq hX d_M_lines_9 rfl h (fun _ h => ?_) (fun _ h => ?_)
  · refine q_ldc hX w_1298 d_M_lines_24 ?_
    exact q_iretW hX h hT d_M_lines_26
  · refine q_iload_n hX d_M_lines_12 rfl ?_
    refine q_i2l hX d_M_lines_13 ?_
    refine q_lconst hX d_M_lines_14 lc_1 ?_
    refine q_ldc2 hX w_1432 d_M_lines_15 ?_
    obtain ⟨u8, hc9, h⟩ := qbind h
    refine q_cSr hX (c_M_in X.l G hX.ad f _ _ _ _ hc9) cw_M_147 rfl (Nat.le_of_ble_eq_true rfl) rfl (Nat.le_of_ble_eq_true rfl) d_M_lines_18 ?_
    refine q_if_ne hX d_M_lines_21 rfl h (fun _ h => ?_) (fun _ h => ?_)
    · refine q_aload_n hX d_M_lines_27 rfl ?_
      refine q_iload_n hX d_M_lines_28 rfl ?_
      refine q_iload_n hX d_M_lines_29 rfl ?_
      refine q_iconst hX d_M_lines_30 ic_3 ?_
      refine q_iload_n hX d_M_lines_31 rfl ?_
      refine q_imul hX d_M_lines_32 ?_
      obtain ⟨u10, hc11, h⟩ := qbind h
      refine q_cVr hX (c_M_lookItems X.l G hX.ad f _ _ _ _ hc11) cw_M_305 rfl kc_104 rfl (Nat.le_of_ble_eq_true rfl) rfl (Nat.le_of_ble_eq_true rfl) d_M_lines_33 ?_
      refine q_istore hX d_M_lines_36 (by decide) rfl rfl ?_
      refine q_iload hX d_M_lines_38 rfl ?_
      refine q_if_ge hX d_M_lines_40 rfl h (fun _ h => ?_) (fun _ h => ?_)
      · refine q_aload_n hX d_M_lines_46 rfl ?_
        refine q_iconst hX d_M_lines_47 ic_0 ?_
        refine q_putI hX fl_M_141 kc_104 rfl qKS_len d_M_lines_48 ?_
        refine q_iconst hX d_M_lines_51 ic_0 ?_
        refine q_istore hX d_M_lines_52 (by decide) rfl rfl ?_
        refine q_iconst hX d_M_lines_54 ic_0 ?_
        refine q_istore hX d_M_lines_55 (by decide) rfl rfl ?_
        exact q_mask [true, true, true, true, false, true, true, false] rfl (t_M_lines_l57 hX hT f _ _ _ h)
      · refine q_iload hX d_M_lines_43 rfl ?_
        exact q_iretW hX h hT d_M_lines_45
    · refine q_ldc hX w_1298 d_M_lines_24 ?_
      exact q_iretW hX h hT d_M_lines_26
set_option maxHeartbeats 4000000 in
theorem t_M_takenOn_b80 {G : qG} {X : qX} (hX : qOk G X "ChantryRollsModel" prog_14_method_64_code 5 (some .int) 2) {u : Int32} {f : Nat} {k5 : Int32 → Int32 → Option (Int32)} {σ : qMem} {x1 : Int32} {x2 : Int32} {x3 : Int32} {s0 : Int32} (hT : qTg G X 0 0 qKS qRF σ (some (.int u))) (hk5 : ∀ (x2 : Int32) (x3 : Int32), k5 x2 x3 = some u → qV G X 0 0 qKS qRF σ 5 [some (.ref 104), some (.int x1), some (.int x2), some (.int x3), none] []) (h : p_M_takenOn_b80 f   k5 σ x1 x2 x3 s0 = some u) : qV G X 0 0 qKS qRF σ 80 [some (.ref 104), some (.int x1), some (.int x2), some (.int x3), none] [(.int s0)] := by
  unfold p_M_takenOn_b80 at h
  refine q_istore hX d_M_takenOn_80 (by decide) rfl rfl ?_
  refine q_iload hX d_M_takenOn_82 rfl ?_
  refine q_if_eq hX d_M_takenOn_84 rfl h (fun _ h => ?_) (fun _ h => ?_)
  · refine q_iload_n hX d_M_takenOn_112 rfl ?_
    refine q_istore_n hX d_M_takenOn_113 (by decide) rfl rfl ?_
    refine q_iinc hX d_M_takenOn_114 rfl (ii_1 _) (by decide) rfl rfl ?_
    refine q_goto hX d_M_takenOn_117 rfl ?_
    exact q_mask [true, true, true, true, false] rfl (hk5 _ _ h)
  · refine q_iload_n hX d_M_takenOn_87 rfl ?_
    refine q_ldc hX w_1335 d_M_takenOn_88 ?_
    refine q_icmp_eq hX d_M_takenOn_90 rfl h (fun _ h => ?_) (fun _ h => ?_)
    · refine q_aload_n hX d_M_takenOn_103 rfl ?_
      refine q_getR hX fl_M_104 kc_104 (rfl : qRF 104 51 = some 136) d_M_takenOn_104 ?_
      refine q_iload_n hX d_M_takenOn_107 rfl ?_
      refine q_iald hX kc_136 d_M_takenOn_108 h (fun hi1 h => ?_)
      refine q_goto hX d_M_takenOn_109 rfl ?_
      refine q_istore_n hX d_M_takenOn_113 (by decide) rfl rfl ?_
      refine q_iinc hX d_M_takenOn_114 rfl (ii_1 _) (by decide) rfl rfl ?_
      refine q_goto hX d_M_takenOn_117 rfl ?_
      exact q_mask [true, true, true, true, false] rfl (hk5 _ _ h)
    · refine q_aload_n hX d_M_takenOn_93 rfl ?_
      refine q_getR hX fl_M_104 kc_104 (rfl : qRF 104 51 = some 136) d_M_takenOn_94 ?_
      refine q_iload_n hX d_M_takenOn_97 rfl ?_
      refine q_iald hX kc_136 d_M_takenOn_98 h (fun hi2 h => ?_)
      refine q_iload_n hX d_M_takenOn_99 rfl ?_
      refine q_icmp_ge hX d_M_takenOn_100 rfl h (fun _ h => ?_) (fun _ h => ?_)
      · refine q_iload_n hX d_M_takenOn_112 rfl ?_
        refine q_istore_n hX d_M_takenOn_113 (by decide) rfl rfl ?_
        refine q_iinc hX d_M_takenOn_114 rfl (ii_1 _) (by decide) rfl rfl ?_
        refine q_goto hX d_M_takenOn_117 rfl ?_
        exact q_mask [true, true, true, true, false] rfl (hk5 _ _ h)
      · refine q_aload_n hX d_M_takenOn_103 rfl ?_
        refine q_getR hX fl_M_104 kc_104 (rfl : qRF 104 51 = some 136) d_M_takenOn_104 ?_
        refine q_iload_n hX d_M_takenOn_107 rfl ?_
        refine q_iald hX kc_136 d_M_takenOn_108 h (fun hi3 h => ?_)
        refine q_goto hX d_M_takenOn_109 rfl ?_
        refine q_istore_n hX d_M_takenOn_113 (by decide) rfl rfl ?_
        refine q_iinc hX d_M_takenOn_114 rfl (ii_1 _) (by decide) rfl rfl ?_
        refine q_goto hX d_M_takenOn_117 rfl ?_
        exact q_mask [true, true, true, true, false] rfl (hk5 _ _ h)
set_option maxHeartbeats 4000000 in
theorem t_M_takenOn_b79 {G : qG} {X : qX} (hX : qOk G X "ChantryRollsModel" prog_14_method_64_code 5 (some .int) 2) {u : Int32} {f : Nat} {k5 : Int32 → Int32 → Option (Int32)} {σ : qMem} {x1 : Int32} {x2 : Int32} {x3 : Int32} (hT : qTg G X 0 0 qKS qRF σ (some (.int u))) (hk5 : ∀ (x2 : Int32) (x3 : Int32), k5 x2 x3 = some u → qV G X 0 0 qKS qRF σ 5 [some (.ref 104), some (.int x1), some (.int x2), some (.int x3), none] []) (h : p_M_takenOn_b79 f   k5 σ x1 x2 x3 = some u) : qV G X 0 0 qKS qRF σ 79 [some (.ref 104), some (.int x1), some (.int x2), some (.int x3), none] [] := by
  unfold p_M_takenOn_b79 at h
  refine q_iconst hX d_M_takenOn_79 ic_0 ?_
  exact q_mask [true, true, true, true, false] rfl (t_M_takenOn_b80 hX hT hk5 h)
set_option maxHeartbeats 4000000 in
theorem t_M_takenOn_lb5 {G : qG} {X : qX} (hX : qOk G X "ChantryRollsModel" prog_14_method_64_code 5 (some .int) 2) {u : Int32} {f : Nat} {σ : qMem} {x1 : Int32} (hT : qTg G X 0 0 qKS qRF σ (some (.int u))) {k5 : Int32 → Int32 → Option (Int32)} (hk5 : ∀ (x2 : Int32) (x3 : Int32), k5 x2 x3 = some u → qV G X 0 0 qKS qRF σ 5 [some (.ref 104), some (.int x1), some (.int x2), some (.int x3), none] []) {x2 : Int32} {x3 : Int32} (h : p_M_takenOn_l5 f  σ x1  k5 x2 x3 = some u) : qV G X 0 0 qKS qRF σ 5 [some (.ref 104), some (.int x1), some (.int x2), some (.int x3), none] [] := by
  unfold p_M_takenOn_l5 at h
  refine q_iload_n hX d_M_takenOn_5 rfl ?_
  refine q_aload_n hX d_M_takenOn_6 rfl ?_
  refine q_getI hX fl_M_369 kc_104 d_M_takenOn_7 ?_
  refine q_icmp_ge hX d_M_takenOn_10 rfl h (fun _ h => ?_) (fun _ h => ?_)
  · refine q_iload_n hX d_M_takenOn_120 rfl ?_
    exact q_iretR hX h hT d_M_takenOn_121
  · refine q_aload_n hX d_M_takenOn_13 rfl ?_
    refine q_iload_n hX d_M_takenOn_14 rfl ?_
    refine q_iconst hX d_M_takenOn_15 ic_5 ?_
    obtain ⟨u4, hc5, h⟩ := qbind h
    refine q_cVr hX (c_M_of X.l G hX.ad f _ _ _ hc5) cw_M_270 rfl kc_104 rfl (Nat.le_of_ble_eq_true rfl) rfl (Nat.le_of_ble_eq_true rfl) d_M_takenOn_16 ?_
    refine q_aload_n hX d_M_takenOn_19 rfl ?_
    refine q_getR hX fl_M_104 kc_104 (rfl : qRF 104 51 = some 136) d_M_takenOn_20 ?_
    refine q_iload_n hX d_M_takenOn_23 rfl ?_
    refine q_iald hX kc_136 d_M_takenOn_24 h (fun hi6 h => ?_)
    refine q_icmp_gt hX d_M_takenOn_25 rfl h (fun _ h => ?_) (fun _ h => ?_)
    · exact q_mask [true, true, true, true, false] rfl (t_M_takenOn_b79 hX hT hk5 h)
    · refine q_aload_n hX d_M_takenOn_28 rfl ?_
      refine q_iload_n hX d_M_takenOn_29 rfl ?_
      refine q_iconst hX d_M_takenOn_30 ic_1 ?_
      obtain ⟨u7, hc8, h⟩ := qbind h
      refine q_cVr hX (c_M_of X.l G hX.ad f _ _ _ hc8) cw_M_270 rfl kc_104 rfl (Nat.le_of_ble_eq_true rfl) rfl (Nat.le_of_ble_eq_true rfl) d_M_takenOn_31 ?_
      refine q_i2l hX d_M_takenOn_34 ?_
      refine q_aload_n hX d_M_takenOn_35 rfl ?_
      refine q_getR hX fl_M_107 kc_104 (rfl : qRF 104 52 = some 137) d_M_takenOn_36 ?_
      refine q_iload_n hX d_M_takenOn_39 rfl ?_
      refine q_iald hX kc_137 d_M_takenOn_40 h (fun hi9 h => ?_)
      refine q_i2l hX d_M_takenOn_41 ?_
      refine q_aload_n hX d_M_takenOn_42 rfl ?_
      refine q_getR hX fl_M_110 kc_104 (rfl : qRF 104 53 = some 138) d_M_takenOn_43 ?_
      refine q_iload_n hX d_M_takenOn_46 rfl ?_
      refine q_iald hX kc_138 d_M_takenOn_47 h (fun hi10 h => ?_)
      refine q_i2l hX d_M_takenOn_48 ?_
      obtain ⟨u11, hc12, h⟩ := qbind h
      refine q_cSr hX (c_M_in X.l G hX.ad f _ _ _ _ hc12) cw_M_147 rfl (Nat.le_of_ble_eq_true rfl) rfl (Nat.le_of_ble_eq_true rfl) d_M_takenOn_49 ?_
      refine q_if_eq hX d_M_takenOn_52 rfl h (fun _ h => ?_) (fun _ h => ?_)
      · exact q_mask [true, true, true, true, false] rfl (t_M_takenOn_b79 hX hT hk5 h)
      · refine q_aload_n hX d_M_takenOn_55 rfl ?_
        refine q_iload_n hX d_M_takenOn_56 rfl ?_
        refine q_iconst hX d_M_takenOn_57 ic_0 ?_
        obtain ⟨u13, hc14, h⟩ := qbind h
        refine q_cVr hX (c_M_of X.l G hX.ad f _ _ _ hc14) cw_M_270 rfl kc_104 rfl (Nat.le_of_ble_eq_true rfl) rfl (Nat.le_of_ble_eq_true rfl) d_M_takenOn_58 ?_
        refine q_iconst hX d_M_takenOn_61 ic_1 ?_
        refine q_icmp_ne hX d_M_takenOn_62 rfl h (fun _ h => ?_) (fun _ h => ?_)
        · refine q_iconst hX d_M_takenOn_75 ic_1 ?_
          refine q_goto hX d_M_takenOn_76 rfl ?_
          exact q_mask [true, true, true, true, false] rfl (t_M_takenOn_b80 hX hT hk5 h)
        · refine q_aload_n hX d_M_takenOn_65 rfl ?_
          refine q_getR hX fl_M_113 kc_104 (rfl : qRF 104 54 = some 139) d_M_takenOn_66 ?_
          refine q_iload_n hX d_M_takenOn_69 rfl ?_
          refine q_iald hX kc_139 d_M_takenOn_70 h (fun hi15 h => ?_)
          refine q_iconst hX d_M_takenOn_71 ic_1 ?_
          refine q_icmp_eq hX d_M_takenOn_72 rfl h (fun _ h => ?_) (fun _ h => ?_)
          · exact q_mask [true, true, true, true, false] rfl (t_M_takenOn_b79 hX hT hk5 h)
          · refine q_iconst hX d_M_takenOn_75 ic_1 ?_
            refine q_goto hX d_M_takenOn_76 rfl ?_
            exact q_mask [true, true, true, true, false] rfl (t_M_takenOn_b80 hX hT hk5 h)
theorem t_M_takenOn_l5 {G : qG} {X : qX} (hX : qOk G X "ChantryRollsModel" prog_14_method_64_code 5 (some .int) 2) {u : Int32} {f : Nat} {σ : qMem} {x1 : Int32} (hT : qTg G X 0 0 qKS qRF σ (some (.int u))) : ∀ (n : Nat) (x2 : Int32) (x3 : Int32), qfix2 (p_M_takenOn_l5 f  σ x1 ) n x2 x3 = some u → qV G X 0 0 qKS qRF σ 5 [some (.ref 104), some (.int x1), some (.int x2), some (.int x3), none] [] :=
  qfix2_ind (fun k hk _ _ h => t_M_takenOn_lb5 hX   hT  hk h)
set_option maxHeartbeats 4000000 in
theorem c_M_takenOn (l : Launch) (G : qG) (hA : qAd G) (f : Nat) (σ : qMem) (x1 : Int32) {u : Int32} (h : p_M_takenOn f σ x1 = some u) : qCt l y_M_takenOn prog_14_method_64_code 5 (some .int) 2 G qKS qRF σ [(.ref 104), (.int x1)] (some (.int u)) qKS qRF σ 0 0 := by
  refine qCt.of (lv := [some (.ref 104), some (.int x1), none, none, none]) (by decide) hA (Nat.le_of_ble_eq_true rfl) rfl ?_
  intro X hl _ _ _ hX hT
  subst hl
  unfold p_M_takenOn at h
  refine q_ldc hX w_1335 d_M_takenOn_0 ?_
  refine q_istore_n hX d_M_takenOn_2 (by decide) rfl rfl ?_
  refine q_iconst hX d_M_takenOn_3 ic_0 ?_
  refine q_istore_n hX d_M_takenOn_4 (by decide) rfl rfl ?_
  exact q_mask [true, true, true, true, false] rfl (t_M_takenOn_l5 hX hT f _ _ h)
set_option maxHeartbeats 4000000 in
theorem c_M_isTaken (l : Launch) (G : qG) (hA : qAd G) (f : Nat) (σ : qMem) (x1 : Int32) (x2 : Int32) {u : Int32} (h : p_M_isTaken f σ x1 x2 = some u) : qCt l y_M_isTaken prog_14_method_65_code 4 (some .boolean) 3 G qKS qRF σ [(.ref 104), (.int x1), (.int x2)] (some (.int u)) qKS qRF σ 0 0 := by
  refine qCt.of (lv := [some (.ref 104), some (.int x1), some (.int x2), none]) (by decide) hA (Nat.le_of_ble_eq_true rfl) rfl ?_
  intro X hl _ _ _ hX hT
  subst hl
  unfold p_M_isTaken at h
  refine q_aload_n hX d_M_isTaken_0 rfl ?_
  refine q_iload_n hX d_M_isTaken_1 rfl ?_
  obtain ⟨u1, hc2, h⟩ := qbind h
  refine q_cVr hX (c_M_takenOn X.l G hX.ad f _ _ hc2) cw_M_372 rfl kc_104 rfl (Nat.le_of_ble_eq_true rfl) rfl (Nat.le_of_ble_eq_true rfl) d_M_isTaken_2 ?_
  refine q_istore_n hX d_M_isTaken_5 (by decide) rfl rfl ?_
  refine q_iload_n hX d_M_isTaken_6 rfl ?_
  refine q_ldc hX w_1335 d_M_isTaken_7 ?_
  refine q_icmp_eq hX d_M_isTaken_9 rfl h (fun _ h => ?_) (fun _ h => ?_)
  · refine q_iconst hX d_M_isTaken_21 ic_0 ?_
    exact q_zretR hX zn_0 h hT d_M_isTaken_22
  · refine q_iload_n hX d_M_isTaken_12 rfl ?_
    refine q_iload_n hX d_M_isTaken_13 rfl ?_
    refine q_icmp_gt hX d_M_isTaken_14 rfl h (fun _ h => ?_) (fun _ h => ?_)
    · refine q_iconst hX d_M_isTaken_21 ic_0 ?_
      exact q_zretR hX zn_0 h hT d_M_isTaken_22
    · refine q_iconst hX d_M_isTaken_17 ic_1 ?_
      refine q_goto hX d_M_isTaken_18 rfl ?_
      exact q_zretR hX zn_1 h hT d_M_isTaken_22
set_option maxHeartbeats 4000000 in
theorem c_M_isEnded (l : Launch) (G : qG) (hA : qAd G) (f : Nat) (σ : qMem) (x1 : Int32) (x2 : Int32) {u : Int32} (h : p_M_isEnded f σ x1 x2 = some u) : qCt l y_M_isEnded prog_14_method_66_code 3 (some .boolean) 4 G qKS qRF σ [(.ref 104), (.int x1), (.int x2)] (some (.int u)) qKS qRF σ 0 0 := by
  refine qCt.of (lv := [some (.ref 104), some (.int x1), some (.int x2)]) (by decide) hA (Nat.le_of_ble_eq_true rfl) rfl ?_
  intro X hl _ _ _ hX hT
  subst hl
  unfold p_M_isEnded at h
  refine q_aload_n hX d_M_isEnded_0 rfl ?_
  refine q_iload_n hX d_M_isEnded_1 rfl ?_
  refine q_iload_n hX d_M_isEnded_2 rfl ?_
  obtain ⟨u1, hc2, h⟩ := qbind h
  refine q_cVr hX (c_M_isTaken X.l G hX.ad f _ _ _ hc2) cw_M_375 rfl kc_104 rfl (Nat.le_of_ble_eq_true rfl) rfl (Nat.le_of_ble_eq_true rfl) d_M_isEnded_3 ?_
  refine q_if_ne hX d_M_isEnded_6 rfl h (fun _ h => ?_) (fun _ h => ?_)
  · refine q_iconst hX d_M_isEnded_20 ic_1 ?_
    refine q_goto hX d_M_isEnded_21 rfl ?_
    exact q_zretR hX zn_1 h hT d_M_isEnded_25
  · refine q_aload_n hX d_M_isEnded_9 rfl ?_
    refine q_iload_n hX d_M_isEnded_10 rfl ?_
    refine q_bipush hX d_M_isEnded_11 bp_6 ?_
    obtain ⟨u3, hc4, h⟩ := qbind h
    refine q_cVr hX (c_M_of X.l G hX.ad f _ _ _ hc4) cw_M_270 rfl kc_104 rfl (Nat.le_of_ble_eq_true rfl) rfl (Nat.le_of_ble_eq_true rfl) d_M_isEnded_13 ?_
    refine q_iload_n hX d_M_isEnded_16 rfl ?_
    refine q_icmp_ge hX d_M_isEnded_17 rfl h (fun _ h => ?_) (fun _ h => ?_)
    · refine q_iconst hX d_M_isEnded_24 ic_0 ?_
      exact q_zretR hX zn_0 h hT d_M_isEnded_25
    · refine q_iconst hX d_M_isEnded_20 ic_1 ?_
      refine q_goto hX d_M_isEnded_21 rfl ?_
      exact q_zretR hX zn_1 h hT d_M_isEnded_25
set_option maxHeartbeats 4000000 in
theorem t_M_isSick_lb5 {G : qG} {X : qX} (hX : qOk G X "ChantryRollsModel" prog_14_method_36_code 5 (some .boolean) 1) {u : Int32} {f : Nat} {σ : qMem} {x1 : Int32} {x2 : Int32} (hT : qTg G X 0 0 qKS qRF σ (some (.int u))) {k5 : Int32 → Int32 → Option (Int32)} (hk5 : ∀ (x3 : Int32) (x4 : Int32), k5 x3 x4 = some u → qV G X 0 0 qKS qRF σ 5 [some (.ref 104), some (.int x1), some (.int x2), some (.int x3), some (.int x4)] []) {x3 : Int32} {x4 : Int32} (h : p_M_isSick_l5 f  σ x1 x2  k5 x3 x4 = some u) : qV G X 0 0 qKS qRF σ 5 [some (.ref 104), some (.int x1), some (.int x2), some (.int x3), some (.int x4)] [] := by
  unfold p_M_isSick_l5 at h
  refine q_iload hX d_M_isSick_5 rfl ?_
  refine q_aload_n hX d_M_isSick_7 rfl ?_
  refine q_getI hX fl_M_291 kc_104 d_M_isSick_8 ?_
  refine q_icmp_ge hX d_M_isSick_11 rfl h (fun _ h => ?_) (fun _ h => ?_)
  · refine q_iload_n hX d_M_isSick_63 rfl ?_
    exact q_zretR hX rfl h hT d_M_isSick_64
  · refine q_iload_n hX d_M_isSick_14 rfl ?_
    refine q_if_ne hX d_M_isSick_15 rfl h (fun _ h => ?_) (fun _ h => ?_)
    · refine q_iconst hX d_M_isSick_51 ic_1 ?_
      refine q_goto hX d_M_isSick_52 rfl ?_
      refine q_istore_n hX d_M_isSick_56 (by decide) rfl rfl ?_
      refine q_iinc hX d_M_isSick_57 rfl (ii_1 _) (by decide) rfl rfl ?_
      refine q_goto hX d_M_isSick_60 rfl ?_
      exact q_mask [true, true, true, true, true] rfl (hk5 _ _ h)
    · refine q_aload_n hX d_M_isSick_18 rfl ?_
      refine q_getR hX fl_M_47 kc_104 (rfl : qRF 104 28 = some 117) d_M_isSick_19 ?_
      refine q_iload hX d_M_isSick_22 rfl ?_
      refine q_iald hX kc_117 d_M_isSick_24 h (fun hi1 h => ?_)
      refine q_iload_n hX d_M_isSick_25 rfl ?_
      refine q_icmp_ne hX d_M_isSick_26 rfl h (fun _ h => ?_) (fun _ h => ?_)
      · refine q_iconst hX d_M_isSick_55 ic_0 ?_
        refine q_istore_n hX d_M_isSick_56 (by decide) rfl rfl ?_
        refine q_iinc hX d_M_isSick_57 rfl (ii_1 _) (by decide) rfl rfl ?_
        refine q_goto hX d_M_isSick_60 rfl ?_
        exact q_mask [true, true, true, true, true] rfl (hk5 _ _ h)
      · refine q_iload_n hX d_M_isSick_29 rfl ?_
        refine q_aload_n hX d_M_isSick_30 rfl ?_
        refine q_getR hX fl_M_50 kc_104 (rfl : qRF 104 29 = some 118) d_M_isSick_31 ?_
        refine q_iload hX d_M_isSick_34 rfl ?_
        refine q_iald hX kc_118 d_M_isSick_36 h (fun hi2 h => ?_)
        refine q_icmp_lt hX d_M_isSick_37 rfl h (fun _ h => ?_) (fun _ h => ?_)
        · refine q_iconst hX d_M_isSick_55 ic_0 ?_
          refine q_istore_n hX d_M_isSick_56 (by decide) rfl rfl ?_
          refine q_iinc hX d_M_isSick_57 rfl (ii_1 _) (by decide) rfl rfl ?_
          refine q_goto hX d_M_isSick_60 rfl ?_
          exact q_mask [true, true, true, true, true] rfl (hk5 _ _ h)
        · refine q_iload_n hX d_M_isSick_40 rfl ?_
          refine q_aload_n hX d_M_isSick_41 rfl ?_
          refine q_getR hX fl_M_53 kc_104 (rfl : qRF 104 30 = some 119) d_M_isSick_42 ?_
          refine q_iload hX d_M_isSick_45 rfl ?_
          refine q_iald hX kc_119 d_M_isSick_47 h (fun hi3 h => ?_)
          refine q_icmp_gt hX d_M_isSick_48 rfl h (fun _ h => ?_) (fun _ h => ?_)
          · refine q_iconst hX d_M_isSick_55 ic_0 ?_
            refine q_istore_n hX d_M_isSick_56 (by decide) rfl rfl ?_
            refine q_iinc hX d_M_isSick_57 rfl (ii_1 _) (by decide) rfl rfl ?_
            refine q_goto hX d_M_isSick_60 rfl ?_
            exact q_mask [true, true, true, true, true] rfl (hk5 _ _ h)
          · refine q_iconst hX d_M_isSick_51 ic_1 ?_
            refine q_goto hX d_M_isSick_52 rfl ?_
            refine q_istore_n hX d_M_isSick_56 (by decide) rfl rfl ?_
            refine q_iinc hX d_M_isSick_57 rfl (ii_1 _) (by decide) rfl rfl ?_
            refine q_goto hX d_M_isSick_60 rfl ?_
            exact q_mask [true, true, true, true, true] rfl (hk5 _ _ h)
theorem t_M_isSick_l5 {G : qG} {X : qX} (hX : qOk G X "ChantryRollsModel" prog_14_method_36_code 5 (some .boolean) 1) {u : Int32} {f : Nat} {σ : qMem} {x1 : Int32} {x2 : Int32} (hT : qTg G X 0 0 qKS qRF σ (some (.int u))) : ∀ (n : Nat) (x3 : Int32) (x4 : Int32), qfix2 (p_M_isSick_l5 f  σ x1 x2 ) n x3 x4 = some u → qV G X 0 0 qKS qRF σ 5 [some (.ref 104), some (.int x1), some (.int x2), some (.int x3), some (.int x4)] [] :=
  qfix2_ind (fun k hk _ _ h => t_M_isSick_lb5 hX   hT  hk h)
set_option maxHeartbeats 4000000 in
theorem c_M_isSick (l : Launch) (G : qG) (hA : qAd G) (f : Nat) (σ : qMem) (x1 : Int32) (x2 : Int32) {u : Int32} (h : p_M_isSick f σ x1 x2 = some u) : qCt l y_M_isSick prog_14_method_36_code 5 (some .boolean) 1 G qKS qRF σ [(.ref 104), (.int x1), (.int x2)] (some (.int u)) qKS qRF σ 0 0 := by
  refine qCt.of (lv := [some (.ref 104), some (.int x1), some (.int x2), none, none]) (by decide) hA (Nat.le_of_ble_eq_true rfl) rfl ?_
  intro X hl _ _ _ hX hT
  subst hl
  unfold p_M_isSick at h
  refine q_iconst hX d_M_isSick_0 ic_0 ?_
  refine q_istore_n hX d_M_isSick_1 (by decide) rfl rfl ?_
  refine q_iconst hX d_M_isSick_2 ic_0 ?_
  refine q_istore hX d_M_isSick_3 (by decide) rfl rfl ?_
  exact q_mask [true, true, true, true, true] rfl (t_M_isSick_l5 hX hT f _ _ h)
set_option maxHeartbeats 4000000 in
theorem t_M_judge_b44 {G : qG} {X : qX} (hX : qOk G X "ChantryRollsModel" prog_14_method_40_code 12 none 5) {u : qMem} {f : Nat} {k4 : qMem → Int64 → Int32 → Option (qMem)} {k19 : Int32 → Int32 → Option (qMem)} {σ : qMem} {x1 : Int64} {x3 : Int32} {x4 : Int32} {x5 : Int32} {s0 : Int32} (hT : qTg G X 0 0 qKS qRF u none) (hk4 : ∀ (σ : qMem) (x1 : Int64) (x3 : Int32), k4 σ x1 x3 = some u → qV G X 0 0 qKS qRF σ 4 [some (.ref 104), some (.long x1), none, some (.int x3), none, none, none, none, none, none, none, none] []) (hk19 : ∀ (x4 : Int32) (x5 : Int32), k19 x4 x5 = some u → qV G X 0 0 qKS qRF σ 19 [some (.ref 104), some (.long x1), none, some (.int x3), some (.int x4), some (.int x5), none, none, none, none, none, none] []) (h : p_M_judge_b44 f   k4 k19 σ x1 x3 x4 x5 s0 = some u) : qV G X 0 0 qKS qRF σ 44 [some (.ref 104), some (.long x1), none, some (.int x3), some (.int x4), some (.int x5), none, none, none, none, none, none] [(.int s0)] := by
  unfold p_M_judge_b44 at h
  refine q_istore hX d_M_judge_44 (by decide) rfl rfl ?_
  refine q_iload hX d_M_judge_46 rfl ?_
  refine q_if_eq hX d_M_judge_48 rfl h (fun _ h => ?_) (fun _ h => ?_)
  · refine q_iload hX d_M_judge_100 rfl ?_
    refine q_istore hX d_M_judge_102 (by decide) rfl rfl ?_
    refine q_iinc hX d_M_judge_104 rfl (ii_1 _) (by decide) rfl rfl ?_
    refine q_goto hX d_M_judge_107 rfl ?_
    exact q_mask [true, true, false, true, true, true, false, false, false, false, false, false] rfl (hk19 _ _ h)
  · refine q_iload hX d_M_judge_51 rfl ?_
    refine q_ldc hX w_1335 d_M_judge_53 ?_
    refine q_icmp_eq hX d_M_judge_55 rfl h (fun _ h => ?_) (fun _ h => ?_)
    · refine q_iload hX d_M_judge_95 rfl ?_
      refine q_goto hX d_M_judge_97 rfl ?_
      refine q_istore hX d_M_judge_102 (by decide) rfl rfl ?_
      refine q_iinc hX d_M_judge_104 rfl (ii_1 _) (by decide) rfl rfl ?_
      refine q_goto hX d_M_judge_107 rfl ?_
      exact q_mask [true, true, false, true, true, true, false, false, false, false, false, false] rfl (hk19 _ _ h)
    · refine q_iconst hX d_M_judge_58 ic_5 ?_
      refine q_aload_n hX d_M_judge_59 rfl ?_
      refine q_getR hX fl_M_34 kc_104 (rfl : qRF 104 23 = some 113) d_M_judge_60 ?_
      refine q_iload hX d_M_judge_63 rfl ?_
      refine q_iald hX kc_113 d_M_judge_65 h (fun hi1 h => ?_)
      refine q_imul hX d_M_judge_66 ?_
      refine q_aload_n hX d_M_judge_67 rfl ?_
      refine q_getR hX fl_M_37 kc_104 (rfl : qRF 104 24 = some 114) d_M_judge_68 ?_
      refine q_iload hX d_M_judge_71 rfl ?_
      refine q_iald hX kc_114 d_M_judge_73 h (fun hi2 h => ?_)
      refine q_iadd hX d_M_judge_74 ?_
      refine q_iconst hX d_M_judge_75 ic_5 ?_
      refine q_aload_n hX d_M_judge_76 rfl ?_
      refine q_getR hX fl_M_34 kc_104 (rfl : qRF 104 23 = some 113) d_M_judge_77 ?_
      refine q_iload hX d_M_judge_80 rfl ?_
      refine q_iald hX kc_113 d_M_judge_82 h (fun hi3 h => ?_)
      refine q_imul hX d_M_judge_83 ?_
      refine q_aload_n hX d_M_judge_84 rfl ?_
      refine q_getR hX fl_M_37 kc_104 (rfl : qRF 104 24 = some 114) d_M_judge_85 ?_
      refine q_iload hX d_M_judge_88 rfl ?_
      refine q_iald hX kc_114 d_M_judge_90 h (fun hi4 h => ?_)
      refine q_iadd hX d_M_judge_91 ?_
      refine q_icmp_ge hX d_M_judge_92 rfl h (fun _ h => ?_) (fun _ h => ?_)
      · refine q_iload hX d_M_judge_100 rfl ?_
        refine q_istore hX d_M_judge_102 (by decide) rfl rfl ?_
        refine q_iinc hX d_M_judge_104 rfl (ii_1 _) (by decide) rfl rfl ?_
        refine q_goto hX d_M_judge_107 rfl ?_
        exact q_mask [true, true, false, true, true, true, false, false, false, false, false, false] rfl (hk19 _ _ h)
      · refine q_iload hX d_M_judge_95 rfl ?_
        refine q_goto hX d_M_judge_97 rfl ?_
        refine q_istore hX d_M_judge_102 (by decide) rfl rfl ?_
        refine q_iinc hX d_M_judge_104 rfl (ii_1 _) (by decide) rfl rfl ?_
        refine q_goto hX d_M_judge_107 rfl ?_
        exact q_mask [true, true, false, true, true, true, false, false, false, false, false, false] rfl (hk19 _ _ h)
set_option maxHeartbeats 4000000 in
theorem t_M_judge_b304 {G : qG} {X : qX} (hX : qOk G X "ChantryRollsModel" prog_14_method_40_code 12 none 5) {u : qMem} {f : Nat} {k4 : qMem → Int64 → Int32 → Option (qMem)} {k180 : Int32 → Int32 → Int32 → Option (qMem)} {σ : qMem} {x1 : Int64} {x3 : Int32} {x4 : Int32} {x5 : Int32} {x6 : Int32} {x8 : Int32} {x9 : Int32} {x11 : Int32} {s0 : Int32} (hT : qTg G X 0 0 qKS qRF u none) (hk4 : ∀ (σ : qMem) (x1 : Int64) (x3 : Int32), k4 σ x1 x3 = some u → qV G X 0 0 qKS qRF σ 4 [some (.ref 104), some (.long x1), none, some (.int x3), none, none, none, none, none, none, none, none] []) (hk180 : ∀ (x7 : Int32) (x8 : Int32) (x9 : Int32), k180 x7 x8 x9 = some u → qV G X 0 0 qKS qRF σ 180 [some (.ref 104), some (.long x1), none, some (.int x3), some (.int x4), some (.int x5), some (.int x6), some (.int x7), some (.int x8), some (.int x9), none, none] []) (h : p_M_judge_b304 f   k4 k180 σ x1 x3 x4 x5 x6 x8 x9 x11 s0 = some u) : qV G X 0 0 qKS qRF σ 304 [some (.ref 104), some (.long x1), none, some (.int x3), some (.int x4), some (.int x5), some (.int x6), none, some (.int x8), some (.int x9), none, some (.int x11)] [(.int s0)] := by
  unfold p_M_judge_b304 at h
  refine q_istore hX d_M_judge_304 (by decide) rfl rfl ?_
  refine q_iload hX d_M_judge_306 rfl ?_
  refine q_iload hX d_M_judge_308 rfl ?_
  refine q_if_eq hX d_M_judge_310 rfl h (fun _ h => ?_) (fun _ h => ?_)
  · refine q_iconst hX d_M_judge_317 ic_0 ?_
    refine q_iadd hX d_M_judge_318 ?_
    refine q_istore hX d_M_judge_319 (by decide) rfl rfl ?_
    refine q_iinc hX d_M_judge_321 rfl (ii_1 _) (by decide) rfl rfl ?_
    refine q_goto hX d_M_judge_324 rfl ?_
    exact q_mask [true, true, false, true, true, true, true, true, true, true, false, false] rfl (hk180 _ _ _ h)
  · refine q_iconst hX d_M_judge_313 ic_1 ?_
    refine q_goto hX d_M_judge_314 rfl ?_
    refine q_iadd hX d_M_judge_318 ?_
    refine q_istore hX d_M_judge_319 (by decide) rfl rfl ?_
    refine q_iinc hX d_M_judge_321 rfl (ii_1 _) (by decide) rfl rfl ?_
    refine q_goto hX d_M_judge_324 rfl ?_
    exact q_mask [true, true, false, true, true, true, true, true, true, true, false, false] rfl (hk180 _ _ _ h)
set_option maxHeartbeats 4000000 in
theorem t_M_judge_b303 {G : qG} {X : qX} (hX : qOk G X "ChantryRollsModel" prog_14_method_40_code 12 none 5) {u : qMem} {f : Nat} {k4 : qMem → Int64 → Int32 → Option (qMem)} {k180 : Int32 → Int32 → Int32 → Option (qMem)} {σ : qMem} {x1 : Int64} {x3 : Int32} {x4 : Int32} {x5 : Int32} {x6 : Int32} {x8 : Int32} {x9 : Int32} {x11 : Int32} (hT : qTg G X 0 0 qKS qRF u none) (hk4 : ∀ (σ : qMem) (x1 : Int64) (x3 : Int32), k4 σ x1 x3 = some u → qV G X 0 0 qKS qRF σ 4 [some (.ref 104), some (.long x1), none, some (.int x3), none, none, none, none, none, none, none, none] []) (hk180 : ∀ (x7 : Int32) (x8 : Int32) (x9 : Int32), k180 x7 x8 x9 = some u → qV G X 0 0 qKS qRF σ 180 [some (.ref 104), some (.long x1), none, some (.int x3), some (.int x4), some (.int x5), some (.int x6), some (.int x7), some (.int x8), some (.int x9), none, none] []) (h : p_M_judge_b303 f   k4 k180 σ x1 x3 x4 x5 x6 x8 x9 x11 = some u) : qV G X 0 0 qKS qRF σ 303 [some (.ref 104), some (.long x1), none, some (.int x3), some (.int x4), some (.int x5), some (.int x6), none, some (.int x8), some (.int x9), none, some (.int x11)] [] := by
  unfold p_M_judge_b303 at h
  refine q_iconst hX d_M_judge_303 ic_0 ?_
  exact q_mask [true, true, false, true, true, true, true, false, true, true, false, true] rfl (t_M_judge_b304 hX hT hk4 hk180 h)
set_option maxHeartbeats 4000000 in
theorem t_M_judge_b253 {G : qG} {X : qX} (hX : qOk G X "ChantryRollsModel" prog_14_method_40_code 12 none 5) {u : qMem} {f : Nat} {k4 : qMem → Int64 → Int32 → Option (qMem)} {k180 : Int32 → Int32 → Int32 → Option (qMem)} {σ : qMem} {x1 : Int64} {x3 : Int32} {x4 : Int32} {x5 : Int32} {x6 : Int32} {x7 : Int32} {x8 : Int32} {x9 : Int32} {x10 : Int32} {s0 : Int32} (hT : qTg G X 0 0 qKS qRF u none) (hk4 : ∀ (σ : qMem) (x1 : Int64) (x3 : Int32), k4 σ x1 x3 = some u → qV G X 0 0 qKS qRF σ 4 [some (.ref 104), some (.long x1), none, some (.int x3), none, none, none, none, none, none, none, none] []) (hk180 : ∀ (x7 : Int32) (x8 : Int32) (x9 : Int32), k180 x7 x8 x9 = some u → qV G X 0 0 qKS qRF σ 180 [some (.ref 104), some (.long x1), none, some (.int x3), some (.int x4), some (.int x5), some (.int x6), some (.int x7), some (.int x8), some (.int x9), none, none] []) (h : p_M_judge_b253 f   k4 k180 σ x1 x3 x4 x5 x6 x7 x8 x9 x10 s0 = some u) : qV G X 0 0 qKS qRF σ 253 [some (.ref 104), some (.long x1), none, some (.int x3), some (.int x4), some (.int x5), some (.int x6), some (.int x7), some (.int x8), some (.int x9), some (.int x10), none] [(.int s0)] := by
  unfold p_M_judge_b253 at h
  refine q_istore hX d_M_judge_253 (by decide) rfl rfl ?_
  refine q_iload hX d_M_judge_255 rfl ?_
  refine q_if_eq hX d_M_judge_257 rfl h (fun _ h => ?_) (fun _ h => ?_)
  · exact q_mask [true, true, false, true, true, true, true, false, true, true, false, true] rfl (t_M_judge_b303 hX hT hk4 hk180 h)
  · refine q_aload_n hX d_M_judge_260 rfl ?_
    refine q_getR hX fl_M_37 kc_104 (rfl : qRF 104 24 = some 114) d_M_judge_261 ?_
    refine q_iload hX d_M_judge_264 rfl ?_
    refine q_iald hX kc_114 d_M_judge_266 h (fun hi5 h => ?_)
    refine q_aload_n hX d_M_judge_267 rfl ?_
    refine q_getR hX fl_M_37 kc_104 (rfl : qRF 104 24 = some 114) d_M_judge_268 ?_
    refine q_iload hX d_M_judge_271 rfl ?_
    refine q_iald hX kc_114 d_M_judge_273 h (fun hi6 h => ?_)
    refine q_icmp_ne hX d_M_judge_274 rfl h (fun _ h => ?_) (fun _ h => ?_)
    · refine q_iconst hX d_M_judge_299 ic_1 ?_
      refine q_goto hX d_M_judge_300 rfl ?_
      exact q_mask [true, true, false, true, true, true, true, false, true, true, false, true] rfl (t_M_judge_b304 hX hT hk4 hk180 h)
    · refine q_iload hX d_M_judge_277 rfl ?_
      refine q_if_ne hX d_M_judge_279 rfl h (fun _ h => ?_) (fun _ h => ?_)
      · exact q_mask [true, true, false, true, true, true, true, false, true, true, false, true] rfl (t_M_judge_b303 hX hT hk4 hk180 h)
      · refine q_aload_n hX d_M_judge_282 rfl ?_
        refine q_iload hX d_M_judge_283 rfl ?_
        refine q_iconst hX d_M_judge_285 ic_2 ?_
        obtain ⟨u7, hc8, h⟩ := qbind h
        refine q_cVr hX (c_M_of X.l G hX.ad f _ _ _ hc8) cw_M_270 rfl kc_104 rfl (Nat.le_of_ble_eq_true rfl) rfl (Nat.le_of_ble_eq_true rfl) d_M_judge_286 ?_
        refine q_aload_n hX d_M_judge_289 rfl ?_
        refine q_iload hX d_M_judge_290 rfl ?_
        refine q_iconst hX d_M_judge_292 ic_2 ?_
        obtain ⟨u9, hc10, h⟩ := qbind h
        refine q_cVr hX (c_M_of X.l G hX.ad f _ _ _ hc10) cw_M_270 rfl kc_104 rfl (Nat.le_of_ble_eq_true rfl) rfl (Nat.le_of_ble_eq_true rfl) d_M_judge_293 ?_
        refine q_icmp_eq hX d_M_judge_296 rfl h (fun _ h => ?_) (fun _ h => ?_)
        · exact q_mask [true, true, false, true, true, true, true, false, true, true, false, true] rfl (t_M_judge_b303 hX hT hk4 hk180 h)
        · refine q_iconst hX d_M_judge_299 ic_1 ?_
          refine q_goto hX d_M_judge_300 rfl ?_
          exact q_mask [true, true, false, true, true, true, true, false, true, true, false, true] rfl (t_M_judge_b304 hX hT hk4 hk180 h)
set_option maxHeartbeats 4000000 in
theorem t_M_judge_lb180 {G : qG} {X : qX} (hX : qOk G X "ChantryRollsModel" prog_14_method_40_code 12 none 5) {u : qMem} {f : Nat} {k4 : qMem → Int64 → Int32 → Option (qMem)} {σ : qMem} {x1 : Int64} {x3 : Int32} {x4 : Int32} {x5 : Int32} {x6 : Int32} (hT : qTg G X 0 0 qKS qRF u none) {k180 : Int32 → Int32 → Int32 → Option (qMem)} (hk4 : ∀ (σ : qMem) (x1 : Int64) (x3 : Int32), k4 σ x1 x3 = some u → qV G X 0 0 qKS qRF σ 4 [some (.ref 104), some (.long x1), none, some (.int x3), none, none, none, none, none, none, none, none] []) (hk180 : ∀ (x7 : Int32) (x8 : Int32) (x9 : Int32), k180 x7 x8 x9 = some u → qV G X 0 0 qKS qRF σ 180 [some (.ref 104), some (.long x1), none, some (.int x3), some (.int x4), some (.int x5), some (.int x6), some (.int x7), some (.int x8), some (.int x9), none, none] []) {x7 : Int32} {x8 : Int32} {x9 : Int32} (h : p_M_judge_l180 f  σ x1 x3 x4 x5 x6 k4 k180 x7 x8 x9 = some u) : qV G X 0 0 qKS qRF σ 180 [some (.ref 104), some (.long x1), none, some (.int x3), some (.int x4), some (.int x5), some (.int x6), some (.int x7), some (.int x8), some (.int x9), none, none] [] := by
  unfold p_M_judge_l180 at h
  refine q_iload hX d_M_judge_180 rfl ?_
  refine q_aload_n hX d_M_judge_182 rfl ?_
  refine q_getI hX fl_M_296 kc_104 d_M_judge_183 ?_
  refine q_icmp_ge hX d_M_judge_186 rfl h (fun _ h => ?_) (fun _ h => ?_)
  · refine q_lload_n hX d_M_judge_327 rfl ?_
    refine q_lconst hX d_M_judge_328 lc_1 ?_
    refine q_iload hX d_M_judge_329 rfl ?_
    refine q_lshl hX d_M_judge_331 ?_
    refine q_lor hX d_M_judge_332 ?_
    refine q_lstore_n hX d_M_judge_333 (by decide) rfl rfl ?_
    refine q_aload_n hX d_M_judge_334 rfl ?_
    refine q_getR hX fl_M_40 kc_104 (rfl : qRF 104 25 = some 115) d_M_judge_335 ?_
    refine q_iload hX d_M_judge_338 rfl ?_
    refine q_iload hX d_M_judge_340 rfl ?_
    refine q_if_eq hX d_M_judge_342 rfl h (fun _ h => ?_) (fun _ h => ?_)
    · refine q_iconst hX d_M_judge_366 ic_0 ?_
      refine q_zast hX kc_115 qKS_len d_M_judge_367 h (fun hi11 h => ?_)
      refine q_iinc hX d_M_judge_368 rfl (ii_1 _) (by decide) rfl rfl ?_
      refine q_goto hX d_M_judge_371 rfl ?_
      exact q_mask [true, true, false, true, false, false, false, false, false, false, false, false] rfl (hk4 _ _ _ h)
    · refine q_iload hX d_M_judge_345 rfl ?_
      refine q_aload_n hX d_M_judge_347 rfl ?_
      refine q_getR hX fl_M_44 kc_104 (rfl : qRF 104 26 = some 116) d_M_judge_348 ?_
      refine q_aload_n hX d_M_judge_351 rfl ?_
      refine q_iload hX d_M_judge_352 rfl ?_
      refine q_iconst hX d_M_judge_354 ic_3 ?_
      obtain ⟨u12, hc13, h⟩ := qbind h
      refine q_cVr hX (c_M_of X.l G hX.ad f _ _ _ hc13) cw_M_270 rfl kc_104 rfl (Nat.le_of_ble_eq_true rfl) rfl (Nat.le_of_ble_eq_true rfl) d_M_judge_355 ?_
      refine q_iald hX kc_116 d_M_judge_358 h (fun hi14 h => ?_)
      refine q_icmp_ge hX d_M_judge_359 rfl h (fun _ h => ?_) (fun _ h => ?_)
      · refine q_iconst hX d_M_judge_366 ic_0 ?_
        refine q_zast hX kc_115 qKS_len d_M_judge_367 h (fun hi15 h => ?_)
        refine q_iinc hX d_M_judge_368 rfl (ii_1 _) (by decide) rfl rfl ?_
        refine q_goto hX d_M_judge_371 rfl ?_
        exact q_mask [true, true, false, true, false, false, false, false, false, false, false, false] rfl (hk4 _ _ _ h)
      · refine q_iconst hX d_M_judge_362 ic_1 ?_
        refine q_goto hX d_M_judge_363 rfl ?_
        refine q_zast hX kc_115 qKS_len d_M_judge_367 h (fun hi16 h => ?_)
        refine q_iinc hX d_M_judge_368 rfl (ii_1 _) (by decide) rfl rfl ?_
        refine q_goto hX d_M_judge_371 rfl ?_
        exact q_mask [true, true, false, true, false, false, false, false, false, false, false, false] rfl (hk4 _ _ _ h)
  · refine q_lload_n hX d_M_judge_189 rfl ?_
    refine q_iload hX d_M_judge_190 rfl ?_
    refine q_lshr hX d_M_judge_192 ?_
    refine q_lconst hX d_M_judge_193 lc_1 ?_
    refine q_land hX d_M_judge_194 ?_
    refine q_lconst hX d_M_judge_195 lc_1 ?_
    refine q_lcmp hX d_M_judge_196 ?_
    refine q_if_ne hX d_M_judge_197 rfl h (fun _ h => ?_) (fun _ h => ?_)
    · refine q_iinc hX d_M_judge_321 rfl (ii_1 _) (by decide) rfl rfl ?_
      refine q_goto hX d_M_judge_324 rfl ?_
      exact q_mask [true, true, false, true, true, true, true, true, true, true, false, false] rfl (hk180 _ _ _ h)
    · refine q_aload_n hX d_M_judge_200 rfl ?_
      refine q_getR hX fl_M_40 kc_104 (rfl : qRF 104 25 = some 115) d_M_judge_201 ?_
      refine q_iload hX d_M_judge_204 rfl ?_
      refine q_zald hX kc_115 d_M_judge_206 h (fun hi17 h => ?_)
      refine q_if_eq hX d_M_judge_207 rfl h (fun _ h => ?_) (fun _ h => ?_)
      · refine q_iinc hX d_M_judge_321 rfl (ii_1 _) (by decide) rfl rfl ?_
        refine q_goto hX d_M_judge_324 rfl ?_
        exact q_mask [true, true, false, true, true, true, true, true, true, true, false, false] rfl (hk180 _ _ _ h)
      · refine q_aload_n hX d_M_judge_210 rfl ?_
        refine q_getR hX fl_M_34 kc_104 (rfl : qRF 104 23 = some 113) d_M_judge_211 ?_
        refine q_iload hX d_M_judge_214 rfl ?_
        refine q_iald hX kc_113 d_M_judge_216 h (fun hi18 h => ?_)
        refine q_iload hX d_M_judge_217 rfl ?_
        refine q_icmp_ne hX d_M_judge_219 rfl h (fun _ h => ?_) (fun _ h => ?_)
        · refine q_iinc hX d_M_judge_321 rfl (ii_1 _) (by decide) rfl rfl ?_
          refine q_goto hX d_M_judge_324 rfl ?_
          exact q_mask [true, true, false, true, true, true, true, true, true, true, false, false] rfl (hk180 _ _ _ h)
        · refine q_aload_n hX d_M_judge_222 rfl ?_
          refine q_getR hX fl_M_31 kc_104 (rfl : qRF 104 22 = some 112) d_M_judge_223 ?_
          refine q_iload hX d_M_judge_226 rfl ?_
          refine q_iald hX kc_112 d_M_judge_228 h (fun hi19 h => ?_)
          refine q_istore hX d_M_judge_229 (by decide) rfl rfl ?_
          refine q_aload_n hX d_M_judge_231 rfl ?_
          refine q_iload hX d_M_judge_232 rfl ?_
          refine q_iconst hX d_M_judge_234 ic_3 ?_
          obtain ⟨u20, hc21, h⟩ := qbind h
          refine q_cVr hX (c_M_of X.l G hX.ad f _ _ _ hc21) cw_M_270 rfl kc_104 rfl (Nat.le_of_ble_eq_true rfl) rfl (Nat.le_of_ble_eq_true rfl) d_M_judge_235 ?_
          refine q_aload_n hX d_M_judge_238 rfl ?_
          refine q_iload hX d_M_judge_239 rfl ?_
          refine q_iconst hX d_M_judge_241 ic_3 ?_
          obtain ⟨u22, hc23, h⟩ := qbind h
          refine q_cVr hX (c_M_of X.l G hX.ad f _ _ _ hc23) cw_M_270 rfl kc_104 rfl (Nat.le_of_ble_eq_true rfl) rfl (Nat.le_of_ble_eq_true rfl) d_M_judge_242 ?_
          refine q_icmp_ne hX d_M_judge_245 rfl h (fun _ h => ?_) (fun _ h => ?_)
          · refine q_iconst hX d_M_judge_252 ic_0 ?_
            exact q_mask [true, true, false, true, true, true, true, true, true, true, true, false] rfl (t_M_judge_b253 hX hT hk4 hk180 h)
          · refine q_iconst hX d_M_judge_248 ic_1 ?_
            refine q_goto hX d_M_judge_249 rfl ?_
            exact q_mask [true, true, false, true, true, true, true, true, true, true, true, false] rfl (t_M_judge_b253 hX hT hk4 hk180 h)
theorem t_M_judge_l180 {G : qG} {X : qX} (hX : qOk G X "ChantryRollsModel" prog_14_method_40_code 12 none 5) {u : qMem} {f : Nat} {k4 : qMem → Int64 → Int32 → Option (qMem)} {σ : qMem} {x1 : Int64} {x3 : Int32} {x4 : Int32} {x5 : Int32} {x6 : Int32} (hT : qTg G X 0 0 qKS qRF u none) (hk4 : ∀ (σ : qMem) (x1 : Int64) (x3 : Int32), k4 σ x1 x3 = some u → qV G X 0 0 qKS qRF σ 4 [some (.ref 104), some (.long x1), none, some (.int x3), none, none, none, none, none, none, none, none] []) : ∀ (n : Nat) (x7 : Int32) (x8 : Int32) (x9 : Int32), qfix3 (p_M_judge_l180 f  σ x1 x3 x4 x5 x6 k4) n x7 x8 x9 = some u → qV G X 0 0 qKS qRF σ 180 [some (.ref 104), some (.long x1), none, some (.int x3), some (.int x4), some (.int x5), some (.int x6), some (.int x7), some (.int x8), some (.int x9), none, none] [] :=
  qfix3_ind (fun k hk _ _ _ h => t_M_judge_lb180 hX   hT hk4 hk h)
set_option maxHeartbeats 4000000 in
theorem t_M_judge_lb19 {G : qG} {X : qX} (hX : qOk G X "ChantryRollsModel" prog_14_method_40_code 12 none 5) {u : qMem} {f : Nat} {k4 : qMem → Int64 → Int32 → Option (qMem)} {σ : qMem} {x1 : Int64} {x3 : Int32} (hT : qTg G X 0 0 qKS qRF u none) {k19 : Int32 → Int32 → Option (qMem)} (hk4 : ∀ (σ : qMem) (x1 : Int64) (x3 : Int32), k4 σ x1 x3 = some u → qV G X 0 0 qKS qRF σ 4 [some (.ref 104), some (.long x1), none, some (.int x3), none, none, none, none, none, none, none, none] []) (hk19 : ∀ (x4 : Int32) (x5 : Int32), k19 x4 x5 = some u → qV G X 0 0 qKS qRF σ 19 [some (.ref 104), some (.long x1), none, some (.int x3), some (.int x4), some (.int x5), none, none, none, none, none, none] []) {x4 : Int32} {x5 : Int32} (h : p_M_judge_l19 f  σ x1 x3 k4 k19 x4 x5 = some u) : qV G X 0 0 qKS qRF σ 19 [some (.ref 104), some (.long x1), none, some (.int x3), some (.int x4), some (.int x5), none, none, none, none, none, none] [] := by
  unfold p_M_judge_l19 at h
  refine q_iload hX d_M_judge_19 rfl ?_
  refine q_aload_n hX d_M_judge_21 rfl ?_
  refine q_getI hX fl_M_296 kc_104 d_M_judge_22 ?_
  refine q_icmp_ge hX d_M_judge_25 rfl h (fun _ h => ?_) (fun _ h => ?_)
  · refine q_aload_n hX d_M_judge_110 rfl ?_
    refine q_getR hX fl_M_31 kc_104 (rfl : qRF 104 22 = some 112) d_M_judge_111 ?_
    refine q_iload hX d_M_judge_114 rfl ?_
    refine q_iald hX kc_112 d_M_judge_116 h (fun hi24 h => ?_)
    refine q_istore hX d_M_judge_117 (by decide) rfl rfl ?_
    refine q_aload_n hX d_M_judge_119 rfl ?_
    refine q_getR hX fl_M_34 kc_104 (rfl : qRF 104 23 = some 113) d_M_judge_120 ?_
    refine q_iload hX d_M_judge_123 rfl ?_
    refine q_iald hX kc_113 d_M_judge_125 h (fun hi25 h => ?_)
    refine q_istore hX d_M_judge_126 (by decide) rfl rfl ?_
    refine q_aload_n hX d_M_judge_128 rfl ?_
    refine q_iload hX d_M_judge_129 rfl ?_
    refine q_iconst hX d_M_judge_131 ic_5 ?_
    obtain ⟨u26, hc27, h⟩ := qbind h
    refine q_cVr hX (c_M_of X.l G hX.ad f _ _ _ hc27) cw_M_270 rfl kc_104 rfl (Nat.le_of_ble_eq_true rfl) rfl (Nat.le_of_ble_eq_true rfl) d_M_judge_132 ?_
    refine q_iload hX d_M_judge_135 rfl ?_
    refine q_icmp_gt hX d_M_judge_137 rfl h (fun _ h => ?_) (fun _ h => ?_)
    · refine q_iconst hX d_M_judge_171 ic_0 ?_
      refine q_istore hX d_M_judge_172 (by decide) rfl rfl ?_
      refine q_iconst hX d_M_judge_174 ic_0 ?_
      refine q_istore hX d_M_judge_175 (by decide) rfl rfl ?_
      refine q_iconst hX d_M_judge_177 ic_0 ?_
      refine q_istore hX d_M_judge_178 (by decide) rfl rfl ?_
      exact q_mask [true, true, false, true, true, true, true, true, true, true, false, false] rfl (t_M_judge_l180 hX hT hk4 f _ _ _ h)
    · refine q_aload_n hX d_M_judge_140 rfl ?_
      refine q_iload hX d_M_judge_141 rfl ?_
      refine q_iload hX d_M_judge_143 rfl ?_
      obtain ⟨u28, hc29, h⟩ := qbind h
      refine q_cVr hX (c_M_isEnded X.l G hX.ad f _ _ _ hc29) cw_M_308 rfl kc_104 rfl (Nat.le_of_ble_eq_true rfl) rfl (Nat.le_of_ble_eq_true rfl) d_M_judge_145 ?_
      refine q_if_ne hX d_M_judge_148 rfl h (fun _ h => ?_) (fun _ h => ?_)
      · refine q_iconst hX d_M_judge_171 ic_0 ?_
        refine q_istore hX d_M_judge_172 (by decide) rfl rfl ?_
        refine q_iconst hX d_M_judge_174 ic_0 ?_
        refine q_istore hX d_M_judge_175 (by decide) rfl rfl ?_
        refine q_iconst hX d_M_judge_177 ic_0 ?_
        refine q_istore hX d_M_judge_178 (by decide) rfl rfl ?_
        exact q_mask [true, true, false, true, true, true, true, true, true, true, false, false] rfl (t_M_judge_l180 hX hT hk4 f _ _ _ h)
      · refine q_aload_n hX d_M_judge_151 rfl ?_
        refine q_aload_n hX d_M_judge_152 rfl ?_
        refine q_iload hX d_M_judge_153 rfl ?_
        refine q_iconst hX d_M_judge_155 ic_3 ?_
        obtain ⟨u30, hc31, h⟩ := qbind h
        refine q_cVr hX (c_M_of X.l G hX.ad f _ _ _ hc31) cw_M_270 rfl kc_104 rfl (Nat.le_of_ble_eq_true rfl) rfl (Nat.le_of_ble_eq_true rfl) d_M_judge_156 ?_
        refine q_iload hX d_M_judge_159 rfl ?_
        obtain ⟨u32, hc33, h⟩ := qbind h
        refine q_cVr hX (c_M_isSick X.l G hX.ad f _ _ _ hc33) cw_M_312 rfl kc_104 rfl (Nat.le_of_ble_eq_true rfl) rfl (Nat.le_of_ble_eq_true rfl) d_M_judge_161 ?_
        refine q_if_ne hX d_M_judge_164 rfl h (fun _ h => ?_) (fun _ h => ?_)
        · refine q_iconst hX d_M_judge_171 ic_0 ?_
          refine q_istore hX d_M_judge_172 (by decide) rfl rfl ?_
          refine q_iconst hX d_M_judge_174 ic_0 ?_
          refine q_istore hX d_M_judge_175 (by decide) rfl rfl ?_
          refine q_iconst hX d_M_judge_177 ic_0 ?_
          refine q_istore hX d_M_judge_178 (by decide) rfl rfl ?_
          exact q_mask [true, true, false, true, true, true, true, true, true, true, false, false] rfl (t_M_judge_l180 hX hT hk4 f _ _ _ h)
        · refine q_iconst hX d_M_judge_167 ic_1 ?_
          refine q_goto hX d_M_judge_168 rfl ?_
          refine q_istore hX d_M_judge_172 (by decide) rfl rfl ?_
          refine q_iconst hX d_M_judge_174 ic_0 ?_
          refine q_istore hX d_M_judge_175 (by decide) rfl rfl ?_
          refine q_iconst hX d_M_judge_177 ic_0 ?_
          refine q_istore hX d_M_judge_178 (by decide) rfl rfl ?_
          exact q_mask [true, true, false, true, true, true, true, true, true, true, false, false] rfl (t_M_judge_l180 hX hT hk4 f _ _ _ h)
  · refine q_lload_n hX d_M_judge_28 rfl ?_
    refine q_iload hX d_M_judge_29 rfl ?_
    refine q_lshr hX d_M_judge_31 ?_
    refine q_lconst hX d_M_judge_32 lc_1 ?_
    refine q_land hX d_M_judge_33 ?_
    refine q_lconst hX d_M_judge_34 lc_0 ?_
    refine q_lcmp hX d_M_judge_35 ?_
    refine q_if_ne hX d_M_judge_36 rfl h (fun _ h => ?_) (fun _ h => ?_)
    · refine q_iconst hX d_M_judge_43 ic_0 ?_
      exact q_mask [true, true, false, true, true, true, false, false, false, false, false, false] rfl (t_M_judge_b44 hX hT hk4 hk19 h)
    · refine q_iconst hX d_M_judge_39 ic_1 ?_
      refine q_goto hX d_M_judge_40 rfl ?_
      exact q_mask [true, true, false, true, true, true, false, false, false, false, false, false] rfl (t_M_judge_b44 hX hT hk4 hk19 h)
theorem t_M_judge_l19 {G : qG} {X : qX} (hX : qOk G X "ChantryRollsModel" prog_14_method_40_code 12 none 5) {u : qMem} {f : Nat} {k4 : qMem → Int64 → Int32 → Option (qMem)} {σ : qMem} {x1 : Int64} {x3 : Int32} (hT : qTg G X 0 0 qKS qRF u none) (hk4 : ∀ (σ : qMem) (x1 : Int64) (x3 : Int32), k4 σ x1 x3 = some u → qV G X 0 0 qKS qRF σ 4 [some (.ref 104), some (.long x1), none, some (.int x3), none, none, none, none, none, none, none, none] []) : ∀ (n : Nat) (x4 : Int32) (x5 : Int32), qfix2 (p_M_judge_l19 f  σ x1 x3 k4) n x4 x5 = some u → qV G X 0 0 qKS qRF σ 19 [some (.ref 104), some (.long x1), none, some (.int x3), some (.int x4), some (.int x5), none, none, none, none, none, none] [] :=
  qfix2_ind (fun k hk _ _ h => t_M_judge_lb19 hX   hT hk4 hk h)
set_option maxHeartbeats 4000000 in
theorem t_M_judge_lb4 {G : qG} {X : qX} (hX : qOk G X "ChantryRollsModel" prog_14_method_40_code 12 none 5) {u : qMem} {f : Nat} (hT : qTg G X 0 0 qKS qRF u none) {k4 : qMem → Int64 → Int32 → Option (qMem)} (hk4 : ∀ (σ : qMem) (x1 : Int64) (x3 : Int32), k4 σ x1 x3 = some u → qV G X 0 0 qKS qRF σ 4 [some (.ref 104), some (.long x1), none, some (.int x3), none, none, none, none, none, none, none, none] []) {σ : qMem} {x1 : Int64} {x3 : Int32} (h : p_M_judge_l4 f    k4 σ x1 x3 = some u) : qV G X 0 0 qKS qRF σ 4 [some (.ref 104), some (.long x1), none, some (.int x3), none, none, none, none, none, none, none, none] [] := by
  unfold p_M_judge_l4 at h
  refine q_iload_n hX d_M_judge_4 rfl ?_
  refine q_aload_n hX d_M_judge_5 rfl ?_
  refine q_getI hX fl_M_296 kc_104 d_M_judge_6 ?_
  refine q_icmp_ge hX d_M_judge_9 rfl h (fun _ h => ?_) (fun _ h => ?_)
  · exact q_vretW hX h hT d_M_judge_374
  · refine q_ldc hX w_1335 d_M_judge_12 ?_
    refine q_istore hX d_M_judge_14 (by decide) rfl rfl ?_
    refine q_iconst hX d_M_judge_16 ic_0 ?_
    refine q_istore hX d_M_judge_17 (by decide) rfl rfl ?_
    exact q_mask [true, true, false, true, true, true, false, false, false, false, false, false] rfl (t_M_judge_l19 hX hT hk4 f _ _ h)
theorem t_M_judge_l4 {G : qG} {X : qX} (hX : qOk G X "ChantryRollsModel" prog_14_method_40_code 12 none 5) {u : qMem} {f : Nat} (hT : qTg G X 0 0 qKS qRF u none) : ∀ (n : Nat) (σ : qMem) (x1 : Int64) (x3 : Int32), qfix3 (p_M_judge_l4 f   ) n σ x1 x3 = some u → qV G X 0 0 qKS qRF σ 4 [some (.ref 104), some (.long x1), none, some (.int x3), none, none, none, none, none, none, none, none] [] :=
  qfix3_ind (fun k hk _ _ _ h => t_M_judge_lb4 hX   hT  hk h)
set_option maxHeartbeats 4000000 in
theorem c_M_judge (l : Launch) (G : qG) (hA : qAd G) (f : Nat) (σ : qMem) {u : qMem} (h : p_M_judge f σ  = some u) : qCt l y_M_judge prog_14_method_40_code 12 none 5 G qKS qRF σ [(.ref 104)] none qKS qRF u 0 0 := by
  refine qCt.of (lv := [some (.ref 104), none, none, none, none, none, none, none, none, none, none, none]) (by decide) hA (Nat.le_of_ble_eq_true rfl) rfl ?_
  intro X hl _ _ _ hX hT
  subst hl
  unfold p_M_judge at h
  refine q_lconst hX d_M_judge_0 lc_0 ?_
  refine q_lstore_n hX d_M_judge_1 (by decide) rfl rfl ?_
  refine q_iconst hX d_M_judge_2 ic_0 ?_
  refine q_istore_n hX d_M_judge_3 (by decide) rfl rfl ?_
  exact q_mask [true, true, false, true, false, false, false, false, false, false, false, false] rfl (t_M_judge_l4 hX hT f _ _ _ h)
set_option maxHeartbeats 4000000 in
theorem c_M_good (l : Launch) (G : qG) (hA : qAd G) (f : Nat) (σ : qMem) (x1 : Int32) {u : Int32 × qMem} (h : p_M_good f σ x1 = some u) : qCt l y_M_good prog_14_method_41_code 2 (some .int) 6 G qKS qRF σ [(.ref 104), (.int x1)] (some (.int u.1)) qKS qRF u.2 0 0 := by
  refine qCt.of (lv := [some (.ref 104), some (.int x1)]) (by decide) hA (Nat.le_of_ble_eq_true rfl) rfl ?_
  intro X hl _ _ _ hX hT
  subst hl
  unfold p_M_good at h
  refine q_aload_n hX d_M_good_0 rfl ?_
  refine q_iconst hX d_M_good_1 ic_0 ?_
  refine q_putI hX fl_M_137 kc_104 rfl qKS_len d_M_good_2 ?_
  refine q_iload_n hX d_M_good_5 rfl ?_
  refine q_i2l hX d_M_good_6 ?_
  refine q_lconst hX d_M_good_7 lc_0 ?_
  refine q_aload_n hX d_M_good_8 rfl ?_
  refine q_getI hX fl_M_296 kc_104 d_M_good_9 ?_
  refine q_iconst hX d_M_good_12 ic_1 ?_
  refine q_isub hX d_M_good_13 ?_
  refine q_i2l hX d_M_good_14 ?_
  obtain ⟨u1, hc2, h⟩ := qbind h
  refine q_cSr hX (c_M_in X.l G hX.ad f _ _ _ _ hc2) cw_M_147 rfl (Nat.le_of_ble_eq_true rfl) rfl (Nat.le_of_ble_eq_true rfl) d_M_good_15 ?_
  refine q_if_ne hX d_M_good_18 rfl h (fun _ h => ?_) (fun _ h => ?_)
  · refine q_aload_n hX d_M_good_24 rfl ?_
    obtain ⟨u3, hc4, h⟩ := qbind h
    refine q_cVv hX (c_M_judge X.l G hX.ad f _  hc4) cw_M_315 rfl kc_104 rfl (Nat.le_of_ble_eq_true rfl) rfl (Nat.le_of_ble_eq_true rfl) d_M_good_25 ?_
    refine q_aload_n hX d_M_good_28 rfl ?_
    refine q_getR hX fl_M_40 kc_104 (rfl : qRF 104 25 = some 115) d_M_good_29 ?_
    refine q_iload_n hX d_M_good_32 rfl ?_
    refine q_zald hX kc_115 d_M_good_33 h (fun hi5 h => ?_)
    refine q_if_eq hX d_M_good_34 rfl h (fun _ h => ?_) (fun _ h => ?_)
    · refine q_iconst hX d_M_good_41 ic_0 ?_
      exact q_iretW hX h hT d_M_good_42
    · refine q_iconst hX d_M_good_37 ic_1 ?_
      refine q_goto hX d_M_good_38 rfl ?_
      exact q_iretW hX h hT d_M_good_42
  · refine q_ldc hX w_1298 d_M_good_21 ?_
    exact q_iretW hX h hT d_M_good_23
set_option maxHeartbeats 4000000 in
theorem c_M_isIn (l : Launch) (G : qG) (hA : qAd G) (f : Nat) (σ : qMem) (x1 : Int32) (x2 : Int32) {u : Int32} (h : p_M_isIn f σ x1 x2 = some u) : qCt l y_M_isIn prog_14_method_42_code 3 (some .boolean) 1 G qKS qRF σ [(.ref 104), (.int x1), (.int x2)] (some (.int u)) qKS qRF σ 0 0 := by
  refine qCt.of (lv := [some (.ref 104), some (.int x1), some (.int x2)]) (by decide) hA (Nat.le_of_ble_eq_true rfl) rfl ?_
  intro X hl _ _ _ hX hT
  subst hl
  unfold p_M_isIn at h
  refine q_aload_n hX d_M_isIn_0 rfl ?_
  refine q_getR hX fl_M_56 kc_104 (rfl : qRF 104 32 = some 120) d_M_isIn_1 ?_
  refine q_iload_n hX d_M_isIn_4 rfl ?_
  refine q_iald hX kc_120 d_M_isIn_5 h (fun hi1 h => ?_)
  refine q_iload_n hX d_M_isIn_6 rfl ?_
  refine q_icmp_eq hX d_M_isIn_7 rfl h (fun _ h => ?_) (fun _ h => ?_)
  · refine q_iconst hX d_M_isIn_20 ic_1 ?_
    refine q_goto hX d_M_isIn_21 rfl ?_
    exact q_zretR hX zn_1 h hT d_M_isIn_25
  · refine q_aload_n hX d_M_isIn_10 rfl ?_
    refine q_getR hX fl_M_59 kc_104 (rfl : qRF 104 33 = some 121) d_M_isIn_11 ?_
    refine q_iload_n hX d_M_isIn_14 rfl ?_
    refine q_iald hX kc_121 d_M_isIn_15 h (fun hi2 h => ?_)
    refine q_iload_n hX d_M_isIn_16 rfl ?_
    refine q_icmp_ne hX d_M_isIn_17 rfl h (fun _ h => ?_) (fun _ h => ?_)
    · refine q_iconst hX d_M_isIn_24 ic_0 ?_
      exact q_zretR hX zn_0 h hT d_M_isIn_25
    · refine q_iconst hX d_M_isIn_20 ic_1 ?_
      refine q_goto hX d_M_isIn_21 rfl ?_
      exact q_zretR hX zn_1 h hT d_M_isIn_25
set_option maxHeartbeats 4000000 in
theorem t_M_join_b68 {G : qG} {X : qX} (hX : qOk G X "ChantryRollsModel" prog_14_method_43_code 5 (some .int) 3) {u : Int32 × qMem} {f : Nat} {k39 : Int32 → Option (Int32 × qMem)} {σ : qMem} {x1 : Int32} {x2 : Int32} {x3 : Int32} {x4 : Int32} (hT : qTg G X 0 0 qKS qRF u.2 (some (.int u.1))) (hk39 : ∀ (x4 : Int32), k39 x4 = some u → qV G X 0 0 qKS qRF σ 39 [some (.ref 104), some (.int x1), some (.int x2), some (.int x3), some (.int x4)] []) (h : p_M_join_b68 f   k39 σ x1 x2 x3 x4 = some u) : qV G X 0 0 qKS qRF σ 68 [some (.ref 104), some (.int x1), some (.int x2), some (.int x3), some (.int x4)] [] := by
  unfold p_M_join_b68 at h
  refine q_aload_n hX d_M_join_68 rfl ?_
  refine q_getR hX fl_M_65 kc_104 (rfl : qRF 104 35 = some 123) d_M_join_69 ?_
  refine q_iload hX d_M_join_72 rfl ?_
  refine q_iald hX kc_123 d_M_join_74 h (fun hi1 h => ?_)
  refine q_ldc hX w_1335 d_M_join_75 ?_
  refine q_icmp_eq hX d_M_join_77 rfl h (fun _ h => ?_) (fun _ h => ?_)
  · refine q_ldcw hX w_1469 d_M_join_91 ?_
    exact q_iretW hX h hT d_M_join_94
  · refine q_aload_n hX d_M_join_80 rfl ?_
    refine q_getR hX fl_M_65 kc_104 (rfl : qRF 104 35 = some 123) d_M_join_81 ?_
    refine q_iload hX d_M_join_84 rfl ?_
    refine q_iald hX kc_123 d_M_join_86 h (fun hi2 h => ?_)
    refine q_iload_n hX d_M_join_87 rfl ?_
    refine q_icmp_le hX d_M_join_88 rfl h (fun _ h => ?_) (fun _ h => ?_)
    · refine q_iinc hX d_M_join_95 rfl (ii_1 _) (by decide) rfl rfl ?_
      refine q_goto hX d_M_join_98 rfl ?_
      exact q_mask [true, true, true, true, true] rfl (hk39 _ h)
    · refine q_ldcw hX w_1469 d_M_join_91 ?_
      exact q_iretW hX h hT d_M_join_94
set_option maxHeartbeats 4000000 in
theorem t_M_join_lb39 {G : qG} {X : qX} (hX : qOk G X "ChantryRollsModel" prog_14_method_43_code 5 (some .int) 3) {u : Int32 × qMem} {f : Nat} {σ : qMem} {x1 : Int32} {x2 : Int32} {x3 : Int32} (hT : qTg G X 0 0 qKS qRF u.2 (some (.int u.1))) {k39 : Int32 → Option (Int32 × qMem)} (hk39 : ∀ (x4 : Int32), k39 x4 = some u → qV G X 0 0 qKS qRF σ 39 [some (.ref 104), some (.int x1), some (.int x2), some (.int x3), some (.int x4)] []) {x4 : Int32} (h : p_M_join_l39 f  σ x1 x2 x3  k39 x4 = some u) : qV G X 0 0 qKS qRF σ 39 [some (.ref 104), some (.int x1), some (.int x2), some (.int x3), some (.int x4)] [] := by
  unfold p_M_join_l39 at h
  refine q_iload hX d_M_join_39 rfl ?_
  refine q_aload_n hX d_M_join_41 rfl ?_
  refine q_getI hX fl_M_318 kc_104 d_M_join_42 ?_
  refine q_icmp_ge hX d_M_join_45 rfl h (fun _ h => ?_) (fun _ h => ?_)
  · refine q_aload_n hX d_M_join_101 rfl ?_
    refine q_getI hX fl_M_318 kc_104 d_M_join_102 ?_
    refine q_bipush hX d_M_join_105 bp_10 ?_
    refine q_icmp_ne hX d_M_join_107 rfl h (fun _ h => ?_) (fun _ h => ?_)
    · refine q_aload_n hX d_M_join_113 rfl ?_
      refine q_getR hX fl_M_56 kc_104 (rfl : qRF 104 32 = some 120) d_M_join_114 ?_
      refine q_aload_n hX d_M_join_117 rfl ?_
      refine q_getI hX fl_M_318 kc_104 d_M_join_118 ?_
      refine q_iload_n hX d_M_join_121 rfl ?_
      refine q_iast hX kc_120 qKS_len d_M_join_122 h (fun hi3 h => ?_)
      refine q_aload_n hX d_M_join_123 rfl ?_
      refine q_getR hX fl_M_59 kc_104 (rfl : qRF 104 33 = some 121) d_M_join_124 ?_
      refine q_aload_n hX d_M_join_127 rfl ?_
      refine q_getI hX fl_M_318 kc_104 d_M_join_128 ?_
      refine q_iload_n hX d_M_join_131 rfl ?_
      refine q_iast hX kc_121 qKS_len d_M_join_132 h (fun hi4 h => ?_)
      refine q_aload_n hX d_M_join_133 rfl ?_
      refine q_getR hX fl_M_62 kc_104 (rfl : qRF 104 34 = some 122) d_M_join_134 ?_
      refine q_aload_n hX d_M_join_137 rfl ?_
      refine q_getI hX fl_M_318 kc_104 d_M_join_138 ?_
      refine q_iload_n hX d_M_join_141 rfl ?_
      refine q_iast hX kc_122 qKS_len d_M_join_142 h (fun hi5 h => ?_)
      refine q_aload_n hX d_M_join_143 rfl ?_
      refine q_getR hX fl_M_65 kc_104 (rfl : qRF 104 35 = some 123) d_M_join_144 ?_
      refine q_aload_n hX d_M_join_147 rfl ?_
      refine q_getI hX fl_M_318 kc_104 d_M_join_148 ?_
      refine q_ldc hX w_1335 d_M_join_151 ?_
      refine q_iast hX kc_123 qKS_len d_M_join_153 h (fun hi6 h => ?_)
      refine q_aload_n hX d_M_join_154 rfl ?_
      refine q_dup hX rfl d_M_join_155 ?_
      refine q_getI hX fl_M_318 kc_104 d_M_join_156 ?_
      refine q_iconst hX d_M_join_159 ic_1 ?_
      refine q_iadd hX d_M_join_160 ?_
      refine q_putI hX fl_M_318 kc_104 rfl qKS_len d_M_join_161 ?_
      refine q_iconst hX d_M_join_164 ic_1 ?_
      exact q_iretW hX h hT d_M_join_165
    · refine q_ldc hX w_1321 d_M_join_110 ?_
      exact q_iretW hX h hT d_M_join_112
  · refine q_aload_n hX d_M_join_48 rfl ?_
    refine q_iload hX d_M_join_49 rfl ?_
    refine q_iload_n hX d_M_join_51 rfl ?_
    obtain ⟨u7, hc8, h⟩ := qbind h
    refine q_cVr hX (c_M_isIn X.l G hX.ad f _ _ _ hc8) cw_M_321 rfl kc_104 rfl (Nat.le_of_ble_eq_true rfl) rfl (Nat.le_of_ble_eq_true rfl) d_M_join_52 ?_
    refine q_if_ne hX d_M_join_55 rfl h (fun _ h => ?_) (fun _ h => ?_)
    · exact q_mask [true, true, true, true, true] rfl (t_M_join_b68 hX hT hk39 h)
    · refine q_aload_n hX d_M_join_58 rfl ?_
      refine q_iload hX d_M_join_59 rfl ?_
      refine q_iload_n hX d_M_join_61 rfl ?_
      obtain ⟨u9, hc10, h⟩ := qbind h
      refine q_cVr hX (c_M_isIn X.l G hX.ad f _ _ _ hc10) cw_M_321 rfl kc_104 rfl (Nat.le_of_ble_eq_true rfl) rfl (Nat.le_of_ble_eq_true rfl) d_M_join_62 ?_
      refine q_if_eq hX d_M_join_65 rfl h (fun _ h => ?_) (fun _ h => ?_)
      · refine q_iinc hX d_M_join_95 rfl (ii_1 _) (by decide) rfl rfl ?_
        refine q_goto hX d_M_join_98 rfl ?_
        exact q_mask [true, true, true, true, true] rfl (hk39 _ h)
      · exact q_mask [true, true, true, true, true] rfl (t_M_join_b68 hX hT hk39 h)
theorem t_M_join_l39 {G : qG} {X : qX} (hX : qOk G X "ChantryRollsModel" prog_14_method_43_code 5 (some .int) 3) {u : Int32 × qMem} {f : Nat} {σ : qMem} {x1 : Int32} {x2 : Int32} {x3 : Int32} (hT : qTg G X 0 0 qKS qRF u.2 (some (.int u.1))) : ∀ (n : Nat) (x4 : Int32), qfix1 (p_M_join_l39 f  σ x1 x2 x3 ) n x4 = some u → qV G X 0 0 qKS qRF σ 39 [some (.ref 104), some (.int x1), some (.int x2), some (.int x3), some (.int x4)] [] :=
  qfix1_ind (fun k hk _ h => t_M_join_lb39 hX   hT  hk h)
set_option maxHeartbeats 4000000 in
theorem c_M_join (l : Launch) (G : qG) (hA : qAd G) (f : Nat) (σ : qMem) (x1 : Int32) (x2 : Int32) (x3 : Int32) {u : Int32 × qMem} (h : p_M_join f σ x1 x2 x3 = some u) : qCt l y_M_join prog_14_method_43_code 5 (some .int) 3 G qKS qRF σ [(.ref 104), (.int x1), (.int x2), (.int x3)] (some (.int u.1)) qKS qRF u.2 0 0 := by
  refine qCt.of (lv := [some (.ref 104), some (.int x1), some (.int x2), some (.int x3), none]) (by decide) hA (Nat.le_of_ble_eq_true rfl) rfl ?_
  intro X hl _ _ _ hX hT
  subst hl
  unfold p_M_join at h
  refine q_aload_n hX d_M_join_0 rfl ?_
  refine q_iconst hX d_M_join_1 ic_0 ?_
  refine q_putI hX fl_M_137 kc_104 rfl qKS_len d_M_join_2 ?_
  refine q_aload_n hX d_M_join_5 rfl ?_
  refine q_iload_n hX d_M_join_6 rfl ?_
  obtain ⟨u11, hc12, h⟩ := qbind h
  refine q_cVr hX (c_M_isPromise X.l G hX.ad f _ _ hc12) cw_M_265 rfl kc_104 rfl (Nat.le_of_ble_eq_true rfl) rfl (Nat.le_of_ble_eq_true rfl) d_M_join_7 ?_
  refine q_if_eq hX d_M_join_10 rfl h (fun _ h => ?_) (fun _ h => ?_)
  · refine q_ldc hX w_1298 d_M_join_33 ?_
    exact q_iretW hX h hT d_M_join_35
  · refine q_aload_n hX d_M_join_13 rfl ?_
    refine q_iload_n hX d_M_join_14 rfl ?_
    obtain ⟨u13, hc14, h⟩ := qbind h
    refine q_cVr hX (c_M_isPromise X.l G hX.ad f _ _ hc14) cw_M_265 rfl kc_104 rfl (Nat.le_of_ble_eq_true rfl) rfl (Nat.le_of_ble_eq_true rfl) d_M_join_15 ?_
    refine q_if_eq hX d_M_join_18 rfl h (fun _ h => ?_) (fun _ h => ?_)
    · refine q_ldc hX w_1298 d_M_join_33 ?_
      exact q_iretW hX h hT d_M_join_35
    · refine q_iload_n hX d_M_join_21 rfl ?_
      refine q_iload_n hX d_M_join_22 rfl ?_
      refine q_icmp_eq hX d_M_join_23 rfl h (fun _ h => ?_) (fun _ h => ?_)
      · refine q_ldc hX w_1298 d_M_join_33 ?_
        exact q_iretW hX h hT d_M_join_35
      · refine q_iload_n hX d_M_join_26 rfl ?_
        obtain ⟨u15, hc16, h⟩ := qbind h
        refine q_cSr hX (c_M_isDay X.l G hX.ad f _ _ hc16) cw_M_274 rfl (Nat.le_of_ble_eq_true rfl) rfl (Nat.le_of_ble_eq_true rfl) d_M_join_27 ?_
        refine q_if_ne hX d_M_join_30 rfl h (fun _ h => ?_) (fun _ h => ?_)
        · refine q_iconst hX d_M_join_36 ic_0 ?_
          refine q_istore hX d_M_join_37 (by decide) rfl rfl ?_
          exact q_mask [true, true, true, true, true] rfl (t_M_join_l39 hX hT f _ h)
        · refine q_ldc hX w_1298 d_M_join_33 ?_
          exact q_iretW hX h hT d_M_join_35
set_option maxHeartbeats 4000000 in
theorem t_M_split_lb29 {G : qG} {X : qX} (hX : qOk G X "ChantryRollsModel" prog_14_method_44_code 5 (some .int) 3) {u : Int32 × qMem} {f : Nat} {σ : qMem} {x1 : Int32} {x2 : Int32} (hT : qTg G X 0 0 qKS qRF u.2 (some (.int u.1))) {k29 : Int32 → Int32 → Option (Int32 × qMem)} (hk29 : ∀ (x3 : Int32) (x4 : Int32), k29 x3 x4 = some u → qV G X 0 0 qKS qRF σ 29 [some (.ref 104), some (.int x1), some (.int x2), some (.int x3), some (.int x4)] []) {x3 : Int32} {x4 : Int32} (h : p_M_split_l29 f  σ x1 x2  k29 x3 x4 = some u) : qV G X 0 0 qKS qRF σ 29 [some (.ref 104), some (.int x1), some (.int x2), some (.int x3), some (.int x4)] [] := by
  unfold p_M_split_l29 at h
  refine q_iload hX d_M_split_29 rfl ?_
  refine q_aload_n hX d_M_split_31 rfl ?_
  refine q_getI hX fl_M_318 kc_104 d_M_split_32 ?_
  refine q_icmp_ge hX d_M_split_35 rfl h (fun _ h => ?_) (fun _ h => ?_)
  · refine q_iload_n hX d_M_split_61 rfl ?_
    refine q_ldc hX w_1335 d_M_split_62 ?_
    refine q_icmp_eq hX d_M_split_64 rfl h (fun _ h => ?_) (fun _ h => ?_)
    · refine q_ldcw hX w_1469 d_M_split_88 ?_
      exact q_iretW hX h hT d_M_split_91
    · refine q_aload_n hX d_M_split_67 rfl ?_
      refine q_getR hX fl_M_65 kc_104 (rfl : qRF 104 35 = some 123) d_M_split_68 ?_
      refine q_iload_n hX d_M_split_71 rfl ?_
      refine q_iald hX kc_123 d_M_split_72 h (fun hi1 h => ?_)
      refine q_ldc hX w_1335 d_M_split_73 ?_
      refine q_icmp_ne hX d_M_split_75 rfl h (fun _ h => ?_) (fun _ h => ?_)
      · refine q_ldcw hX w_1469 d_M_split_88 ?_
        exact q_iretW hX h hT d_M_split_91
      · refine q_iload_n hX d_M_split_78 rfl ?_
        refine q_aload_n hX d_M_split_79 rfl ?_
        refine q_getR hX fl_M_62 kc_104 (rfl : qRF 104 34 = some 122) d_M_split_80 ?_
        refine q_iload_n hX d_M_split_83 rfl ?_
        refine q_iald hX kc_122 d_M_split_84 h (fun hi2 h => ?_)
        refine q_icmp_gt hX d_M_split_85 rfl h (fun _ h => ?_) (fun _ h => ?_)
        · refine q_aload_n hX d_M_split_92 rfl ?_
          refine q_getR hX fl_M_65 kc_104 (rfl : qRF 104 35 = some 123) d_M_split_93 ?_
          refine q_iload_n hX d_M_split_96 rfl ?_
          refine q_iload_n hX d_M_split_97 rfl ?_
          refine q_iast hX kc_123 qKS_len d_M_split_98 h (fun hi3 h => ?_)
          refine q_iconst hX d_M_split_99 ic_1 ?_
          exact q_iretW hX h hT d_M_split_100
        · refine q_ldcw hX w_1469 d_M_split_88 ?_
          exact q_iretW hX h hT d_M_split_91
  · refine q_aload_n hX d_M_split_38 rfl ?_
    refine q_iload hX d_M_split_39 rfl ?_
    refine q_iload_n hX d_M_split_41 rfl ?_
    obtain ⟨u4, hc5, h⟩ := qbind h
    refine q_cVr hX (c_M_isIn X.l G hX.ad f _ _ _ hc5) cw_M_321 rfl kc_104 rfl (Nat.le_of_ble_eq_true rfl) rfl (Nat.le_of_ble_eq_true rfl) d_M_split_42 ?_
    refine q_if_eq hX d_M_split_45 rfl h (fun _ h => ?_) (fun _ h => ?_)
    · refine q_iload_n hX d_M_split_53 rfl ?_
      refine q_istore_n hX d_M_split_54 (by decide) rfl rfl ?_
      refine q_iinc hX d_M_split_55 rfl (ii_1 _) (by decide) rfl rfl ?_
      refine q_goto hX d_M_split_58 rfl ?_
      exact q_mask [true, true, true, true, true] rfl (hk29 _ _ h)
    · refine q_iload hX d_M_split_48 rfl ?_
      refine q_goto hX d_M_split_50 rfl ?_
      refine q_istore_n hX d_M_split_54 (by decide) rfl rfl ?_
      refine q_iinc hX d_M_split_55 rfl (ii_1 _) (by decide) rfl rfl ?_
      refine q_goto hX d_M_split_58 rfl ?_
      exact q_mask [true, true, true, true, true] rfl (hk29 _ _ h)
theorem t_M_split_l29 {G : qG} {X : qX} (hX : qOk G X "ChantryRollsModel" prog_14_method_44_code 5 (some .int) 3) {u : Int32 × qMem} {f : Nat} {σ : qMem} {x1 : Int32} {x2 : Int32} (hT : qTg G X 0 0 qKS qRF u.2 (some (.int u.1))) : ∀ (n : Nat) (x3 : Int32) (x4 : Int32), qfix2 (p_M_split_l29 f  σ x1 x2 ) n x3 x4 = some u → qV G X 0 0 qKS qRF σ 29 [some (.ref 104), some (.int x1), some (.int x2), some (.int x3), some (.int x4)] [] :=
  qfix2_ind (fun k hk _ _ h => t_M_split_lb29 hX   hT  hk h)
set_option maxHeartbeats 4000000 in
theorem c_M_split (l : Launch) (G : qG) (hA : qAd G) (f : Nat) (σ : qMem) (x1 : Int32) (x2 : Int32) {u : Int32 × qMem} (h : p_M_split f σ x1 x2 = some u) : qCt l y_M_split prog_14_method_44_code 5 (some .int) 3 G qKS qRF σ [(.ref 104), (.int x1), (.int x2)] (some (.int u.1)) qKS qRF u.2 0 0 := by
  refine qCt.of (lv := [some (.ref 104), some (.int x1), some (.int x2), none, none]) (by decide) hA (Nat.le_of_ble_eq_true rfl) rfl ?_
  intro X hl _ _ _ hX hT
  subst hl
  unfold p_M_split at h
  refine q_aload_n hX d_M_split_0 rfl ?_
  refine q_iconst hX d_M_split_1 ic_0 ?_
  refine q_putI hX fl_M_137 kc_104 rfl qKS_len d_M_split_2 ?_
  refine q_aload_n hX d_M_split_5 rfl ?_
  refine q_iload_n hX d_M_split_6 rfl ?_
  obtain ⟨u6, hc7, h⟩ := qbind h
  refine q_cVr hX (c_M_isPromise X.l G hX.ad f _ _ hc7) cw_M_265 rfl kc_104 rfl (Nat.le_of_ble_eq_true rfl) rfl (Nat.le_of_ble_eq_true rfl) d_M_split_7 ?_
  refine q_if_eq hX d_M_split_10 rfl h (fun _ h => ?_) (fun _ h => ?_)
  · refine q_ldc hX w_1298 d_M_split_20 ?_
    exact q_iretW hX h hT d_M_split_22
  · refine q_iload_n hX d_M_split_13 rfl ?_
    obtain ⟨u8, hc9, h⟩ := qbind h
    refine q_cSr hX (c_M_isDay X.l G hX.ad f _ _ hc9) cw_M_274 rfl (Nat.le_of_ble_eq_true rfl) rfl (Nat.le_of_ble_eq_true rfl) d_M_split_14 ?_
    refine q_if_ne hX d_M_split_17 rfl h (fun _ h => ?_) (fun _ h => ?_)
    · refine q_ldc hX w_1335 d_M_split_23 ?_
      refine q_istore_n hX d_M_split_25 (by decide) rfl rfl ?_
      refine q_iconst hX d_M_split_26 ic_0 ?_
      refine q_istore hX d_M_split_27 (by decide) rfl rfl ?_
      exact q_mask [true, true, true, true, true] rfl (t_M_split_l29 hX hT f _ _ h)
    · refine q_ldc hX w_1298 d_M_split_20 ?_
      exact q_iretW hX h hT d_M_split_22
set_option maxHeartbeats 4000000 in
theorem t_M_rankOn_lb4 {G : qG} {X : qX} (hX : qOk G X "ChantryRollsModel" prog_14_method_30_code 4 (some .int) 1) {u : Int32} {f : Nat} {σ : qMem} {x1 : Int32} (hT : qTg G X 0 0 qKS qRF σ (some (.int u))) {k4 : Int32 → Int32 → Option (Int32)} (hk4 : ∀ (x2 : Int32) (x3 : Int32), k4 x2 x3 = some u → qV G X 0 0 qKS qRF σ 4 [some (.ref 104), some (.int x1), some (.int x2), some (.int x3)] []) {x2 : Int32} {x3 : Int32} (h : p_M_rankOn_l4 f  σ x1  k4 x2 x3 = some u) : qV G X 0 0 qKS qRF σ 4 [some (.ref 104), some (.int x1), some (.int x2), some (.int x3)] [] := by
  unfold p_M_rankOn_l4 at h
  refine q_iload_n hX d_M_rankOn_4 rfl ?_
  refine q_aload_n hX d_M_rankOn_5 rfl ?_
  refine q_getI hX fl_M_277 kc_104 d_M_rankOn_6 ?_
  refine q_icmp_ge hX d_M_rankOn_9 rfl h (fun _ h => ?_) (fun _ h => ?_)
  · refine q_iload_n hX d_M_rankOn_49 rfl ?_
    exact q_iretR hX h hT d_M_rankOn_50
  · refine q_aload_n hX d_M_rankOn_12 rfl ?_
    refine q_getR hX fl_M_25 kc_104 (rfl : qRF 104 19 = some 110) d_M_rankOn_13 ?_
    refine q_iload_n hX d_M_rankOn_16 rfl ?_
    refine q_iald hX kc_110 d_M_rankOn_17 h (fun hi1 h => ?_)
    refine q_iload_n hX d_M_rankOn_18 rfl ?_
    refine q_icmp_ne hX d_M_rankOn_19 rfl h (fun _ h => ?_) (fun _ h => ?_)
    · refine q_iload_n hX d_M_rankOn_41 rfl ?_
      refine q_istore_n hX d_M_rankOn_42 (by decide) rfl rfl ?_
      refine q_iinc hX d_M_rankOn_43 rfl (ii_1 _) (by decide) rfl rfl ?_
      refine q_goto hX d_M_rankOn_46 rfl ?_
      exact q_mask [true, true, true, true] rfl (hk4 _ _ h)
    · refine q_aload_n hX d_M_rankOn_22 rfl ?_
      refine q_getR hX fl_M_28 kc_104 (rfl : qRF 104 20 = some 111) d_M_rankOn_23 ?_
      refine q_iload_n hX d_M_rankOn_26 rfl ?_
      refine q_iald hX kc_111 d_M_rankOn_27 h (fun hi2 h => ?_)
      refine q_iload_n hX d_M_rankOn_28 rfl ?_
      refine q_icmp_le hX d_M_rankOn_29 rfl h (fun _ h => ?_) (fun _ h => ?_)
      · refine q_iload_n hX d_M_rankOn_41 rfl ?_
        refine q_istore_n hX d_M_rankOn_42 (by decide) rfl rfl ?_
        refine q_iinc hX d_M_rankOn_43 rfl (ii_1 _) (by decide) rfl rfl ?_
        refine q_goto hX d_M_rankOn_46 rfl ?_
        exact q_mask [true, true, true, true] rfl (hk4 _ _ h)
      · refine q_aload_n hX d_M_rankOn_32 rfl ?_
        refine q_getR hX fl_M_28 kc_104 (rfl : qRF 104 20 = some 111) d_M_rankOn_33 ?_
        refine q_iload_n hX d_M_rankOn_36 rfl ?_
        refine q_iald hX kc_111 d_M_rankOn_37 h (fun hi3 h => ?_)
        refine q_goto hX d_M_rankOn_38 rfl ?_
        refine q_istore_n hX d_M_rankOn_42 (by decide) rfl rfl ?_
        refine q_iinc hX d_M_rankOn_43 rfl (ii_1 _) (by decide) rfl rfl ?_
        refine q_goto hX d_M_rankOn_46 rfl ?_
        exact q_mask [true, true, true, true] rfl (hk4 _ _ h)
theorem t_M_rankOn_l4 {G : qG} {X : qX} (hX : qOk G X "ChantryRollsModel" prog_14_method_30_code 4 (some .int) 1) {u : Int32} {f : Nat} {σ : qMem} {x1 : Int32} (hT : qTg G X 0 0 qKS qRF σ (some (.int u))) : ∀ (n : Nat) (x2 : Int32) (x3 : Int32), qfix2 (p_M_rankOn_l4 f  σ x1 ) n x2 x3 = some u → qV G X 0 0 qKS qRF σ 4 [some (.ref 104), some (.int x1), some (.int x2), some (.int x3)] [] :=
  qfix2_ind (fun k hk _ _ h => t_M_rankOn_lb4 hX   hT  hk h)
set_option maxHeartbeats 4000000 in
theorem c_M_rankOn (l : Launch) (G : qG) (hA : qAd G) (f : Nat) (σ : qMem) (x1 : Int32) {u : Int32} (h : p_M_rankOn f σ x1 = some u) : qCt l y_M_rankOn prog_14_method_30_code 4 (some .int) 1 G qKS qRF σ [(.ref 104), (.int x1)] (some (.int u)) qKS qRF σ 0 0 := by
  refine qCt.of (lv := [some (.ref 104), some (.int x1), none, none]) (by decide) hA (Nat.le_of_ble_eq_true rfl) rfl ?_
  intro X hl _ _ _ hX hT
  subst hl
  unfold p_M_rankOn at h
  refine q_iconst hX d_M_rankOn_0 ic_0 ?_
  refine q_istore_n hX d_M_rankOn_1 (by decide) rfl rfl ?_
  refine q_iconst hX d_M_rankOn_2 ic_0 ?_
  refine q_istore_n hX d_M_rankOn_3 (by decide) rfl rfl ?_
  exact q_mask [true, true, true, true] rfl (t_M_rankOn_l4 hX hT f _ _ h)
set_option maxHeartbeats 4000000 in
theorem t_M_movedFrom_b41 {G : qG} {X : qX} (hX : qOk G X "ChantryRollsModel" prog_14_method_31_code 4 (some .int) 2) {u : Int32} {f : Nat} {σ : qMem} {x3 : Int32} (hT : qTg G X 0 0 qKS qRF σ (some (.int u))) (h : p_M_movedFrom_b41 f    σ x3 = some u) : qV G X 0 0 qKS qRF σ 41 [none, none, none, some (.int x3)] [] := by
  unfold p_M_movedFrom_b41 at h
  refine q_iload_n hX d_M_movedFrom_41 rfl ?_
  refine q_sipush hX d_M_movedFrom_42 sp_9999 ?_
  refine q_icmp_le hX d_M_movedFrom_45 rfl h (fun _ h => ?_) (fun _ h => ?_)
  · refine q_iload_n hX d_M_movedFrom_53 rfl ?_
    exact q_iretR hX h hT d_M_movedFrom_54
  · refine q_ldc hX w_1335 d_M_movedFrom_48 ?_
    refine q_goto hX d_M_movedFrom_50 rfl ?_
    exact q_iretR hX h hT d_M_movedFrom_54
set_option maxHeartbeats 4000000 in
theorem t_M_movedFrom_lb16 {G : qG} {X : qX} (hX : qOk G X "ChantryRollsModel" prog_14_method_31_code 4 (some .int) 2) {u : Int32} {f : Nat} {σ : qMem} {x2 : Int32} (hT : qTg G X 0 0 qKS qRF σ (some (.int u))) {k16 : Int32 → Option (Int32)} (hk16 : ∀ (x3 : Int32), k16 x3 = some u → qV G X 0 0 qKS qRF σ 16 [some (.ref 104), none, some (.int x2), some (.int x3)] []) {x3 : Int32} (h : p_M_movedFrom_l16 f  σ x2  k16 x3 = some u) : qV G X 0 0 qKS qRF σ 16 [some (.ref 104), none, some (.int x2), some (.int x3)] [] := by
  unfold p_M_movedFrom_l16 at h
  refine q_iload_n hX d_M_movedFrom_16 rfl ?_
  refine q_if_le hX d_M_movedFrom_17 rfl h (fun _ h => ?_) (fun _ h => ?_)
  · exact q_mask [false, false, false, true] rfl (t_M_movedFrom_b41 hX hT h)
  · refine q_iload_n hX d_M_movedFrom_20 rfl ?_
    refine q_sipush hX d_M_movedFrom_21 sp_10000 ?_
    refine q_icmp_ge hX d_M_movedFrom_24 rfl h (fun _ h => ?_) (fun _ h => ?_)
    · exact q_mask [false, false, false, true] rfl (t_M_movedFrom_b41 hX hT h)
    · refine q_aload_n hX d_M_movedFrom_27 rfl ?_
      refine q_iload_n hX d_M_movedFrom_28 rfl ?_
      obtain ⟨u1, hc2, h⟩ := qbind h
      refine q_cVr hX (c_M_rankOn X.l G hX.ad f _ _ hc2) cw_M_280 rfl kc_104 rfl (Nat.le_of_ble_eq_true rfl) rfl (Nat.le_of_ble_eq_true rfl) d_M_movedFrom_29 ?_
      refine q_if_le hX d_M_movedFrom_32 rfl h (fun _ h => ?_) (fun _ h => ?_)
      · exact q_mask [false, false, false, true] rfl (t_M_movedFrom_b41 hX hT h)
      · refine q_iinc hX d_M_movedFrom_35 rfl (ii_1 _) (by decide) rfl rfl ?_
        refine q_goto hX d_M_movedFrom_38 rfl ?_
        exact q_mask [true, false, true, true] rfl (hk16 _ h)
theorem t_M_movedFrom_l16 {G : qG} {X : qX} (hX : qOk G X "ChantryRollsModel" prog_14_method_31_code 4 (some .int) 2) {u : Int32} {f : Nat} {σ : qMem} {x2 : Int32} (hT : qTg G X 0 0 qKS qRF σ (some (.int u))) : ∀ (n : Nat) (x3 : Int32), qfix1 (p_M_movedFrom_l16 f  σ x2 ) n x3 = some u → qV G X 0 0 qKS qRF σ 16 [some (.ref 104), none, some (.int x2), some (.int x3)] [] :=
  qfix1_ind (fun k hk _ h => t_M_movedFrom_lb16 hX   hT  hk h)
set_option maxHeartbeats 4000000 in
theorem c_M_movedFrom (l : Launch) (G : qG) (hA : qAd G) (f : Nat) (σ : qMem) (x1 : Int32) {u : Int32} (h : p_M_movedFrom f σ x1 = some u) : qCt l y_M_movedFrom prog_14_method_31_code 4 (some .int) 2 G qKS qRF σ [(.ref 104), (.int x1)] (some (.int u)) qKS qRF σ 0 0 := by
  refine qCt.of (lv := [some (.ref 104), some (.int x1), none, none]) (by decide) hA (Nat.le_of_ble_eq_true rfl) rfl ?_
  intro X hl _ _ _ hX hT
  subst hl
  unfold p_M_movedFrom at h
  refine q_aload_n hX d_M_movedFrom_0 rfl ?_
  refine q_iload_n hX d_M_movedFrom_1 rfl ?_
  obtain ⟨u3, hc4, h⟩ := qbind h
  refine q_cVr hX (c_M_rankOn X.l G hX.ad f _ _ hc4) cw_M_280 rfl kc_104 rfl (Nat.le_of_ble_eq_true rfl) rfl (Nat.le_of_ble_eq_true rfl) d_M_movedFrom_2 ?_
  refine q_istore_n hX d_M_movedFrom_5 (by decide) rfl rfl ?_
  refine q_iload_n hX d_M_movedFrom_6 rfl ?_
  refine q_iconst hX d_M_movedFrom_7 ic_2 ?_
  refine q_icmp_ne hX d_M_movedFrom_8 rfl h (fun _ h => ?_) (fun _ h => ?_)
  · refine q_iload_n hX d_M_movedFrom_14 rfl ?_
    refine q_istore_n hX d_M_movedFrom_15 (by decide) rfl rfl ?_
    exact q_mask [true, false, true, true] rfl (t_M_movedFrom_l16 hX hT f _ h)
  · refine q_ldc hX w_1335 d_M_movedFrom_11 ?_
    exact q_iretR hX h hT d_M_movedFrom_13
set_option maxHeartbeats 4000000 in
theorem t_M_wantsIn_b63 {G : qG} {X : qX} (hX : qOk G X "ChantryRollsModel" prog_14_method_32_code 7 (some .int) 3) {u : Int32} {f : Nat} {k11 : Int32 → Int32 → Option (Int32)} {σ : qMem} {x1 : Int32} {x2 : Int32} {x3 : Int32} {x5 : Int32} {s0 : Int32} {s1 : Int32} (hT : qTg G X 0 0 qKS qRF σ (some (.int u))) (hk11 : ∀ (x4 : Int32) (x5 : Int32), k11 x4 x5 = some u → qV G X 0 0 qKS qRF σ 11 [some (.ref 104), some (.int x1), some (.int x2), some (.int x3), some (.int x4), some (.int x5), none] []) (h : p_M_wantsIn_b63 f   k11 σ x1 x2 x3 x5 s0 s1 = some u) : qV G X 0 0 qKS qRF σ 63 [some (.ref 104), some (.int x1), some (.int x2), some (.int x3), none, some (.int x5), none] [(.int s1), (.int s0)] := by
  unfold p_M_wantsIn_b63 at h
  refine q_iadd hX d_M_wantsIn_63 ?_
  refine q_istore hX d_M_wantsIn_64 (by decide) rfl rfl ?_
  refine q_iload hX d_M_wantsIn_66 rfl ?_
  refine q_aload_n hX d_M_wantsIn_68 rfl ?_
  refine q_iload_n hX d_M_wantsIn_69 rfl ?_
  refine q_iconst hX d_M_wantsIn_70 ic_4 ?_
  obtain ⟨u1, hc2, h⟩ := qbind h
  refine q_cVr hX (c_M_of X.l G hX.ad f _ _ _ hc2) cw_M_270 rfl kc_104 rfl (Nat.le_of_ble_eq_true rfl) rfl (Nat.le_of_ble_eq_true rfl) d_M_wantsIn_71 ?_
  refine q_iadd hX d_M_wantsIn_74 ?_
  refine q_istore hX d_M_wantsIn_75 (by decide) rfl rfl ?_
  refine q_goto hX d_M_wantsIn_77 rfl ?_
  exact q_mask [true, true, true, true, true, true, false] rfl (hk11 _ _ h)
set_option maxHeartbeats 4000000 in
theorem t_M_wantsIn_b62 {G : qG} {X : qX} (hX : qOk G X "ChantryRollsModel" prog_14_method_32_code 7 (some .int) 3) {u : Int32} {f : Nat} {k11 : Int32 → Int32 → Option (Int32)} {σ : qMem} {x1 : Int32} {x2 : Int32} {x3 : Int32} {x5 : Int32} {s0 : Int32} (hT : qTg G X 0 0 qKS qRF σ (some (.int u))) (hk11 : ∀ (x4 : Int32) (x5 : Int32), k11 x4 x5 = some u → qV G X 0 0 qKS qRF σ 11 [some (.ref 104), some (.int x1), some (.int x2), some (.int x3), some (.int x4), some (.int x5), none] []) (h : p_M_wantsIn_b62 f   k11 σ x1 x2 x3 x5 s0 = some u) : qV G X 0 0 qKS qRF σ 62 [some (.ref 104), some (.int x1), some (.int x2), some (.int x3), none, some (.int x5), none] [(.int s0)] := by
  unfold p_M_wantsIn_b62 at h
  refine q_iconst hX d_M_wantsIn_62 ic_0 ?_
  exact q_mask [true, true, true, true, false, true, false] rfl (t_M_wantsIn_b63 hX hT hk11 h)
set_option maxHeartbeats 4000000 in
theorem t_M_wantsIn_lb11 {G : qG} {X : qX} (hX : qOk G X "ChantryRollsModel" prog_14_method_32_code 7 (some .int) 3) {u : Int32} {f : Nat} {σ : qMem} {x1 : Int32} {x2 : Int32} {x3 : Int32} (hT : qTg G X 0 0 qKS qRF σ (some (.int u))) {k11 : Int32 → Int32 → Option (Int32)} (hk11 : ∀ (x4 : Int32) (x5 : Int32), k11 x4 x5 = some u → qV G X 0 0 qKS qRF σ 11 [some (.ref 104), some (.int x1), some (.int x2), some (.int x3), some (.int x4), some (.int x5), none] []) {x4 : Int32} {x5 : Int32} (h : p_M_wantsIn_l11 f  σ x1 x2 x3  k11 x4 x5 = some u) : qV G X 0 0 qKS qRF σ 11 [some (.ref 104), some (.int x1), some (.int x2), some (.int x3), some (.int x4), some (.int x5), none] [] := by
  unfold p_M_wantsIn_l11 at h
  refine q_iload hX d_M_wantsIn_11 rfl ?_
  refine q_aload_n hX d_M_wantsIn_13 rfl ?_
  refine q_iload_n hX d_M_wantsIn_14 rfl ?_
  refine q_bipush hX d_M_wantsIn_15 bp_6 ?_
  obtain ⟨u3, hc4, h⟩ := qbind h
  refine q_cVr hX (c_M_of X.l G hX.ad f _ _ _ hc4) cw_M_270 rfl kc_104 rfl (Nat.le_of_ble_eq_true rfl) rfl (Nat.le_of_ble_eq_true rfl) d_M_wantsIn_17 ?_
  refine q_icmp_gt hX d_M_wantsIn_20 rfl h (fun _ h => ?_) (fun _ h => ?_)
  · refine q_iload hX d_M_wantsIn_80 rfl ?_
    exact q_iretR hX h hT d_M_wantsIn_82
  · refine q_iload hX d_M_wantsIn_23 rfl ?_
    refine q_iload_n hX d_M_wantsIn_25 rfl ?_
    refine q_icmp_gt hX d_M_wantsIn_26 rfl h (fun _ h => ?_) (fun _ h => ?_)
    · refine q_iload hX d_M_wantsIn_80 rfl ?_
      exact q_iretR hX h hT d_M_wantsIn_82
    · refine q_aload_n hX d_M_wantsIn_29 rfl ?_
      refine q_iload hX d_M_wantsIn_30 rfl ?_
      obtain ⟨u5, hc6, h⟩ := qbind h
      refine q_cVr hX (c_M_movedFrom X.l G hX.ad f _ _ hc6) cw_M_283 rfl kc_104 rfl (Nat.le_of_ble_eq_true rfl) rfl (Nat.le_of_ble_eq_true rfl) d_M_wantsIn_32 ?_
      refine q_istore hX d_M_wantsIn_35 (by decide) rfl rfl ?_
      refine q_iload hX d_M_wantsIn_37 rfl ?_
      refine q_iload hX d_M_wantsIn_39 rfl ?_
      refine q_ldc hX w_1335 d_M_wantsIn_41 ?_
      refine q_icmp_eq hX d_M_wantsIn_43 rfl h (fun _ h => ?_) (fun _ h => ?_)
      · exact q_mask [true, true, true, true, false, true, false] rfl (t_M_wantsIn_b62 hX hT hk11 h)
      · refine q_iload hX d_M_wantsIn_46 rfl ?_
        refine q_iload_n hX d_M_wantsIn_48 rfl ?_
        refine q_icmp_lt hX d_M_wantsIn_49 rfl h (fun _ h => ?_) (fun _ h => ?_)
        · exact q_mask [true, true, true, true, false, true, false] rfl (t_M_wantsIn_b62 hX hT hk11 h)
        · refine q_iload hX d_M_wantsIn_52 rfl ?_
          refine q_iload_n hX d_M_wantsIn_54 rfl ?_
          refine q_icmp_gt hX d_M_wantsIn_55 rfl h (fun _ h => ?_) (fun _ h => ?_)
          · exact q_mask [true, true, true, true, false, true, false] rfl (t_M_wantsIn_b62 hX hT hk11 h)
          · refine q_iconst hX d_M_wantsIn_58 ic_1 ?_
            refine q_goto hX d_M_wantsIn_59 rfl ?_
            exact q_mask [true, true, true, true, false, true, false] rfl (t_M_wantsIn_b63 hX hT hk11 h)
theorem t_M_wantsIn_l11 {G : qG} {X : qX} (hX : qOk G X "ChantryRollsModel" prog_14_method_32_code 7 (some .int) 3) {u : Int32} {f : Nat} {σ : qMem} {x1 : Int32} {x2 : Int32} {x3 : Int32} (hT : qTg G X 0 0 qKS qRF σ (some (.int u))) : ∀ (n : Nat) (x4 : Int32) (x5 : Int32), qfix2 (p_M_wantsIn_l11 f  σ x1 x2 x3 ) n x4 x5 = some u → qV G X 0 0 qKS qRF σ 11 [some (.ref 104), some (.int x1), some (.int x2), some (.int x3), some (.int x4), some (.int x5), none] [] :=
  qfix2_ind (fun k hk _ _ h => t_M_wantsIn_lb11 hX   hT  hk h)
set_option maxHeartbeats 4000000 in
theorem c_M_wantsIn (l : Launch) (G : qG) (hA : qAd G) (f : Nat) (σ : qMem) (x1 : Int32) (x2 : Int32) (x3 : Int32) {u : Int32} (h : p_M_wantsIn f σ x1 x2 x3 = some u) : qCt l y_M_wantsIn prog_14_method_32_code 7 (some .int) 3 G qKS qRF σ [(.ref 104), (.int x1), (.int x2), (.int x3)] (some (.int u)) qKS qRF σ 0 0 := by
  refine qCt.of (lv := [some (.ref 104), some (.int x1), some (.int x2), some (.int x3), none, none, none]) (by decide) hA (Nat.le_of_ble_eq_true rfl) rfl ?_
  intro X hl _ _ _ hX hT
  subst hl
  unfold p_M_wantsIn at h
  refine q_iconst hX d_M_wantsIn_0 ic_0 ?_
  refine q_istore hX d_M_wantsIn_1 (by decide) rfl rfl ?_
  refine q_aload_n hX d_M_wantsIn_3 rfl ?_
  refine q_iload_n hX d_M_wantsIn_4 rfl ?_
  refine q_iconst hX d_M_wantsIn_5 ic_5 ?_
  obtain ⟨u7, hc8, h⟩ := qbind h
  refine q_cVr hX (c_M_of X.l G hX.ad f _ _ _ hc8) cw_M_270 rfl kc_104 rfl (Nat.le_of_ble_eq_true rfl) rfl (Nat.le_of_ble_eq_true rfl) d_M_wantsIn_6 ?_
  refine q_istore hX d_M_wantsIn_9 (by decide) rfl rfl ?_
  exact q_mask [true, true, true, true, true, true, false] rfl (t_M_wantsIn_l11 hX hT f _ _ h)
set_option maxHeartbeats 4000000 in
theorem t_M_otherOf_b59 {G : qG} {X : qX} (hX : qOk G X "ChantryRollsModel" prog_14_method_45_code 5 (some .int) 2) {u : Int32} {f : Nat} {k6 : Int32 → Int32 → Option (Int32)} {σ : qMem} {x1 : Int32} {x2 : Int32} {x4 : Int32} (hT : qTg G X 0 0 qKS qRF σ (some (.int u))) (hk6 : ∀ (x3 : Int32) (x4 : Int32), k6 x3 x4 = some u → qV G X 0 0 qKS qRF σ 6 [some (.ref 104), some (.int x1), some (.int x2), some (.int x3), some (.int x4)] []) (h : p_M_otherOf_b59 f   k6 σ x1 x2 x4 = some u) : qV G X 0 0 qKS qRF σ 59 [some (.ref 104), some (.int x1), some (.int x2), none, some (.int x4)] [] := by
  unfold p_M_otherOf_b59 at h
  refine q_aload_n hX d_M_otherOf_59 rfl ?_
  refine q_getR hX fl_M_56 kc_104 (rfl : qRF 104 32 = some 120) d_M_otherOf_60 ?_
  refine q_iload hX d_M_otherOf_63 rfl ?_
  refine q_iald hX kc_120 d_M_otherOf_65 h (fun hi1 h => ?_)
  refine q_iload_n hX d_M_otherOf_66 rfl ?_
  refine q_icmp_ne hX d_M_otherOf_67 rfl h (fun _ h => ?_) (fun _ h => ?_)
  · refine q_aload_n hX d_M_otherOf_80 rfl ?_
    refine q_getR hX fl_M_56 kc_104 (rfl : qRF 104 32 = some 120) d_M_otherOf_81 ?_
    refine q_iload hX d_M_otherOf_84 rfl ?_
    refine q_iald hX kc_120 d_M_otherOf_86 h (fun hi2 h => ?_)
    refine q_istore_n hX d_M_otherOf_87 (by decide) rfl rfl ?_
    refine q_iinc hX d_M_otherOf_88 rfl (ii_1 _) (by decide) rfl rfl ?_
    refine q_goto hX d_M_otherOf_91 rfl ?_
    exact q_mask [true, true, true, true, true] rfl (hk6 _ _ h)
  · refine q_aload_n hX d_M_otherOf_70 rfl ?_
    refine q_getR hX fl_M_59 kc_104 (rfl : qRF 104 33 = some 121) d_M_otherOf_71 ?_
    refine q_iload hX d_M_otherOf_74 rfl ?_
    refine q_iald hX kc_121 d_M_otherOf_76 h (fun hi3 h => ?_)
    refine q_goto hX d_M_otherOf_77 rfl ?_
    refine q_istore_n hX d_M_otherOf_87 (by decide) rfl rfl ?_
    refine q_iinc hX d_M_otherOf_88 rfl (ii_1 _) (by decide) rfl rfl ?_
    refine q_goto hX d_M_otherOf_91 rfl ?_
    exact q_mask [true, true, true, true, true] rfl (hk6 _ _ h)
set_option maxHeartbeats 4000000 in
theorem t_M_otherOf_lb6 {G : qG} {X : qX} (hX : qOk G X "ChantryRollsModel" prog_14_method_45_code 5 (some .int) 2) {u : Int32} {f : Nat} {σ : qMem} {x1 : Int32} {x2 : Int32} (hT : qTg G X 0 0 qKS qRF σ (some (.int u))) {k6 : Int32 → Int32 → Option (Int32)} (hk6 : ∀ (x3 : Int32) (x4 : Int32), k6 x3 x4 = some u → qV G X 0 0 qKS qRF σ 6 [some (.ref 104), some (.int x1), some (.int x2), some (.int x3), some (.int x4)] []) {x3 : Int32} {x4 : Int32} (h : p_M_otherOf_l6 f  σ x1 x2  k6 x3 x4 = some u) : qV G X 0 0 qKS qRF σ 6 [some (.ref 104), some (.int x1), some (.int x2), some (.int x3), some (.int x4)] [] := by
  unfold p_M_otherOf_l6 at h
  refine q_iload hX d_M_otherOf_6 rfl ?_
  refine q_aload_n hX d_M_otherOf_8 rfl ?_
  refine q_getI hX fl_M_318 kc_104 d_M_otherOf_9 ?_
  refine q_icmp_ge hX d_M_otherOf_12 rfl h (fun _ h => ?_) (fun _ h => ?_)
  · refine q_iload_n hX d_M_otherOf_94 rfl ?_
    exact q_iretR hX h hT d_M_otherOf_95
  · refine q_aload_n hX d_M_otherOf_15 rfl ?_
    refine q_iload hX d_M_otherOf_16 rfl ?_
    refine q_iload_n hX d_M_otherOf_18 rfl ?_
    obtain ⟨u4, hc5, h⟩ := qbind h
    refine q_cVr hX (c_M_isIn X.l G hX.ad f _ _ _ hc5) cw_M_321 rfl kc_104 rfl (Nat.le_of_ble_eq_true rfl) rfl (Nat.le_of_ble_eq_true rfl) d_M_otherOf_19 ?_
    refine q_if_eq hX d_M_otherOf_22 rfl h (fun _ h => ?_) (fun _ h => ?_)
    · refine q_iinc hX d_M_otherOf_88 rfl (ii_1 _) (by decide) rfl rfl ?_
      refine q_goto hX d_M_otherOf_91 rfl ?_
      exact q_mask [true, true, true, true, true] rfl (hk6 _ _ h)
    · refine q_aload_n hX d_M_otherOf_25 rfl ?_
      refine q_getR hX fl_M_62 kc_104 (rfl : qRF 104 34 = some 122) d_M_otherOf_26 ?_
      refine q_iload hX d_M_otherOf_29 rfl ?_
      refine q_iald hX kc_122 d_M_otherOf_31 h (fun hi6 h => ?_)
      refine q_iload_n hX d_M_otherOf_32 rfl ?_
      refine q_icmp_gt hX d_M_otherOf_33 rfl h (fun _ h => ?_) (fun _ h => ?_)
      · refine q_iinc hX d_M_otherOf_88 rfl (ii_1 _) (by decide) rfl rfl ?_
        refine q_goto hX d_M_otherOf_91 rfl ?_
        exact q_mask [true, true, true, true, true] rfl (hk6 _ _ h)
      · refine q_aload_n hX d_M_otherOf_36 rfl ?_
        refine q_getR hX fl_M_65 kc_104 (rfl : qRF 104 35 = some 123) d_M_otherOf_37 ?_
        refine q_iload hX d_M_otherOf_40 rfl ?_
        refine q_iald hX kc_123 d_M_otherOf_42 h (fun hi7 h => ?_)
        refine q_ldc hX w_1335 d_M_otherOf_43 ?_
        refine q_icmp_eq hX d_M_otherOf_45 rfl h (fun _ h => ?_) (fun _ h => ?_)
        · exact q_mask [true, true, true, false, true] rfl (t_M_otherOf_b59 hX hT hk6 h)
        · refine q_aload_n hX d_M_otherOf_48 rfl ?_
          refine q_getR hX fl_M_65 kc_104 (rfl : qRF 104 35 = some 123) d_M_otherOf_49 ?_
          refine q_iload hX d_M_otherOf_52 rfl ?_
          refine q_iald hX kc_123 d_M_otherOf_54 h (fun hi8 h => ?_)
          refine q_iload_n hX d_M_otherOf_55 rfl ?_
          refine q_icmp_le hX d_M_otherOf_56 rfl h (fun _ h => ?_) (fun _ h => ?_)
          · refine q_iinc hX d_M_otherOf_88 rfl (ii_1 _) (by decide) rfl rfl ?_
            refine q_goto hX d_M_otherOf_91 rfl ?_
            exact q_mask [true, true, true, true, true] rfl (hk6 _ _ h)
          · exact q_mask [true, true, true, false, true] rfl (t_M_otherOf_b59 hX hT hk6 h)
theorem t_M_otherOf_l6 {G : qG} {X : qX} (hX : qOk G X "ChantryRollsModel" prog_14_method_45_code 5 (some .int) 2) {u : Int32} {f : Nat} {σ : qMem} {x1 : Int32} {x2 : Int32} (hT : qTg G X 0 0 qKS qRF σ (some (.int u))) : ∀ (n : Nat) (x3 : Int32) (x4 : Int32), qfix2 (p_M_otherOf_l6 f  σ x1 x2 ) n x3 x4 = some u → qV G X 0 0 qKS qRF σ 6 [some (.ref 104), some (.int x1), some (.int x2), some (.int x3), some (.int x4)] [] :=
  qfix2_ind (fun k hk _ _ h => t_M_otherOf_lb6 hX   hT  hk h)
set_option maxHeartbeats 4000000 in
theorem c_M_otherOf (l : Launch) (G : qG) (hA : qAd G) (f : Nat) (σ : qMem) (x1 : Int32) (x2 : Int32) {u : Int32} (h : p_M_otherOf f σ x1 x2 = some u) : qCt l y_M_otherOf prog_14_method_45_code 5 (some .int) 2 G qKS qRF σ [(.ref 104), (.int x1), (.int x2)] (some (.int u)) qKS qRF σ 0 0 := by
  refine qCt.of (lv := [some (.ref 104), some (.int x1), some (.int x2), none, none]) (by decide) hA (Nat.le_of_ble_eq_true rfl) rfl ?_
  intro X hl _ _ _ hX hT
  subst hl
  unfold p_M_otherOf at h
  refine q_ldc hX w_1335 d_M_otherOf_0 ?_
  refine q_istore_n hX d_M_otherOf_2 (by decide) rfl rfl ?_
  refine q_iconst hX d_M_otherOf_3 ic_0 ?_
  refine q_istore hX d_M_otherOf_4 (by decide) rfl rfl ?_
  exact q_mask [true, true, true, true, true] rfl (t_M_otherOf_l6 hX hT f _ _ h)
set_option maxHeartbeats 4000000 in
theorem t_M_saidTill_b56 {G : qG} {X : qX} (hX : qOk G X "ChantryRollsModel" prog_14_method_46_code 6 (some .int) 6) {u : Int32 × qMem} {f : Nat} {k9 : Int32 → Int32 → Option (Int32 × qMem)} {σ : qMem} {x1 : Int32} {x2 : Int32} {x3 : Int32} {x4 : Int32} {s0 : Int32} (hT : qTg G X 0 0 qKS qRF u.2 (some (.int u.1))) (hk9 : ∀ (x3 : Int32) (x4 : Int32), k9 x3 x4 = some u → qV G X 0 0 qKS qRF σ 9 [some (.ref 104), some (.int x1), some (.int x2), some (.int x3), some (.int x4), none] []) (h : p_M_saidTill_b56 f   k9 σ x1 x2 x3 x4 s0 = some u) : qV G X 0 0 qKS qRF σ 56 [some (.ref 104), some (.int x1), some (.int x2), some (.int x3), some (.int x4), none] [(.int s0)] := by
  unfold p_M_saidTill_b56 at h
  refine q_istore hX d_M_saidTill_56 (by decide) rfl rfl ?_
  refine q_iload_n hX d_M_saidTill_58 rfl ?_
  refine q_aload_n hX d_M_saidTill_59 rfl ?_
  refine q_getR hX fl_M_40 kc_104 (rfl : qRF 104 25 = some 115) d_M_saidTill_60 ?_
  refine q_iload hX d_M_saidTill_63 rfl ?_
  refine q_zald hX kc_115 d_M_saidTill_65 h (fun hi1 h => ?_)
  refine q_if_eq hX d_M_saidTill_66 rfl h (fun _ h => ?_) (fun _ h => ?_)
  · refine q_iconst hX d_M_saidTill_89 ic_0 ?_
    refine q_iadd hX d_M_saidTill_90 ?_
    refine q_istore_n hX d_M_saidTill_91 (by decide) rfl rfl ?_
    refine q_iinc hX d_M_saidTill_92 rfl (ii_1 _) (by decide) rfl rfl ?_
    refine q_goto hX d_M_saidTill_95 rfl ?_
    exact q_mask [true, true, true, true, true, false] rfl (hk9 _ _ h)
  · refine q_aload_n hX d_M_saidTill_69 rfl ?_
    refine q_getR hX fl_M_34 kc_104 (rfl : qRF 104 23 = some 113) d_M_saidTill_70 ?_
    refine q_iload hX d_M_saidTill_73 rfl ?_
    refine q_iald hX kc_113 d_M_saidTill_75 h (fun hi2 h => ?_)
    refine q_iload_n hX d_M_saidTill_76 rfl ?_
    refine q_icmp_gt hX d_M_saidTill_77 rfl h (fun _ h => ?_) (fun _ h => ?_)
    · refine q_iconst hX d_M_saidTill_89 ic_0 ?_
      refine q_iadd hX d_M_saidTill_90 ?_
      refine q_istore_n hX d_M_saidTill_91 (by decide) rfl rfl ?_
      refine q_iinc hX d_M_saidTill_92 rfl (ii_1 _) (by decide) rfl rfl ?_
      refine q_goto hX d_M_saidTill_95 rfl ?_
      exact q_mask [true, true, true, true, true, false] rfl (hk9 _ _ h)
    · refine q_iload hX d_M_saidTill_80 rfl ?_
      refine q_if_eq hX d_M_saidTill_82 rfl h (fun _ h => ?_) (fun _ h => ?_)
      · refine q_iconst hX d_M_saidTill_89 ic_0 ?_
        refine q_iadd hX d_M_saidTill_90 ?_
        refine q_istore_n hX d_M_saidTill_91 (by decide) rfl rfl ?_
        refine q_iinc hX d_M_saidTill_92 rfl (ii_1 _) (by decide) rfl rfl ?_
        refine q_goto hX d_M_saidTill_95 rfl ?_
        exact q_mask [true, true, true, true, true, false] rfl (hk9 _ _ h)
      · refine q_iconst hX d_M_saidTill_85 ic_1 ?_
        refine q_goto hX d_M_saidTill_86 rfl ?_
        refine q_iadd hX d_M_saidTill_90 ?_
        refine q_istore_n hX d_M_saidTill_91 (by decide) rfl rfl ?_
        refine q_iinc hX d_M_saidTill_92 rfl (ii_1 _) (by decide) rfl rfl ?_
        refine q_goto hX d_M_saidTill_95 rfl ?_
        exact q_mask [true, true, true, true, true, false] rfl (hk9 _ _ h)
set_option maxHeartbeats 4000000 in
theorem t_M_saidTill_lb9 {G : qG} {X : qX} (hX : qOk G X "ChantryRollsModel" prog_14_method_46_code 6 (some .int) 6) {u : Int32 × qMem} {f : Nat} {σ : qMem} {x1 : Int32} {x2 : Int32} (hT : qTg G X 0 0 qKS qRF u.2 (some (.int u.1))) {k9 : Int32 → Int32 → Option (Int32 × qMem)} (hk9 : ∀ (x3 : Int32) (x4 : Int32), k9 x3 x4 = some u → qV G X 0 0 qKS qRF σ 9 [some (.ref 104), some (.int x1), some (.int x2), some (.int x3), some (.int x4), none] []) {x3 : Int32} {x4 : Int32} (h : p_M_saidTill_l9 f  σ x1 x2  k9 x3 x4 = some u) : qV G X 0 0 qKS qRF σ 9 [some (.ref 104), some (.int x1), some (.int x2), some (.int x3), some (.int x4), none] [] := by
  unfold p_M_saidTill_l9 at h
  refine q_iload hX d_M_saidTill_9 rfl ?_
  refine q_aload_n hX d_M_saidTill_11 rfl ?_
  refine q_getI hX fl_M_296 kc_104 d_M_saidTill_12 ?_
  refine q_icmp_ge hX d_M_saidTill_15 rfl h (fun _ h => ?_) (fun _ h => ?_)
  · refine q_iload_n hX d_M_saidTill_98 rfl ?_
    exact q_iretW hX h hT d_M_saidTill_99
  · refine q_aload_n hX d_M_saidTill_18 rfl ?_
    refine q_getR hX fl_M_31 kc_104 (rfl : qRF 104 22 = some 112) d_M_saidTill_19 ?_
    refine q_iload hX d_M_saidTill_22 rfl ?_
    refine q_iald hX kc_112 d_M_saidTill_24 h (fun hi3 h => ?_)
    refine q_iload_n hX d_M_saidTill_25 rfl ?_
    refine q_icmp_eq hX d_M_saidTill_26 rfl h (fun _ h => ?_) (fun _ h => ?_)
    · refine q_iconst hX d_M_saidTill_51 ic_1 ?_
      refine q_goto hX d_M_saidTill_52 rfl ?_
      exact q_mask [true, true, true, true, true, false] rfl (t_M_saidTill_b56 hX hT hk9 h)
    · refine q_aload_n hX d_M_saidTill_29 rfl ?_
      refine q_iload_n hX d_M_saidTill_30 rfl ?_
      refine q_aload_n hX d_M_saidTill_31 rfl ?_
      refine q_getR hX fl_M_34 kc_104 (rfl : qRF 104 23 = some 113) d_M_saidTill_32 ?_
      refine q_iload hX d_M_saidTill_35 rfl ?_
      refine q_iald hX kc_113 d_M_saidTill_37 h (fun hi4 h => ?_)
      obtain ⟨u5, hc6, h⟩ := qbind h
      refine q_cVr hX (c_M_otherOf X.l G hX.ad f _ _ _ hc6) cw_M_325 rfl kc_104 rfl (Nat.le_of_ble_eq_true rfl) rfl (Nat.le_of_ble_eq_true rfl) d_M_saidTill_38 ?_
      refine q_aload_n hX d_M_saidTill_41 rfl ?_
      refine q_getR hX fl_M_31 kc_104 (rfl : qRF 104 22 = some 112) d_M_saidTill_42 ?_
      refine q_iload hX d_M_saidTill_45 rfl ?_
      refine q_iald hX kc_112 d_M_saidTill_47 h (fun hi7 h => ?_)
      refine q_icmp_ne hX d_M_saidTill_48 rfl h (fun _ h => ?_) (fun _ h => ?_)
      · refine q_iconst hX d_M_saidTill_55 ic_0 ?_
        exact q_mask [true, true, true, true, true, false] rfl (t_M_saidTill_b56 hX hT hk9 h)
      · refine q_iconst hX d_M_saidTill_51 ic_1 ?_
        refine q_goto hX d_M_saidTill_52 rfl ?_
        exact q_mask [true, true, true, true, true, false] rfl (t_M_saidTill_b56 hX hT hk9 h)
theorem t_M_saidTill_l9 {G : qG} {X : qX} (hX : qOk G X "ChantryRollsModel" prog_14_method_46_code 6 (some .int) 6) {u : Int32 × qMem} {f : Nat} {σ : qMem} {x1 : Int32} {x2 : Int32} (hT : qTg G X 0 0 qKS qRF u.2 (some (.int u.1))) : ∀ (n : Nat) (x3 : Int32) (x4 : Int32), qfix2 (p_M_saidTill_l9 f  σ x1 x2 ) n x3 x4 = some u → qV G X 0 0 qKS qRF σ 9 [some (.ref 104), some (.int x1), some (.int x2), some (.int x3), some (.int x4), none] [] :=
  qfix2_ind (fun k hk _ _ h => t_M_saidTill_lb9 hX   hT  hk h)
set_option maxHeartbeats 4000000 in
theorem c_M_saidTill (l : Launch) (G : qG) (hA : qAd G) (f : Nat) (σ : qMem) (x1 : Int32) (x2 : Int32) {u : Int32 × qMem} (h : p_M_saidTill f σ x1 x2 = some u) : qCt l y_M_saidTill prog_14_method_46_code 6 (some .int) 6 G qKS qRF σ [(.ref 104), (.int x1), (.int x2)] (some (.int u.1)) qKS qRF u.2 0 0 := by
  refine qCt.of (lv := [some (.ref 104), some (.int x1), some (.int x2), none, none, none]) (by decide) hA (Nat.le_of_ble_eq_true rfl) rfl ?_
  intro X hl _ _ _ hX hT
  subst hl
  unfold p_M_saidTill at h
  refine q_aload_n hX d_M_saidTill_0 rfl ?_
  obtain ⟨u8, hc9, h⟩ := qbind h
  refine q_cVv hX (c_M_judge X.l G hX.ad f _  hc9) cw_M_315 rfl kc_104 rfl (Nat.le_of_ble_eq_true rfl) rfl (Nat.le_of_ble_eq_true rfl) d_M_saidTill_1 ?_
  refine q_iconst hX d_M_saidTill_4 ic_0 ?_
  refine q_istore_n hX d_M_saidTill_5 (by decide) rfl rfl ?_
  refine q_iconst hX d_M_saidTill_6 ic_0 ?_
  refine q_istore hX d_M_saidTill_7 (by decide) rfl rfl ?_
  exact q_mask [true, true, true, true, true, false] rfl (t_M_saidTill_l9 hX hT f _ _ h)
set_option maxHeartbeats 4000000 in
theorem c_M_owedTill (l : Launch) (G : qG) (hA : qAd G) (f : Nat) (σ : qMem) (x1 : Int32) (x2 : Int32) {u : Int32 × qMem} (h : p_M_owedTill f σ x1 x2 = some u) : qCt l y_M_owedTill prog_14_method_47_code 4 (some .int) 7 G qKS qRF σ [(.ref 104), (.int x1), (.int x2)] (some (.int u.1)) qKS qRF u.2 0 0 := by
  refine qCt.of (lv := [some (.ref 104), some (.int x1), some (.int x2), none]) (by decide) hA (Nat.le_of_ble_eq_true rfl) rfl ?_
  intro X hl _ _ _ hX hT
  subst hl
  unfold p_M_owedTill at h
  refine q_aload_n hX d_M_owedTill_0 rfl ?_
  refine q_iload_n hX d_M_owedTill_1 rfl ?_
  refine q_iconst hX d_M_owedTill_2 ic_0 ?_
  refine q_iload_n hX d_M_owedTill_3 rfl ?_
  obtain ⟨u1, hc2, h⟩ := qbind h
  refine q_cVr hX (c_M_wantsIn X.l G hX.ad f _ _ _ _ hc2) cw_M_328 rfl kc_104 rfl (Nat.le_of_ble_eq_true rfl) rfl (Nat.le_of_ble_eq_true rfl) d_M_owedTill_4 ?_
  refine q_aload_n hX d_M_owedTill_7 rfl ?_
  refine q_iload_n hX d_M_owedTill_8 rfl ?_
  refine q_iload_n hX d_M_owedTill_9 rfl ?_
  obtain ⟨u3, hc4, h⟩ := qbind h
  refine q_cVr hX (c_M_saidTill X.l G hX.ad f _ _ _ hc4) cw_M_331 rfl kc_104 rfl (Nat.le_of_ble_eq_true rfl) rfl (Nat.le_of_ble_eq_true rfl) d_M_owedTill_10 ?_
  refine q_isub hX d_M_owedTill_13 ?_
  refine q_istore_n hX d_M_owedTill_14 (by decide) rfl rfl ?_
  refine q_iload_n hX d_M_owedTill_15 rfl ?_
  refine q_if_ge hX d_M_owedTill_16 rfl h (fun _ h => ?_) (fun _ h => ?_)
  · refine q_iload_n hX d_M_owedTill_23 rfl ?_
    exact q_iretW hX h hT d_M_owedTill_24
  · refine q_iconst hX d_M_owedTill_19 ic_0 ?_
    refine q_goto hX d_M_owedTill_20 rfl ?_
    exact q_iretW hX h hT d_M_owedTill_24
set_option maxHeartbeats 4000000 in
theorem c_M_count (l : Launch) (G : qG) (hA : qAd G) (f : Nat) (σ : qMem) (x1 : Int32) (x2 : Int32) (x3 : Int32) {u : Int32 × qMem} (h : p_M_count f σ x1 x2 x3 = some u) : qCt l y_M_count prog_14_method_48_code 4 (some .int) 8 G qKS qRF σ [(.ref 104), (.int x1), (.int x2), (.int x3)] (some (.int u.1)) qKS qRF u.2 0 0 := by
  refine qCt.of (lv := [some (.ref 104), some (.int x1), some (.int x2), some (.int x3)]) (by decide) hA (Nat.le_of_ble_eq_true rfl) rfl ?_
  intro X hl _ _ _ hX hT
  subst hl
  unfold p_M_count at h
  refine q_aload_n hX d_M_count_0 rfl ?_
  refine q_iconst hX d_M_count_1 ic_0 ?_
  refine q_putI hX fl_M_137 kc_104 rfl qKS_len d_M_count_2 ?_
  refine q_aload_n hX d_M_count_5 rfl ?_
  refine q_iload_n hX d_M_count_6 rfl ?_
  obtain ⟨u1, hc2, h⟩ := qbind h
  refine q_cVr hX (c_M_isPromise X.l G hX.ad f _ _ hc2) cw_M_265 rfl kc_104 rfl (Nat.le_of_ble_eq_true rfl) rfl (Nat.le_of_ble_eq_true rfl) d_M_count_7 ?_
  refine q_if_eq hX d_M_count_10 rfl h (fun _ h => ?_) (fun _ h => ?_)
  · refine q_ldc hX w_1298 d_M_count_32 ?_
    exact q_iretW hX h hT d_M_count_34
  · refine q_iload_n hX d_M_count_13 rfl ?_
    obtain ⟨u3, hc4, h⟩ := qbind h
    refine q_cSr hX (c_M_isDay X.l G hX.ad f _ _ hc4) cw_M_274 rfl (Nat.le_of_ble_eq_true rfl) rfl (Nat.le_of_ble_eq_true rfl) d_M_count_14 ?_
    refine q_if_eq hX d_M_count_17 rfl h (fun _ h => ?_) (fun _ h => ?_)
    · refine q_ldc hX w_1298 d_M_count_32 ?_
      exact q_iretW hX h hT d_M_count_34
    · refine q_iload_n hX d_M_count_20 rfl ?_
      refine q_i2l hX d_M_count_21 ?_
      refine q_lconst hX d_M_count_22 lc_0 ?_
      refine q_ldc2 hX w_1297 d_M_count_23 ?_
      obtain ⟨u5, hc6, h⟩ := qbind h
      refine q_cSr hX (c_M_in X.l G hX.ad f _ _ _ _ hc6) cw_M_147 rfl (Nat.le_of_ble_eq_true rfl) rfl (Nat.le_of_ble_eq_true rfl) d_M_count_26 ?_
      refine q_if_ne hX d_M_count_29 rfl h (fun _ h => ?_) (fun _ h => ?_)
      · refine q_iload_n hX d_M_count_35 rfl ?_
        refine q_if_ne hX d_M_count_36 rfl h (fun _ h => ?_) (fun _ h => ?_)
        · refine q_iload_n hX d_M_count_49 rfl ?_
          refine q_iconst hX d_M_count_50 ic_1 ?_
          refine q_icmp_ne hX d_M_count_51 rfl h (fun _ h => ?_) (fun _ h => ?_)
          · refine q_aload_n hX d_M_count_63 rfl ?_
            refine q_iload_n hX d_M_count_64 rfl ?_
            refine q_iload_n hX d_M_count_65 rfl ?_
            obtain ⟨u7, hc8, h⟩ := qbind h
            refine q_cVr hX (c_M_owedTill X.l G hX.ad f _ _ _ hc8) cw_M_334 rfl kc_104 rfl (Nat.le_of_ble_eq_true rfl) rfl (Nat.le_of_ble_eq_true rfl) d_M_count_66 ?_
            exact q_iretW hX h hT d_M_count_69
          · refine q_aload_n hX d_M_count_54 rfl ?_
            refine q_iload_n hX d_M_count_55 rfl ?_
            refine q_iload_n hX d_M_count_56 rfl ?_
            obtain ⟨u9, hc10, h⟩ := qbind h
            refine q_cVr hX (c_M_saidTill X.l G hX.ad f _ _ _ hc10) cw_M_331 rfl kc_104 rfl (Nat.le_of_ble_eq_true rfl) rfl (Nat.le_of_ble_eq_true rfl) d_M_count_57 ?_
            refine q_goto hX d_M_count_60 rfl ?_
            exact q_iretW hX h hT d_M_count_69
        · refine q_aload_n hX d_M_count_39 rfl ?_
          refine q_iload_n hX d_M_count_40 rfl ?_
          refine q_iconst hX d_M_count_41 ic_0 ?_
          refine q_iload_n hX d_M_count_42 rfl ?_
          obtain ⟨u11, hc12, h⟩ := qbind h
          refine q_cVr hX (c_M_wantsIn X.l G hX.ad f _ _ _ _ hc12) cw_M_328 rfl kc_104 rfl (Nat.le_of_ble_eq_true rfl) rfl (Nat.le_of_ble_eq_true rfl) d_M_count_43 ?_
          refine q_goto hX d_M_count_46 rfl ?_
          exact q_iretW hX h hT d_M_count_69
      · refine q_ldc hX w_1298 d_M_count_32 ?_
        exact q_iretW hX h hT d_M_count_34
set_option maxHeartbeats 4000000 in
theorem c_M_isHouse (l : Launch) (G : qG) (hA : qAd G) (f : Nat) (σ : qMem) (x0 : Int32) {u : Int32} (h : p_M_isHouse f σ x0 = some u) : qCt l y_M_isHouse prog_14_method_49_code 1 (some .boolean) 2 G qKS qRF σ [(.int x0)] (some (.int u)) qKS qRF σ 0 0 := by
  refine qCt.of (lv := [some (.int x0)]) (by decide) hA (Nat.le_of_ble_eq_true rfl) rfl ?_
  intro X hl _ _ _ hX hT
  subst hl
  unfold p_M_isHouse at h
  refine q_iload_n hX d_M_isHouse_0 rfl ?_
  refine q_i2l hX d_M_isHouse_1 ?_
  refine q_lconst hX d_M_isHouse_2 lc_0 ?_
  refine q_ldc2 hX w_1509 d_M_isHouse_3 ?_
  obtain ⟨u1, hc2, h⟩ := qbind h
  refine q_cSr hX (c_M_in X.l G hX.ad f _ _ _ _ hc2) cw_M_147 rfl (Nat.le_of_ble_eq_true rfl) rfl (Nat.le_of_ble_eq_true rfl) d_M_isHouse_6 ?_
  exact q_zretR hX rfl h hT d_M_isHouse_9
set_option maxHeartbeats 4000000 in
theorem t_M_house_b87 {G : qG} {X : qX} (hX : qOk G X "ChantryRollsModel" prog_14_method_51_code 5 (some .int) 3) {u : Int32 × qMem} {f : Nat} {σ : qMem} {x1 : Int32} {x2 : Int32} {x3 : Int32} {x4 : Int32} {s1 : Int32} {s2 : Int32} (hT : qTg G X 0 0 qKS qRF u.2 (some (.int u.1))) (h : p_M_house_b87 f    σ x1 x2 x3 x4 s1 s2 = some u) : qV G X 0 0 qKS qRF σ 87 [some (.ref 104), some (.int x1), some (.int x2), some (.int x3), some (.int x4)] [(.int s2), (.int s1), (.ref 124)] := by
  unfold p_M_house_b87 at h
  refine q_iast hX kc_124 qKS_len d_M_house_87 h (fun hi1 h => ?_)
  refine q_aload_n hX d_M_house_88 rfl ?_
  refine q_getR hX fl_M_71 kc_104 (rfl : qRF 104 37 = some 125) d_M_house_89 ?_
  refine q_iload_n hX d_M_house_92 rfl ?_
  refine q_iload_n hX d_M_house_93 rfl ?_
  refine q_iconst hX d_M_house_94 ic_1 ?_
  refine q_icmp_ne hX d_M_house_95 rfl h (fun _ h => ?_) (fun _ h => ?_)
  · refine q_aload_n hX d_M_house_102 rfl ?_
    refine q_getR hX fl_M_71 kc_104 (rfl : qRF 104 37 = some 125) d_M_house_103 ?_
    refine q_iload_n hX d_M_house_106 rfl ?_
    refine q_iald hX kc_125 d_M_house_107 h (fun hi2 h => ?_)
    refine q_iast hX kc_125 qKS_len d_M_house_108 h (fun hi3 h => ?_)
    refine q_iload hX d_M_house_109 rfl ?_
    exact q_iretW hX h hT d_M_house_111
  · refine q_iload_n hX d_M_house_98 rfl ?_
    refine q_goto hX d_M_house_99 rfl ?_
    refine q_iast hX kc_125 qKS_len d_M_house_108 h (fun hi4 h => ?_)
    refine q_iload hX d_M_house_109 rfl ?_
    exact q_iretW hX h hT d_M_house_111
set_option maxHeartbeats 4000000 in
theorem t_M_house_b66 {G : qG} {X : qX} (hX : qOk G X "ChantryRollsModel" prog_14_method_51_code 5 (some .int) 3) {u : Int32 × qMem} {f : Nat} {σ : qMem} {x1 : Int32} {x2 : Int32} {x3 : Int32} {s0 : Int32} (hT : qTg G X 0 0 qKS qRF u.2 (some (.int u.1))) (h : p_M_house_b66 f    σ x1 x2 x3 s0 = some u) : qV G X 0 0 qKS qRF σ 66 [some (.ref 104), some (.int x1), some (.int x2), some (.int x3), none] [(.int s0)] := by
  unfold p_M_house_b66 at h
  refine q_istore hX d_M_house_66 (by decide) rfl rfl ?_
  refine q_aload_n hX d_M_house_68 rfl ?_
  refine q_getR hX fl_M_68 kc_104 (rfl : qRF 104 36 = some 124) d_M_house_69 ?_
  refine q_iload_n hX d_M_house_72 rfl ?_
  refine q_iload_n hX d_M_house_73 rfl ?_
  refine q_if_ne hX d_M_house_74 rfl h (fun _ h => ?_) (fun _ h => ?_)
  · refine q_aload_n hX d_M_house_81 rfl ?_
    refine q_getR hX fl_M_68 kc_104 (rfl : qRF 104 36 = some 124) d_M_house_82 ?_
    refine q_iload_n hX d_M_house_85 rfl ?_
    refine q_iald hX kc_124 d_M_house_86 h (fun hi5 h => ?_)
    exact q_mask [true, true, true, true, true] rfl (t_M_house_b87 hX hT h)
  · refine q_iload_n hX d_M_house_77 rfl ?_
    refine q_goto hX d_M_house_78 rfl ?_
    exact q_mask [true, true, true, true, true] rfl (t_M_house_b87 hX hT h)
set_option maxHeartbeats 4000000 in
theorem t_M_house_b38 {G : qG} {X : qX} (hX : qOk G X "ChantryRollsModel" prog_14_method_51_code 5 (some .int) 3) {u : Int32 × qMem} {f : Nat} {σ : qMem} {x1 : Int32} {x2 : Int32} {x3 : Int32} {s0 : Int64} {s1 : Int64} {s2 : Int64} (hT : qTg G X 0 0 qKS qRF u.2 (some (.int u.1))) (h : p_M_house_b38 f    σ x1 x2 x3 s0 s1 s2 = some u) : qV G X 0 0 qKS qRF σ 38 [some (.ref 104), some (.int x1), some (.int x2), some (.int x3), none] [(.long s2), (.long s1), (.long s0)] := by
  unfold p_M_house_b38 at h
  obtain ⟨u6, hc7, h⟩ := qbind h
  refine q_cSr hX (c_M_in X.l G hX.ad f _ _ _ _ hc7) cw_M_147 rfl (Nat.le_of_ble_eq_true rfl) rfl (Nat.le_of_ble_eq_true rfl) d_M_house_38 ?_
  refine q_if_ne hX d_M_house_41 rfl h (fun _ h => ?_) (fun _ h => ?_)
  · refine q_iload_n hX d_M_house_47 rfl ?_
    refine q_if_ne hX d_M_house_48 rfl h (fun _ h => ?_) (fun _ h => ?_)
    · refine q_aload_n hX d_M_house_60 rfl ?_
      refine q_getR hX fl_M_71 kc_104 (rfl : qRF 104 37 = some 125) d_M_house_61 ?_
      refine q_iload_n hX d_M_house_64 rfl ?_
      refine q_iald hX kc_125 d_M_house_65 h (fun hi8 h => ?_)
      exact q_mask [true, true, true, true, false] rfl (t_M_house_b66 hX hT h)
    · refine q_aload_n hX d_M_house_51 rfl ?_
      refine q_getR hX fl_M_68 kc_104 (rfl : qRF 104 36 = some 124) d_M_house_52 ?_
      refine q_iload_n hX d_M_house_55 rfl ?_
      refine q_iald hX kc_124 d_M_house_56 h (fun hi9 h => ?_)
      refine q_goto hX d_M_house_57 rfl ?_
      exact q_mask [true, true, true, true, false] rfl (t_M_house_b66 hX hT h)
  · refine q_ldc hX w_1298 d_M_house_44 ?_
    exact q_iretW hX h hT d_M_house_46
set_option maxHeartbeats 4000000 in
theorem c_M_house (l : Launch) (G : qG) (hA : qAd G) (f : Nat) (σ : qMem) (x1 : Int32) (x2 : Int32) (x3 : Int32) {u : Int32 × qMem} (h : p_M_house f σ x1 x2 x3 = some u) : qCt l y_M_house prog_14_method_51_code 5 (some .int) 3 G qKS qRF σ [(.ref 104), (.int x1), (.int x2), (.int x3)] (some (.int u.1)) qKS qRF u.2 0 0 := by
  refine qCt.of (lv := [some (.ref 104), some (.int x1), some (.int x2), some (.int x3), none]) (by decide) hA (Nat.le_of_ble_eq_true rfl) rfl ?_
  intro X hl _ _ _ hX hT
  subst hl
  unfold p_M_house at h
  refine q_aload_n hX d_M_house_0 rfl ?_
  refine q_iconst hX d_M_house_1 ic_0 ?_
  refine q_putI hX fl_M_137 kc_104 rfl qKS_len d_M_house_2 ?_
  refine q_iload_n hX d_M_house_5 rfl ?_
  obtain ⟨u10, hc11, h⟩ := qbind h
  refine q_cSr hX (c_M_isHouse X.l G hX.ad f _ _ hc11) cw_M_341 rfl (Nat.le_of_ble_eq_true rfl) rfl (Nat.le_of_ble_eq_true rfl) d_M_house_6 ?_
  refine q_if_eq hX d_M_house_9 rfl h (fun _ h => ?_) (fun _ h => ?_)
  · refine q_ldc hX w_1298 d_M_house_44 ?_
    exact q_iretW hX h hT d_M_house_46
  · refine q_iload_n hX d_M_house_12 rfl ?_
    refine q_i2l hX d_M_house_13 ?_
    refine q_lconst hX d_M_house_14 lc_0 ?_
    refine q_lconst hX d_M_house_15 lc_1 ?_
    obtain ⟨u12, hc13, h⟩ := qbind h
    refine q_cSr hX (c_M_in X.l G hX.ad f _ _ _ _ hc13) cw_M_147 rfl (Nat.le_of_ble_eq_true rfl) rfl (Nat.le_of_ble_eq_true rfl) d_M_house_16 ?_
    refine q_if_eq hX d_M_house_19 rfl h (fun _ h => ?_) (fun _ h => ?_)
    · refine q_ldc hX w_1298 d_M_house_44 ?_
      exact q_iretW hX h hT d_M_house_46
    · refine q_iload_n hX d_M_house_22 rfl ?_
      refine q_i2l hX d_M_house_23 ?_
      refine q_lconst hX d_M_house_24 lc_0 ?_
      refine q_iload_n hX d_M_house_25 rfl ?_
      refine q_if_ne hX d_M_house_26 rfl h (fun _ h => ?_) (fun _ h => ?_)
      · refine q_ldc2 hX w_1511 d_M_house_35 ?_
        exact q_mask [true, true, true, true, false] rfl (t_M_house_b38 hX hT h)
      · refine q_ldc2 hX w_1510 d_M_house_29 ?_
        refine q_goto hX d_M_house_32 rfl ?_
        exact q_mask [true, true, true, true, false] rfl (t_M_house_b38 hX hT h)
