set_option maxHeartbeats 4000000 in
theorem c_M_day (l : Launch) (G : qG) (hA : qAd G) (f : Nat) (σ : qMem) (x1 : Int32) {u : Int32 × qMem} (h : p_M_day f σ x1 = some u) : qCt l y_M_day prog_14_method_73_code 3 (some .int) 3 G qKS qRF σ [(.ref 104), (.int x1)] (some (.int u.1)) qKS qRF u.2 0 0 := by
  refine qCt.of (lv := [some (.ref 104), some (.int x1), none]) (by decide) hA (Nat.le_of_ble_eq_true rfl) rfl ?_
  intro X hl _ _ _ hX hT
  subst hl
  unfold p_M_day at h
  refine q_aload_n hX d_M_day_0 rfl ?_
  refine q_iconst hX d_M_day_1 ic_0 ?_
  refine q_putI hX fl_M_137 kc_104 rfl qKS_len d_M_day_2 ?_
  refine q_iload_n hX d_M_day_5 rfl ?_
  obtain ⟨u1, hc2, h⟩ := qbind h
  refine q_cSr hX (c_M_isDay X.l G hX.ad f _ _ hc2) cw_M_274 rfl (Nat.le_of_ble_eq_true rfl) rfl (Nat.le_of_ble_eq_true rfl) d_M_day_6 ?_
  refine q_if_ne hX d_M_day_9 rfl h (fun _ h => ?_) (fun _ h => ?_)
  · refine q_aload_n hX d_M_day_15 rfl ?_
    refine q_getI hX fl_M_388 kc_104 d_M_day_16 ?_
    refine q_istore_n hX d_M_day_19 (by decide) rfl rfl ?_
    refine q_aload_n hX d_M_day_20 rfl ?_
    refine q_iload_n hX d_M_day_21 rfl ?_
    refine q_putI hX fl_M_388 kc_104 rfl qKS_len d_M_day_22 ?_
    refine q_iload_n hX d_M_day_25 rfl ?_
    exact q_iretW hX h hT d_M_day_26
  · refine q_ldc hX w_1298 d_M_day_12 ?_
    exact q_iretW hX h hT d_M_day_14
set_option maxHeartbeats 4000000 in
theorem c_M_kindOf (l : Launch) (G : qG) (hA : qAd G) (f : Nat) (σ : qMem) (x1 : Int32) {u : Int32} (h : p_M_kindOf f σ x1 = some u) : qCt l y_M_kindOf prog_14_method_74_code 2 (some .int) 5 G qKS qRF σ [(.ref 104), (.int x1)] (some (.int u)) qKS qRF σ 0 0 := by
  refine qCt.of (lv := [some (.ref 104), some (.int x1)]) (by decide) hA (Nat.le_of_ble_eq_true rfl) rfl ?_
  intro X hl _ _ _ hX hT
  subst hl
  unfold p_M_kindOf at h
  refine q_aload_n hX d_M_kindOf_0 rfl ?_
  refine q_iload_n hX d_M_kindOf_1 rfl ?_
  refine q_aload_n hX d_M_kindOf_2 rfl ?_
  refine q_getI hX fl_M_388 kc_104 d_M_kindOf_3 ?_
  obtain ⟨u1, hc2, h⟩ := qbind h
  refine q_cVr hX (c_M_isEnded X.l G hX.ad f _ _ _ hc2) cw_M_308 rfl kc_104 rfl (Nat.le_of_ble_eq_true rfl) rfl (Nat.le_of_ble_eq_true rfl) d_M_kindOf_6 ?_
  refine q_if_eq hX d_M_kindOf_9 rfl h (fun _ h => ?_) (fun _ h => ?_)
  · refine q_aload_n hX d_M_kindOf_16 rfl ?_
    refine q_iload_n hX d_M_kindOf_17 rfl ?_
    refine q_iconst hX d_M_kindOf_18 ic_0 ?_
    obtain ⟨u3, hc4, h⟩ := qbind h
    refine q_cVr hX (c_M_of X.l G hX.ad f _ _ _ hc4) cw_M_270 rfl kc_104 rfl (Nat.le_of_ble_eq_true rfl) rfl (Nat.le_of_ble_eq_true rfl) d_M_kindOf_19 ?_
    refine q_iconst hX d_M_kindOf_22 ic_1 ?_
    refine q_icmp_ne hX d_M_kindOf_23 rfl h (fun _ h => ?_) (fun _ h => ?_)
    · refine q_aload_n hX d_M_kindOf_30 rfl ?_
      refine q_iload_n hX d_M_kindOf_31 rfl ?_
      refine q_aload_n hX d_M_kindOf_32 rfl ?_
      refine q_getI hX fl_M_388 kc_104 d_M_kindOf_33 ?_
      obtain ⟨u5, hc6, h⟩ := qbind h
      refine q_cVr hX (c_M_otherOf X.l G hX.ad f _ _ _ hc6) cw_M_325 rfl kc_104 rfl (Nat.le_of_ble_eq_true rfl) rfl (Nat.le_of_ble_eq_true rfl) d_M_kindOf_36 ?_
      refine q_ldc hX w_1335 d_M_kindOf_39 ?_
      refine q_icmp_eq hX d_M_kindOf_41 rfl h (fun _ h => ?_) (fun _ h => ?_)
      · refine q_iconst hX d_M_kindOf_48 ic_1 ?_
        exact q_iretR hX h hT d_M_kindOf_49
      · refine q_iconst hX d_M_kindOf_44 ic_2 ?_
        refine q_goto hX d_M_kindOf_45 rfl ?_
        exact q_iretR hX h hT d_M_kindOf_49
    · refine q_iconst hX d_M_kindOf_26 ic_3 ?_
      refine q_goto hX d_M_kindOf_27 rfl ?_
      exact q_iretR hX h hT d_M_kindOf_49
  · refine q_iconst hX d_M_kindOf_12 ic_4 ?_
    refine q_goto hX d_M_kindOf_13 rfl ?_
    exact q_iretR hX h hT d_M_kindOf_49
set_option maxHeartbeats 4000000 in
theorem c_M_kind (l : Launch) (G : qG) (hA : qAd G) (f : Nat) (σ : qMem) (x1 : Int32) {u : Int32 × qMem} (h : p_M_kind f σ x1 = some u) : qCt l y_M_kind prog_14_method_76_code 2 (some .int) 6 G qKS qRF σ [(.ref 104), (.int x1)] (some (.int u.1)) qKS qRF u.2 0 0 := by
  refine qCt.of (lv := [some (.ref 104), some (.int x1)]) (by decide) hA (Nat.le_of_ble_eq_true rfl) rfl ?_
  intro X hl _ _ _ hX hT
  subst hl
  unfold p_M_kind at h
  refine q_aload_n hX d_M_kind_0 rfl ?_
  refine q_iconst hX d_M_kind_1 ic_0 ?_
  refine q_putI hX fl_M_137 kc_104 rfl qKS_len d_M_kind_2 ?_
  refine q_aload_n hX d_M_kind_5 rfl ?_
  refine q_iload_n hX d_M_kind_6 rfl ?_
  obtain ⟨u1, hc2, h⟩ := qbind h
  refine q_cVr hX (c_M_isPromise X.l G hX.ad f _ _ hc2) cw_M_265 rfl kc_104 rfl (Nat.le_of_ble_eq_true rfl) rfl (Nat.le_of_ble_eq_true rfl) d_M_kind_7 ?_
  refine q_if_eq hX d_M_kind_10 rfl h (fun _ h => ?_) (fun _ h => ?_)
  · refine q_ldc hX w_1298 d_M_kind_21 ?_
    exact q_iretW hX h hT d_M_kind_23
  · refine q_aload_n hX d_M_kind_13 rfl ?_
    refine q_iload_n hX d_M_kind_14 rfl ?_
    obtain ⟨u3, hc4, h⟩ := qbind h
    refine q_cVr hX (c_M_kindOf X.l G hX.ad f _ _ hc4) cw_M_391 rfl kc_104 rfl (Nat.le_of_ble_eq_true rfl) rfl (Nat.le_of_ble_eq_true rfl) d_M_kind_15 ?_
    refine q_goto hX d_M_kind_18 rfl ?_
    exact q_iretW hX h hT d_M_kind_23
set_option maxHeartbeats 4000000 in
theorem c_M_isOf (l : Launch) (G : qG) (hA : qAd G) (f : Nat) (σ : qMem) (x0 : Int32) (x1 : Int32) {u : Int32} (h : p_M_isOf f σ x0 x1 = some u) : qCt l y_M_isOf prog_14_method_75_code 2 (some .boolean) 1 G qKS qRF σ [(.int x0), (.int x1)] (some (.int u)) qKS qRF σ 0 0 := by
  refine qCt.of (lv := [some (.int x0), some (.int x1)]) (by decide) hA (Nat.le_of_ble_eq_true rfl) rfl ?_
  intro X hl _ _ _ hX hT
  subst hl
  unfold p_M_isOf at h
  refine q_iload_n hX d_M_isOf_0 rfl ?_
  refine q_if_eq hX d_M_isOf_1 rfl h (fun _ h => ?_) (fun _ h => ?_)
  · refine q_iconst hX d_M_isOf_19 ic_1 ?_
    refine q_goto hX d_M_isOf_20 rfl ?_
    exact q_zretR hX zn_1 h hT d_M_isOf_24
  · refine q_iload_n hX d_M_isOf_4 rfl ?_
    refine q_iload_n hX d_M_isOf_5 rfl ?_
    refine q_icmp_eq hX d_M_isOf_6 rfl h (fun _ h => ?_) (fun _ h => ?_)
    · refine q_iconst hX d_M_isOf_19 ic_1 ?_
      refine q_goto hX d_M_isOf_20 rfl ?_
      exact q_zretR hX zn_1 h hT d_M_isOf_24
    · refine q_iload_n hX d_M_isOf_9 rfl ?_
      refine q_iconst hX d_M_isOf_10 ic_1 ?_
      refine q_icmp_ne hX d_M_isOf_11 rfl h (fun _ h => ?_) (fun _ h => ?_)
      · refine q_iconst hX d_M_isOf_23 ic_0 ?_
        exact q_zretR hX zn_0 h hT d_M_isOf_24
      · refine q_iload_n hX d_M_isOf_14 rfl ?_
        refine q_iconst hX d_M_isOf_15 ic_2 ?_
        refine q_icmp_ne hX d_M_isOf_16 rfl h (fun _ h => ?_) (fun _ h => ?_)
        · refine q_iconst hX d_M_isOf_23 ic_0 ?_
          exact q_zretR hX zn_0 h hT d_M_isOf_24
        · refine q_iconst hX d_M_isOf_19 ic_1 ?_
          refine q_goto hX d_M_isOf_20 rfl ?_
          exact q_zretR hX zn_1 h hT d_M_isOf_24
set_option maxHeartbeats 4000000 in
theorem c_M_as (l : Launch) (G : qG) (hA : qAd G) (f : Nat) (σ : qMem) (x1 : Int32) (x2 : Int32) {u : Int32 × qMem} (h : p_M_as f σ x1 x2 = some u) : qCt l y_M_as prog_14_method_77_code 3 (some .int) 6 G qKS qRF σ [(.ref 104), (.int x1), (.int x2)] (some (.int u.1)) qKS qRF u.2 0 0 := by
  refine qCt.of (lv := [some (.ref 104), some (.int x1), some (.int x2)]) (by decide) hA (Nat.le_of_ble_eq_true rfl) rfl ?_
  intro X hl _ _ _ hX hT
  subst hl
  unfold p_M_as at h
  refine q_aload_n hX d_M_as_0 rfl ?_
  refine q_iconst hX d_M_as_1 ic_0 ?_
  refine q_putI hX fl_M_137 kc_104 rfl qKS_len d_M_as_2 ?_
  refine q_aload_n hX d_M_as_5 rfl ?_
  refine q_iload_n hX d_M_as_6 rfl ?_
  obtain ⟨u1, hc2, h⟩ := qbind h
  refine q_cVr hX (c_M_isPromise X.l G hX.ad f _ _ hc2) cw_M_265 rfl kc_104 rfl (Nat.le_of_ble_eq_true rfl) rfl (Nat.le_of_ble_eq_true rfl) d_M_as_7 ?_
  refine q_if_eq hX d_M_as_10 rfl h (fun _ h => ?_) (fun _ h => ?_)
  · refine q_ldc hX w_1298 d_M_as_25 ?_
    exact q_iretW hX h hT d_M_as_27
  · refine q_iload_n hX d_M_as_13 rfl ?_
    refine q_i2l hX d_M_as_14 ?_
    refine q_lconst hX d_M_as_15 lc_0 ?_
    refine q_ldc2 hX w_1427 d_M_as_16 ?_
    obtain ⟨u3, hc4, h⟩ := qbind h
    refine q_cSr hX (c_M_in X.l G hX.ad f _ _ _ _ hc4) cw_M_147 rfl (Nat.le_of_ble_eq_true rfl) rfl (Nat.le_of_ble_eq_true rfl) d_M_as_19 ?_
    refine q_if_ne hX d_M_as_22 rfl h (fun _ h => ?_) (fun _ h => ?_)
    · refine q_aload_n hX d_M_as_28 rfl ?_
      refine q_iconst hX d_M_as_29 ic_0 ?_
      refine q_putI hX fl_M_141 kc_104 rfl qKS_len d_M_as_30 ?_
      refine q_aload_n hX d_M_as_33 rfl ?_
      refine q_iload_n hX d_M_as_34 rfl ?_
      obtain ⟨u5, hc6, h⟩ := qbind h
      refine q_cVr hX (c_M_kindOf X.l G hX.ad f _ _ hc6) cw_M_391 rfl kc_104 rfl (Nat.le_of_ble_eq_true rfl) rfl (Nat.le_of_ble_eq_true rfl) d_M_as_35 ?_
      refine q_iload_n hX d_M_as_38 rfl ?_
      obtain ⟨u7, hc8, h⟩ := qbind h
      refine q_cSr hX (c_M_isOf X.l G hX.ad f _ _ _ hc8) cw_M_394 rfl (Nat.le_of_ble_eq_true rfl) rfl (Nat.le_of_ble_eq_true rfl) d_M_as_39 ?_
      refine q_if_eq hX d_M_as_42 rfl h (fun _ h => ?_) (fun _ h => ?_)
      · refine q_aload_n hX d_M_as_54 rfl ?_
        refine q_iconst hX d_M_as_55 ic_3 ?_
        obtain ⟨u9, hc10, h⟩ := qbind h
        refine q_cVr hX (c_M_finding X.l G hX.ad f _ _ hc10) cw_M_158 rfl kc_104 rfl (Nat.le_of_ble_eq_true rfl) rfl (Nat.le_of_ble_eq_true rfl) d_M_as_56 ?_
        exact q_iretW hX h hT d_M_as_59
      · refine q_aload_n hX d_M_as_45 rfl ?_
        refine q_iload_n hX d_M_as_46 rfl ?_
        refine q_iconst hX d_M_as_47 ic_1 ?_
        obtain ⟨u11, hc12, h⟩ := qbind h
        refine q_cVr hX (c_M_of X.l G hX.ad f _ _ _ hc12) cw_M_270 rfl kc_104 rfl (Nat.le_of_ble_eq_true rfl) rfl (Nat.le_of_ble_eq_true rfl) d_M_as_48 ?_
        refine q_goto hX d_M_as_51 rfl ?_
        exact q_iretW hX h hT d_M_as_59
    · refine q_ldc hX w_1298 d_M_as_25 ?_
      exact q_iretW hX h hT d_M_as_27
set_option maxHeartbeats 4000000 in
theorem c_M_began (l : Launch) (G : qG) (hA : qAd G) (f : Nat) (σ : qMem) (x1 : Int32) {u : qMem} (h : p_M_began f σ x1 = some u) : qCt l y_M_began prog_14_method_78_code 2 none 1 G qKS qRF σ [(.ref 104), (.int x1)] none qKS qRF u 0 0 := by
  refine qCt.of (lv := [some (.ref 104), some (.int x1)]) (by decide) hA (Nat.le_of_ble_eq_true rfl) rfl ?_
  intro X hl _ _ _ hX hT
  subst hl
  unfold p_M_began at h
  refine q_aload_n hX d_M_began_0 rfl ?_
  refine q_getI hX fl_M_397 kc_104 d_M_began_1 ?_
  refine q_bipush hX d_M_began_4 bp_16 ?_
  refine q_icmp_ge hX d_M_began_6 rfl h (fun _ h => ?_) (fun _ h => ?_)
  · exact q_vretW hX h hT d_M_began_29
  · refine q_aload_n hX d_M_began_9 rfl ?_
    refine q_getR hX fl_M_134 kc_104 (rfl : qRF 104 63 = some 146) d_M_began_10 ?_
    refine q_aload_n hX d_M_began_13 rfl ?_
    refine q_getI hX fl_M_397 kc_104 d_M_began_14 ?_
    refine q_iload_n hX d_M_began_17 rfl ?_
    refine q_iast hX kc_146 qKS_len d_M_began_18 h (fun hi1 h => ?_)
    refine q_aload_n hX d_M_began_19 rfl ?_
    refine q_dup hX rfl d_M_began_20 ?_
    refine q_getI hX fl_M_397 kc_104 d_M_began_21 ?_
    refine q_iconst hX d_M_began_24 ic_1 ?_
    refine q_iadd hX d_M_began_25 ?_
    refine q_putI hX fl_M_397 kc_104 rfl qKS_len d_M_began_26 ?_
    exact q_vretW hX h hT d_M_began_29
set_option maxHeartbeats 4000000 in
theorem c_M_obitSize (l : Launch) (G : qG) (hA : qAd G) (f : Nat) (σ : qMem) (x1 : Int32) {u : Int32 × qMem} (h : p_M_obitSize f σ x1 = some u) : qCt l y_M_obitSize prog_14_method_79_code 2 (some .int) 2 G qKS qRF σ [(.ref 104), (.int x1)] (some (.int u.1)) qKS qRF u.2 0 0 := by
  refine qCt.of (lv := [some (.ref 104), some (.int x1)]) (by decide) hA (Nat.le_of_ble_eq_true rfl) rfl ?_
  intro X hl _ _ _ hX hT
  subst hl
  unfold p_M_obitSize at h
  refine q_aload_n hX d_M_obitSize_0 rfl ?_
  refine q_bipush hX d_M_obitSize_1 bp_13 ?_
  obtain ⟨u1, hc2, h⟩ := qbind h
  refine q_cVv hX (c_M_began X.l G hX.ad f _ _ hc2) cw_M_400 rfl kc_104 rfl (Nat.le_of_ble_eq_true rfl) rfl (Nat.le_of_ble_eq_true rfl) d_M_obitSize_3 ?_
  refine q_aload_n hX d_M_obitSize_6 rfl ?_
  refine q_bipush hX d_M_obitSize_7 bp_10 ?_
  obtain ⟨u3, hc4, h⟩ := qbind h
  refine q_cVv hX (c_M_began X.l G hX.ad f _ _ hc4) cw_M_400 rfl kc_104 rfl (Nat.le_of_ble_eq_true rfl) rfl (Nat.le_of_ble_eq_true rfl) d_M_obitSize_9 ?_
  refine q_aload_n hX d_M_obitSize_12 rfl ?_
  refine q_iload_n hX d_M_obitSize_13 rfl ?_
  refine q_iconst hX d_M_obitSize_14 ic_4 ?_
  obtain ⟨u5, hc6, h⟩ := qbind h
  refine q_cVr hX (c_M_of X.l G hX.ad f _ _ _ hc6) cw_M_270 rfl kc_104 rfl (Nat.le_of_ble_eq_true rfl) rfl (Nat.le_of_ble_eq_true rfl) d_M_obitSize_15 ?_
  refine q_aload_n hX d_M_obitSize_18 rfl ?_
  refine q_iload_n hX d_M_obitSize_19 rfl ?_
  refine q_bipush hX d_M_obitSize_20 bp_9 ?_
  obtain ⟨u7, hc8, h⟩ := qbind h
  refine q_cVr hX (c_M_of X.l G hX.ad f _ _ _ hc8) cw_M_270 rfl kc_104 rfl (Nat.le_of_ble_eq_true rfl) rfl (Nat.le_of_ble_eq_true rfl) d_M_obitSize_22 ?_
  refine q_iadd hX d_M_obitSize_25 ?_
  exact q_iretW hX h hT d_M_obitSize_26
set_option maxHeartbeats 4000000 in
theorem t_M_markOf_b69 {G : qG} {X : qX} (hX : qOk G X "ChantryRollsModel" prog_14_method_80_code 4 (some .int) 3) {u : Int32 × qMem} {f : Nat} {σ : qMem} {x1 : Int32} {x2 : Int32} {s0 : Int32} {s1 : Int32} (hT : qTg G X 0 0 qKS qRF u.2 (some (.int u.1))) (h : p_M_markOf_b69 f    σ x1 x2 s0 s1 = some u) : qV G X 0 0 qKS qRF σ 69 [some (.ref 104), some (.int x1), some (.int x2), none] [(.int s1), (.int s0)] := by
  unfold p_M_markOf_b69 at h
  refine q_iadd hX d_M_markOf_69 ?_
  refine q_istore_n hX d_M_markOf_70 (by decide) rfl rfl ?_
  refine q_iload_n hX d_M_markOf_71 rfl ?_
  refine q_iconst hX d_M_markOf_72 ic_2 ?_
  refine q_icmp_ne hX d_M_markOf_73 rfl h (fun _ h => ?_) (fun _ h => ?_)
  · refine q_iload_n hX d_M_markOf_90 rfl ?_
    refine q_iconst hX d_M_markOf_91 ic_3 ?_
    refine q_icmp_ne hX d_M_markOf_92 rfl h (fun _ h => ?_) (fun _ h => ?_)
    · refine q_iload_n hX d_M_markOf_105 rfl ?_
      exact q_iretW hX h hT d_M_markOf_106
    · refine q_iload_n hX d_M_markOf_95 rfl ?_
      refine q_aload_n hX d_M_markOf_96 rfl ?_
      refine q_iload_n hX d_M_markOf_97 rfl ?_
      obtain ⟨u1, hc2, h⟩ := qbind h
      refine q_cVr hX (c_M_obitSize X.l G hX.ad f _ _ hc2) cw_M_403 rfl kc_104 rfl (Nat.le_of_ble_eq_true rfl) rfl (Nat.le_of_ble_eq_true rfl) d_M_markOf_98 ?_
      refine q_iadd hX d_M_markOf_101 ?_
      refine q_goto hX d_M_markOf_102 rfl ?_
      exact q_iretW hX h hT d_M_markOf_106
  · refine q_iload_n hX d_M_markOf_76 rfl ?_
    refine q_aload_n hX d_M_markOf_77 rfl ?_
    refine q_iload_n hX d_M_markOf_78 rfl ?_
    refine q_aload_n hX d_M_markOf_79 rfl ?_
    refine q_getI hX fl_M_388 kc_104 d_M_markOf_80 ?_
    obtain ⟨u3, hc4, h⟩ := qbind h
    refine q_cVr hX (c_M_otherOf X.l G hX.ad f _ _ _ hc4) cw_M_325 rfl kc_104 rfl (Nat.le_of_ble_eq_true rfl) rfl (Nat.le_of_ble_eq_true rfl) d_M_markOf_83 ?_
    refine q_iadd hX d_M_markOf_86 ?_
    refine q_goto hX d_M_markOf_87 rfl ?_
    exact q_iretW hX h hT d_M_markOf_106
set_option maxHeartbeats 4000000 in
theorem t_M_markOf_b36 {G : qG} {X : qX} (hX : qOk G X "ChantryRollsModel" prog_14_method_80_code 4 (some .int) 3) {u : Int32 × qMem} {f : Nat} {σ : qMem} {x1 : Int32} {x2 : Int32} (hT : qTg G X 0 0 qKS qRF u.2 (some (.int u.1))) (h : p_M_markOf_b36 f    σ x1 x2 = some u) : qV G X 0 0 qKS qRF σ 36 [some (.ref 104), some (.int x1), some (.int x2), none] [] := by
  unfold p_M_markOf_b36 at h
  refine q_aload_n hX d_M_markOf_36 rfl ?_
  refine q_bipush hX d_M_markOf_37 bp_20 ?_
  obtain ⟨u5, hc6, h⟩ := qbind h
  refine q_cVv hX (c_M_began X.l G hX.ad f _ _ hc6) cw_M_400 rfl kc_104 rfl (Nat.le_of_ble_eq_true rfl) rfl (Nat.le_of_ble_eq_true rfl) d_M_markOf_39 ?_
  refine q_aload_n hX d_M_markOf_42 rfl ?_
  refine q_iload_n hX d_M_markOf_43 rfl ?_
  refine q_iconst hX d_M_markOf_44 ic_1 ?_
  obtain ⟨u7, hc8, h⟩ := qbind h
  refine q_cVr hX (c_M_of X.l G hX.ad f _ _ _ hc8) cw_M_270 rfl kc_104 rfl (Nat.le_of_ble_eq_true rfl) rfl (Nat.le_of_ble_eq_true rfl) d_M_markOf_45 ?_
  refine q_iload_n hX d_M_markOf_48 rfl ?_
  refine q_iconst hX d_M_markOf_49 ic_1 ?_
  obtain ⟨u9, hc10, h⟩ := qbind h
  refine q_cSr hX (c_M_isOf X.l G hX.ad f _ _ _ hc10) cw_M_394 rfl (Nat.le_of_ble_eq_true rfl) rfl (Nat.le_of_ble_eq_true rfl) d_M_markOf_50 ?_
  refine q_if_eq hX d_M_markOf_53 rfl h (fun _ h => ?_) (fun _ h => ?_)
  · refine q_iconst hX d_M_markOf_68 ic_0 ?_
    exact q_mask [true, true, true, false] rfl (t_M_markOf_b69 hX hT h)
  · refine q_bipush hX d_M_markOf_56 bp_100 ?_
    refine q_aload_n hX d_M_markOf_58 rfl ?_
    refine q_iload_n hX d_M_markOf_59 rfl ?_
    refine q_iconst hX d_M_markOf_60 ic_2 ?_
    obtain ⟨u11, hc12, h⟩ := qbind h
    refine q_cVr hX (c_M_of X.l G hX.ad f _ _ _ hc12) cw_M_270 rfl kc_104 rfl (Nat.le_of_ble_eq_true rfl) rfl (Nat.le_of_ble_eq_true rfl) d_M_markOf_61 ?_
    refine q_imul hX d_M_markOf_64 ?_
    refine q_goto hX d_M_markOf_65 rfl ?_
    exact q_mask [true, true, true, false] rfl (t_M_markOf_b69 hX hT h)
set_option maxHeartbeats 4000000 in
theorem t_M_markOf_b25 {G : qG} {X : qX} (hX : qOk G X "ChantryRollsModel" prog_14_method_80_code 4 (some .int) 3) {u : Int32 × qMem} {f : Nat} {σ : qMem} {x1 : Int32} {x2 : Int32} (hT : qTg G X 0 0 qKS qRF u.2 (some (.int u.1))) (h : p_M_markOf_b25 f    σ x1 x2 = some u) : qV G X 0 0 qKS qRF σ 25 [some (.ref 104), some (.int x1), some (.int x2), none] [] := by
  unfold p_M_markOf_b25 at h
  refine q_iload_n hX d_M_markOf_25 rfl ?_
  refine q_iconst hX d_M_markOf_26 ic_3 ?_
  refine q_icmp_ne hX d_M_markOf_27 rfl h (fun _ h => ?_) (fun _ h => ?_)
  · exact q_mask [true, true, true, false] rfl (t_M_markOf_b36 hX hT h)
  · refine q_aload_n hX d_M_markOf_30 rfl ?_
    refine q_bipush hX d_M_markOf_31 bp_23 ?_
    obtain ⟨u13, hc14, h⟩ := qbind h
    refine q_cVv hX (c_M_began X.l G hX.ad f _ _ hc14) cw_M_400 rfl kc_104 rfl (Nat.le_of_ble_eq_true rfl) rfl (Nat.le_of_ble_eq_true rfl) d_M_markOf_33 ?_
    exact q_mask [true, true, true, false] rfl (t_M_markOf_b36 hX hT h)
set_option maxHeartbeats 4000000 in
theorem t_M_markOf_b11 {G : qG} {X : qX} (hX : qOk G X "ChantryRollsModel" prog_14_method_80_code 4 (some .int) 3) {u : Int32 × qMem} {f : Nat} {σ : qMem} {x1 : Int32} {x2 : Int32} (hT : qTg G X 0 0 qKS qRF u.2 (some (.int u.1))) (h : p_M_markOf_b11 f    σ x1 x2 = some u) : qV G X 0 0 qKS qRF σ 11 [some (.ref 104), some (.int x1), some (.int x2), none] [] := by
  unfold p_M_markOf_b11 at h
  refine q_iload_n hX d_M_markOf_11 rfl ?_
  refine q_iconst hX d_M_markOf_12 ic_1 ?_
  obtain ⟨u15, hc16, h⟩ := qbind h
  refine q_cSr hX (c_M_isOf X.l G hX.ad f _ _ _ hc16) cw_M_394 rfl (Nat.le_of_ble_eq_true rfl) rfl (Nat.le_of_ble_eq_true rfl) d_M_markOf_13 ?_
  refine q_if_eq hX d_M_markOf_16 rfl h (fun _ h => ?_) (fun _ h => ?_)
  · exact q_mask [true, true, true, false] rfl (t_M_markOf_b25 hX hT h)
  · refine q_aload_n hX d_M_markOf_19 rfl ?_
    refine q_bipush hX d_M_markOf_20 bp_21 ?_
    obtain ⟨u17, hc18, h⟩ := qbind h
    refine q_cVv hX (c_M_began X.l G hX.ad f _ _ hc18) cw_M_400 rfl kc_104 rfl (Nat.le_of_ble_eq_true rfl) rfl (Nat.le_of_ble_eq_true rfl) d_M_markOf_22 ?_
    exact q_mask [true, true, true, false] rfl (t_M_markOf_b25 hX hT h)
set_option maxHeartbeats 4000000 in
theorem c_M_markOf (l : Launch) (G : qG) (hA : qAd G) (f : Nat) (σ : qMem) (x1 : Int32) (x2 : Int32) {u : Int32 × qMem} (h : p_M_markOf f σ x1 x2 = some u) : qCt l y_M_markOf prog_14_method_80_code 4 (some .int) 3 G qKS qRF σ [(.ref 104), (.int x1), (.int x2)] (some (.int u.1)) qKS qRF u.2 0 0 := by
  refine qCt.of (lv := [some (.ref 104), some (.int x1), some (.int x2), none]) (by decide) hA (Nat.le_of_ble_eq_true rfl) rfl ?_
  intro X hl _ _ _ hX hT
  subst hl
  unfold p_M_markOf at h
  refine q_iload_n hX d_M_markOf_0 rfl ?_
  refine q_iconst hX d_M_markOf_1 ic_2 ?_
  refine q_icmp_ne hX d_M_markOf_2 rfl h (fun _ h => ?_) (fun _ h => ?_)
  · exact q_mask [true, true, true, false] rfl (t_M_markOf_b11 hX hT h)
  · refine q_aload_n hX d_M_markOf_5 rfl ?_
    refine q_bipush hX d_M_markOf_6 bp_22 ?_
    obtain ⟨u19, hc20, h⟩ := qbind h
    refine q_cVv hX (c_M_began X.l G hX.ad f _ _ hc20) cw_M_400 rfl kc_104 rfl (Nat.le_of_ble_eq_true rfl) rfl (Nat.le_of_ble_eq_true rfl) d_M_markOf_8 ?_
    exact q_mask [true, true, true, false] rfl (t_M_markOf_b11 hX hT h)
set_option maxHeartbeats 4000000 in
theorem t_M_sizeOf_b41 {G : qG} {X : qX} (hX : qOk G X "ChantryRollsModel" prog_14_method_81_code 4 (some .int) 8) {u : Int32 × qMem} {f : Nat} {σ : qMem} {x1 : Int32} {x2 : Int32} (hT : qTg G X 0 0 qKS qRF u.2 (some (.int u.1))) (h : p_M_sizeOf_b41 f    σ x1 x2 = some u) : qV G X 0 0 qKS qRF σ 41 [some (.ref 104), some (.int x1), some (.int x2), none] [] := by
  unfold p_M_sizeOf_b41 at h
  refine q_aload_n hX d_M_sizeOf_41 rfl ?_
  refine q_bipush hX d_M_sizeOf_42 bp_11 ?_
  obtain ⟨u1, hc2, h⟩ := qbind h
  refine q_cVv hX (c_M_began X.l G hX.ad f _ _ hc2) cw_M_400 rfl kc_104 rfl (Nat.le_of_ble_eq_true rfl) rfl (Nat.le_of_ble_eq_true rfl) d_M_sizeOf_44 ?_
  refine q_aload_n hX d_M_sizeOf_47 rfl ?_
  refine q_bipush hX d_M_sizeOf_48 bp_10 ?_
  obtain ⟨u3, hc4, h⟩ := qbind h
  refine q_cVv hX (c_M_began X.l G hX.ad f _ _ hc4) cw_M_400 rfl kc_104 rfl (Nat.le_of_ble_eq_true rfl) rfl (Nat.le_of_ble_eq_true rfl) d_M_sizeOf_50 ?_
  refine q_aload_n hX d_M_sizeOf_53 rfl ?_
  refine q_iload_n hX d_M_sizeOf_54 rfl ?_
  refine q_iconst hX d_M_sizeOf_55 ic_4 ?_
  obtain ⟨u5, hc6, h⟩ := qbind h
  refine q_cVr hX (c_M_of X.l G hX.ad f _ _ _ hc6) cw_M_270 rfl kc_104 rfl (Nat.le_of_ble_eq_true rfl) rfl (Nat.le_of_ble_eq_true rfl) d_M_sizeOf_56 ?_
  refine q_aload_n hX d_M_sizeOf_59 rfl ?_
  refine q_iload_n hX d_M_sizeOf_60 rfl ?_
  refine q_aload_n hX d_M_sizeOf_61 rfl ?_
  refine q_getI hX fl_M_388 kc_104 d_M_sizeOf_62 ?_
  obtain ⟨u7, hc8, h⟩ := qbind h
  refine q_cVr hX (c_M_owedTill X.l G hX.ad f _ _ _ hc8) cw_M_334 rfl kc_104 rfl (Nat.le_of_ble_eq_true rfl) rfl (Nat.le_of_ble_eq_true rfl) d_M_sizeOf_65 ?_
  refine q_iadd hX d_M_sizeOf_68 ?_
  refine q_istore_n hX d_M_sizeOf_69 (by decide) rfl rfl ?_
  refine q_iload_n hX d_M_sizeOf_70 rfl ?_
  refine q_iconst hX d_M_sizeOf_71 ic_2 ?_
  refine q_icmp_ne hX d_M_sizeOf_72 rfl h (fun _ h => ?_) (fun _ h => ?_)
  · refine q_iload_n hX d_M_sizeOf_81 rfl ?_
    exact q_iretW hX h hT d_M_sizeOf_82
  · refine q_iconst hX d_M_sizeOf_75 ic_2 ?_
    refine q_iload_n hX d_M_sizeOf_76 rfl ?_
    refine q_imul hX d_M_sizeOf_77 ?_
    refine q_goto hX d_M_sizeOf_78 rfl ?_
    exact q_iretW hX h hT d_M_sizeOf_82
set_option maxHeartbeats 4000000 in
theorem c_M_sizeOf (l : Launch) (G : qG) (hA : qAd G) (f : Nat) (σ : qMem) (x1 : Int32) (x2 : Int32) {u : Int32 × qMem} (h : p_M_sizeOf f σ x1 x2 = some u) : qCt l y_M_sizeOf prog_14_method_81_code 4 (some .int) 8 G qKS qRF σ [(.ref 104), (.int x1), (.int x2)] (some (.int u.1)) qKS qRF u.2 0 0 := by
  refine qCt.of (lv := [some (.ref 104), some (.int x1), some (.int x2), none]) (by decide) hA (Nat.le_of_ble_eq_true rfl) rfl ?_
  intro X hl _ _ _ hX hT
  subst hl
  unfold p_M_sizeOf at h
  refine q_iload_n hX d_M_sizeOf_0 rfl ?_
  refine q_iconst hX d_M_sizeOf_1 ic_4 ?_
  refine q_icmp_ne hX d_M_sizeOf_2 rfl h (fun _ h => ?_) (fun _ h => ?_)
  · refine q_iload_n hX d_M_sizeOf_19 rfl ?_
    refine q_iconst hX d_M_sizeOf_20 ic_3 ?_
    refine q_icmp_ne hX d_M_sizeOf_21 rfl h (fun _ h => ?_) (fun _ h => ?_)
    · refine q_iload_n hX d_M_sizeOf_30 rfl ?_
      refine q_iconst hX d_M_sizeOf_31 ic_2 ?_
      refine q_icmp_ne hX d_M_sizeOf_32 rfl h (fun _ h => ?_) (fun _ h => ?_)
      · exact q_mask [true, true, true, false] rfl (t_M_sizeOf_b41 hX hT h)
      · refine q_aload_n hX d_M_sizeOf_35 rfl ?_
        refine q_bipush hX d_M_sizeOf_36 bp_12 ?_
        obtain ⟨u9, hc10, h⟩ := qbind h
        refine q_cVv hX (c_M_began X.l G hX.ad f _ _ hc10) cw_M_400 rfl kc_104 rfl (Nat.le_of_ble_eq_true rfl) rfl (Nat.le_of_ble_eq_true rfl) d_M_sizeOf_38 ?_
        exact q_mask [true, true, true, false] rfl (t_M_sizeOf_b41 hX hT h)
    · refine q_aload_n hX d_M_sizeOf_24 rfl ?_
      refine q_iload_n hX d_M_sizeOf_25 rfl ?_
      obtain ⟨u11, hc12, h⟩ := qbind h
      refine q_cVr hX (c_M_obitSize X.l G hX.ad f _ _ hc12) cw_M_403 rfl kc_104 rfl (Nat.le_of_ble_eq_true rfl) rfl (Nat.le_of_ble_eq_true rfl) d_M_sizeOf_26 ?_
      exact q_iretW hX h hT d_M_sizeOf_29
  · refine q_aload_n hX d_M_sizeOf_5 rfl ?_
    refine q_bipush hX d_M_sizeOf_6 bp_14 ?_
    obtain ⟨u13, hc14, h⟩ := qbind h
    refine q_cVv hX (c_M_began X.l G hX.ad f _ _ hc14) cw_M_400 rfl kc_104 rfl (Nat.le_of_ble_eq_true rfl) rfl (Nat.le_of_ble_eq_true rfl) d_M_sizeOf_8 ?_
    refine q_aload_n hX d_M_sizeOf_11 rfl ?_
    refine q_iload_n hX d_M_sizeOf_12 rfl ?_
    refine q_iload_n hX d_M_sizeOf_13 rfl ?_
    obtain ⟨u15, hc16, h⟩ := qbind h
    refine q_cVr hX (c_M_markOf X.l G hX.ad f _ _ _ hc16) cw_M_406 rfl kc_104 rfl (Nat.le_of_ble_eq_true rfl) rfl (Nat.le_of_ble_eq_true rfl) d_M_sizeOf_14 ?_
    refine q_ineg hX d_M_sizeOf_17 ?_
    exact q_iretW hX h hT d_M_sizeOf_18
set_option maxHeartbeats 4000000 in
theorem c_M_ask (l : Launch) (G : qG) (hA : qAd G) (f : Nat) (σ : qMem) (x1 : Int32) (x2 : Int32) {u : Int32 × qMem} (h : p_M_ask f σ x1 x2 = some u) : qCt l y_M_ask prog_14_method_82_code 4 (some .int) 9 G qKS qRF σ [(.ref 104), (.int x1), (.int x2)] (some (.int u.1)) qKS qRF u.2 0 0 := by
  refine qCt.of (lv := [some (.ref 104), some (.int x1), some (.int x2), none]) (by decide) hA (Nat.le_of_ble_eq_true rfl) rfl ?_
  intro X hl _ _ _ hX hT
  subst hl
  unfold p_M_ask at h
  refine q_aload_n hX d_M_ask_0 rfl ?_
  refine q_iconst hX d_M_ask_1 ic_0 ?_
  refine q_putI hX fl_M_137 kc_104 rfl qKS_len d_M_ask_2 ?_
  refine q_aload_n hX d_M_ask_5 rfl ?_
  refine q_iload_n hX d_M_ask_6 rfl ?_
  obtain ⟨u1, hc2, h⟩ := qbind h
  refine q_cVr hX (c_M_isPromise X.l G hX.ad f _ _ hc2) cw_M_265 rfl kc_104 rfl (Nat.le_of_ble_eq_true rfl) rfl (Nat.le_of_ble_eq_true rfl) d_M_ask_7 ?_
  refine q_if_eq hX d_M_ask_10 rfl h (fun _ h => ?_) (fun _ h => ?_)
  · refine q_ldc hX w_1298 d_M_ask_23 ?_
    exact q_iretW hX h hT d_M_ask_25
  · refine q_iload_n hX d_M_ask_13 rfl ?_
    refine q_i2l hX d_M_ask_14 ?_
    refine q_lconst hX d_M_ask_15 lc_0 ?_
    refine q_lconst hX d_M_ask_16 lc_1 ?_
    obtain ⟨u3, hc4, h⟩ := qbind h
    refine q_cSr hX (c_M_in X.l G hX.ad f _ _ _ _ hc4) cw_M_147 rfl (Nat.le_of_ble_eq_true rfl) rfl (Nat.le_of_ble_eq_true rfl) d_M_ask_17 ?_
    refine q_if_ne hX d_M_ask_20 rfl h (fun _ h => ?_) (fun _ h => ?_)
    · refine q_aload_n hX d_M_ask_26 rfl ?_
      refine q_iconst hX d_M_ask_27 ic_0 ?_
      refine q_putI hX fl_M_397 kc_104 rfl qKS_len d_M_ask_28 ?_
      refine q_aload_n hX d_M_ask_31 rfl ?_
      refine q_iload_n hX d_M_ask_32 rfl ?_
      obtain ⟨u5, hc6, h⟩ := qbind h
      refine q_cVr hX (c_M_kindOf X.l G hX.ad f _ _ hc6) cw_M_391 rfl kc_104 rfl (Nat.le_of_ble_eq_true rfl) rfl (Nat.le_of_ble_eq_true rfl) d_M_ask_33 ?_
      refine q_istore_n hX d_M_ask_36 (by decide) rfl rfl ?_
      refine q_iload_n hX d_M_ask_37 rfl ?_
      refine q_if_ne hX d_M_ask_38 rfl h (fun _ h => ?_) (fun _ h => ?_)
      · refine q_aload_n hX d_M_ask_50 rfl ?_
        refine q_iload_n hX d_M_ask_51 rfl ?_
        refine q_iload_n hX d_M_ask_52 rfl ?_
        obtain ⟨u7, hc8, h⟩ := qbind h
        refine q_cVr hX (c_M_markOf X.l G hX.ad f _ _ _ hc8) cw_M_406 rfl kc_104 rfl (Nat.le_of_ble_eq_true rfl) rfl (Nat.le_of_ble_eq_true rfl) d_M_ask_53 ?_
        exact q_iretW hX h hT d_M_ask_56
      · refine q_aload_n hX d_M_ask_41 rfl ?_
        refine q_iload_n hX d_M_ask_42 rfl ?_
        refine q_iload_n hX d_M_ask_43 rfl ?_
        obtain ⟨u9, hc10, h⟩ := qbind h
        refine q_cVr hX (c_M_sizeOf X.l G hX.ad f _ _ _ hc10) cw_M_409 rfl kc_104 rfl (Nat.le_of_ble_eq_true rfl) rfl (Nat.le_of_ble_eq_true rfl) d_M_ask_44 ?_
        refine q_goto hX d_M_ask_47 rfl ?_
        exact q_iretW hX h hT d_M_ask_56
    · refine q_ldc hX w_1298 d_M_ask_23 ?_
      exact q_iretW hX h hT d_M_ask_25
set_option maxHeartbeats 4000000 in
theorem c_M_trace (l : Launch) (G : qG) (hA : qAd G) (f : Nat) (σ : qMem) (x1 : Int32) {u : Int32 × qMem} (h : p_M_trace f σ x1 = some u) : qCt l y_M_trace prog_14_method_83_code 2 (some .int) 2 G qKS qRF σ [(.ref 104), (.int x1)] (some (.int u.1)) qKS qRF u.2 0 0 := by
  refine qCt.of (lv := [some (.ref 104), some (.int x1)]) (by decide) hA (Nat.le_of_ble_eq_true rfl) rfl ?_
  intro X hl _ _ _ hX hT
  subst hl
  unfold p_M_trace at h
  refine q_aload_n hX d_M_trace_0 rfl ?_
  refine q_iconst hX d_M_trace_1 ic_0 ?_
  refine q_putI hX fl_M_137 kc_104 rfl qKS_len d_M_trace_2 ?_
  refine q_iload_n hX d_M_trace_5 rfl ?_
  refine q_i2l hX d_M_trace_6 ?_
  refine q_lconst hX d_M_trace_7 lc_0 ?_
  refine q_aload_n hX d_M_trace_8 rfl ?_
  refine q_getI hX fl_M_397 kc_104 d_M_trace_9 ?_
  refine q_iconst hX d_M_trace_12 ic_1 ?_
  refine q_isub hX d_M_trace_13 ?_
  refine q_i2l hX d_M_trace_14 ?_
  obtain ⟨u1, hc2, h⟩ := qbind h
  refine q_cSr hX (c_M_in X.l G hX.ad f _ _ _ _ hc2) cw_M_147 rfl (Nat.le_of_ble_eq_true rfl) rfl (Nat.le_of_ble_eq_true rfl) d_M_trace_15 ?_
  refine q_if_eq hX d_M_trace_18 rfl h (fun _ h => ?_) (fun _ h => ?_)
  · refine q_ldc hX w_1335 d_M_trace_30 ?_
    exact q_iretW hX h hT d_M_trace_32
  · refine q_aload_n hX d_M_trace_21 rfl ?_
    refine q_getR hX fl_M_134 kc_104 (rfl : qRF 104 63 = some 146) d_M_trace_22 ?_
    refine q_iload_n hX d_M_trace_25 rfl ?_
    refine q_iald hX kc_146 d_M_trace_26 h (fun hi3 h => ?_)
    refine q_goto hX d_M_trace_27 rfl ?_
    exact q_iretW hX h hT d_M_trace_32
set_option maxHeartbeats 4000000 in
theorem t_M_all_lb62 {G : qG} {X : qX} (hX : qOk G X "ChantryRollsModel" prog_14_method_84_code 4 (some .int) 6) {u : Int32 × qMem} {f : Nat} {σ : qMem} (hT : qTg G X 0 0 qKS qRF u.2 (some (.int u.1))) {k62 : Int32 → Int32 → Option (Int32 × qMem)} (hk62 : ∀ (x2 : Int32) (x3 : Int32), k62 x2 x3 = some u → qV G X 0 0 qKS qRF σ 62 [some (.ref 104), none, some (.int x2), some (.int x3)] []) {x2 : Int32} {x3 : Int32} (h : p_M_all_l62 f  σ  k62 x2 x3 = some u) : qV G X 0 0 qKS qRF σ 62 [some (.ref 104), none, some (.int x2), some (.int x3)] [] := by
  unfold p_M_all_l62 at h
  refine q_iload_n hX d_M_all_62 rfl ?_
  refine q_bipush hX d_M_all_63 bp_8 ?_
  refine q_icmp_ge hX d_M_all_65 rfl h (fun _ h => ?_) (fun _ h => ?_)
  · refine q_iload_n hX d_M_all_91 rfl ?_
    exact q_iretW hX h hT d_M_all_92
  · refine q_iload_n hX d_M_all_68 rfl ?_
    refine q_aload_n hX d_M_all_69 rfl ?_
    refine q_getR hX fl_M_7 kc_104 (rfl : qRF 104 2 = some 105) d_M_all_70 ?_
    refine q_iload_n hX d_M_all_73 rfl ?_
    refine q_iald hX kc_105 d_M_all_74 h (fun hi1 h => ?_)
    refine q_if_lt hX d_M_all_75 rfl h (fun _ h => ?_) (fun _ h => ?_)
    · refine q_iconst hX d_M_all_82 ic_0 ?_
      refine q_iadd hX d_M_all_83 ?_
      refine q_istore_n hX d_M_all_84 (by decide) rfl rfl ?_
      refine q_iinc hX d_M_all_85 rfl (ii_1 _) (by decide) rfl rfl ?_
      refine q_goto hX d_M_all_88 rfl ?_
      exact q_mask [true, false, true, true] rfl (hk62 _ _ h)
    · refine q_iconst hX d_M_all_78 ic_1 ?_
      refine q_goto hX d_M_all_79 rfl ?_
      refine q_iadd hX d_M_all_83 ?_
      refine q_istore_n hX d_M_all_84 (by decide) rfl rfl ?_
      refine q_iinc hX d_M_all_85 rfl (ii_1 _) (by decide) rfl rfl ?_
      refine q_goto hX d_M_all_88 rfl ?_
      exact q_mask [true, false, true, true] rfl (hk62 _ _ h)
theorem t_M_all_l62 {G : qG} {X : qX} (hX : qOk G X "ChantryRollsModel" prog_14_method_84_code 4 (some .int) 6) {u : Int32 × qMem} {f : Nat} {σ : qMem} (hT : qTg G X 0 0 qKS qRF u.2 (some (.int u.1))) : ∀ (n : Nat) (x2 : Int32) (x3 : Int32), qfix2 (p_M_all_l62 f  σ ) n x2 x3 = some u → qV G X 0 0 qKS qRF σ 62 [some (.ref 104), none, some (.int x2), some (.int x3)] [] :=
  qfix2_ind (fun k hk _ _ h => t_M_all_lb62 hX   hT  hk h)
set_option maxHeartbeats 4000000 in
theorem t_M_all_lb114 {G : qG} {X : qX} (hX : qOk G X "ChantryRollsModel" prog_14_method_84_code 4 (some .int) 6) {u : Int32 × qMem} {f : Nat} {σ : qMem} (hT : qTg G X 0 0 qKS qRF u.2 (some (.int u.1))) {k114 : Int32 → Int32 → Option (Int32 × qMem)} (hk114 : ∀ (x2 : Int32) (x3 : Int32), k114 x2 x3 = some u → qV G X 0 0 qKS qRF σ 114 [some (.ref 104), none, some (.int x2), some (.int x3)] []) {x2 : Int32} {x3 : Int32} (h : p_M_all_l114 f  σ  k114 x2 x3 = some u) : qV G X 0 0 qKS qRF σ 114 [some (.ref 104), none, some (.int x2), some (.int x3)] [] := by
  unfold p_M_all_l114 at h
  refine q_iload_n hX d_M_all_114 rfl ?_
  refine q_aload_n hX d_M_all_115 rfl ?_
  refine q_getI hX fl_M_296 kc_104 d_M_all_116 ?_
  refine q_icmp_ge hX d_M_all_119 rfl h (fun _ h => ?_) (fun _ h => ?_)
  · refine q_iload_n hX d_M_all_145 rfl ?_
    exact q_iretW hX h hT d_M_all_146
  · refine q_iload_n hX d_M_all_122 rfl ?_
    refine q_aload_n hX d_M_all_123 rfl ?_
    refine q_getR hX fl_M_40 kc_104 (rfl : qRF 104 25 = some 115) d_M_all_124 ?_
    refine q_iload_n hX d_M_all_127 rfl ?_
    refine q_zald hX kc_115 d_M_all_128 h (fun hi2 h => ?_)
    refine q_if_eq hX d_M_all_129 rfl h (fun _ h => ?_) (fun _ h => ?_)
    · refine q_iconst hX d_M_all_136 ic_0 ?_
      refine q_iadd hX d_M_all_137 ?_
      refine q_istore_n hX d_M_all_138 (by decide) rfl rfl ?_
      refine q_iinc hX d_M_all_139 rfl (ii_1 _) (by decide) rfl rfl ?_
      refine q_goto hX d_M_all_142 rfl ?_
      exact q_mask [true, false, true, true] rfl (hk114 _ _ h)
    · refine q_iconst hX d_M_all_132 ic_1 ?_
      refine q_goto hX d_M_all_133 rfl ?_
      refine q_iadd hX d_M_all_137 ?_
      refine q_istore_n hX d_M_all_138 (by decide) rfl rfl ?_
      refine q_iinc hX d_M_all_139 rfl (ii_1 _) (by decide) rfl rfl ?_
      refine q_goto hX d_M_all_142 rfl ?_
      exact q_mask [true, false, true, true] rfl (hk114 _ _ h)
theorem t_M_all_l114 {G : qG} {X : qX} (hX : qOk G X "ChantryRollsModel" prog_14_method_84_code 4 (some .int) 6) {u : Int32 × qMem} {f : Nat} {σ : qMem} (hT : qTg G X 0 0 qKS qRF u.2 (some (.int u.1))) : ∀ (n : Nat) (x2 : Int32) (x3 : Int32), qfix2 (p_M_all_l114 f  σ ) n x2 x3 = some u → qV G X 0 0 qKS qRF σ 114 [some (.ref 104), none, some (.int x2), some (.int x3)] [] :=
  qfix2_ind (fun k hk _ _ h => t_M_all_lb114 hX   hT  hk h)
set_option maxHeartbeats 4000000 in
theorem t_M_all_lb149 {G : qG} {X : qX} (hX : qOk G X "ChantryRollsModel" prog_14_method_84_code 4 (some .int) 6) {u : Int32 × qMem} {f : Nat} {σ : qMem} (hT : qTg G X 0 0 qKS qRF u.2 (some (.int u.1))) {k149 : Int32 → Int32 → Option (Int32 × qMem)} (hk149 : ∀ (x2 : Int32) (x3 : Int32), k149 x2 x3 = some u → qV G X 0 0 qKS qRF σ 149 [some (.ref 104), none, some (.int x2), some (.int x3)] []) {x2 : Int32} {x3 : Int32} (h : p_M_all_l149 f  σ  k149 x2 x3 = some u) : qV G X 0 0 qKS qRF σ 149 [some (.ref 104), none, some (.int x2), some (.int x3)] [] := by
  unfold p_M_all_l149 at h
  refine q_iload_n hX d_M_all_149 rfl ?_
  refine q_aload_n hX d_M_all_150 rfl ?_
  refine q_getI hX fl_M_162 kc_104 d_M_all_151 ?_
  refine q_icmp_ge hX d_M_all_154 rfl h (fun _ h => ?_) (fun _ h => ?_)
  · refine q_iload_n hX d_M_all_183 rfl ?_
    exact q_iretW hX h hT d_M_all_184
  · refine q_iload_n hX d_M_all_157 rfl ?_
    refine q_aload_n hX d_M_all_158 rfl ?_
    refine q_iload_n hX d_M_all_159 rfl ?_
    refine q_aload_n hX d_M_all_160 rfl ?_
    refine q_getI hX fl_M_388 kc_104 d_M_all_161 ?_
    obtain ⟨u3, hc4, h⟩ := qbind h
    refine q_cVr hX (c_M_isEnded X.l G hX.ad f _ _ _ hc4) cw_M_308 rfl kc_104 rfl (Nat.le_of_ble_eq_true rfl) rfl (Nat.le_of_ble_eq_true rfl) d_M_all_164 ?_
    refine q_if_eq hX d_M_all_167 rfl h (fun _ h => ?_) (fun _ h => ?_)
    · refine q_iconst hX d_M_all_174 ic_0 ?_
      refine q_iadd hX d_M_all_175 ?_
      refine q_istore_n hX d_M_all_176 (by decide) rfl rfl ?_
      refine q_iinc hX d_M_all_177 rfl (ii_1 _) (by decide) rfl rfl ?_
      refine q_goto hX d_M_all_180 rfl ?_
      exact q_mask [true, false, true, true] rfl (hk149 _ _ h)
    · refine q_iconst hX d_M_all_170 ic_1 ?_
      refine q_goto hX d_M_all_171 rfl ?_
      refine q_iadd hX d_M_all_175 ?_
      refine q_istore_n hX d_M_all_176 (by decide) rfl rfl ?_
      refine q_iinc hX d_M_all_177 rfl (ii_1 _) (by decide) rfl rfl ?_
      refine q_goto hX d_M_all_180 rfl ?_
      exact q_mask [true, false, true, true] rfl (hk149 _ _ h)
theorem t_M_all_l149 {G : qG} {X : qX} (hX : qOk G X "ChantryRollsModel" prog_14_method_84_code 4 (some .int) 6) {u : Int32 × qMem} {f : Nat} {σ : qMem} (hT : qTg G X 0 0 qKS qRF u.2 (some (.int u.1))) : ∀ (n : Nat) (x2 : Int32) (x3 : Int32), qfix2 (p_M_all_l149 f  σ ) n x2 x3 = some u → qV G X 0 0 qKS qRF σ 149 [some (.ref 104), none, some (.int x2), some (.int x3)] [] :=
  qfix2_ind (fun k hk _ _ h => t_M_all_lb149 hX   hT  hk h)
set_option maxHeartbeats 4000000 in
theorem c_M_all (l : Launch) (G : qG) (hA : qAd G) (f : Nat) (σ : qMem) (x1 : Int32) {u : Int32 × qMem} (h : p_M_all f σ x1 = some u) : qCt l y_M_all prog_14_method_84_code 4 (some .int) 6 G qKS qRF σ [(.ref 104), (.int x1)] (some (.int u.1)) qKS qRF u.2 0 0 := by
  refine qCt.of (lv := [some (.ref 104), some (.int x1), none, none]) (by decide) hA (Nat.le_of_ble_eq_true rfl) rfl ?_
  intro X hl _ _ _ hX hT
  subst hl
  unfold p_M_all at h
  refine q_aload_n hX d_M_all_0 rfl ?_
  refine q_iconst hX d_M_all_1 ic_0 ?_
  refine q_putI hX fl_M_137 kc_104 rfl qKS_len d_M_all_2 ?_
  refine q_iconst hX d_M_all_5 ic_0 ?_
  refine q_istore_n hX d_M_all_6 (by decide) rfl rfl ?_
  refine q_iload_n hX d_M_all_7 rfl ?_
  by_cases hs8_0 : x1 = (0 : Int32)
  · have h := q_dec0 h hs8_0
    refine q_tabIn hX hs8_0 d_M_all_8 (by decide) (by decide) rfl rfl ?_
    refine q_iconst hX d_M_all_60 ic_0 ?_
    refine q_istore_n hX d_M_all_61 (by decide) rfl rfl ?_
    exact q_mask [true, false, true, true] rfl (t_M_all_l62 hX hT f _ _ h)
  have h := q_dec1 h hs8_0
  by_cases hs8_1 : x1 = (1 : Int32)
  · have h := q_dec0 h hs8_1
    refine q_tabIn hX hs8_1 d_M_all_8 (by decide) (by decide) rfl rfl ?_
    refine q_aload_n hX d_M_all_93 rfl ?_
    refine q_getI hX fl_M_162 kc_104 d_M_all_94 ?_
    exact q_iretW hX h hT d_M_all_97
  have h := q_dec1 h hs8_1
  by_cases hs8_2 : x1 = (2 : Int32)
  · have h := q_dec0 h hs8_2
    refine q_tabIn hX hs8_2 d_M_all_8 (by decide) (by decide) rfl rfl ?_
    refine q_aload_n hX d_M_all_98 rfl ?_
    refine q_getI hX fl_M_277 kc_104 d_M_all_99 ?_
    exact q_iretW hX h hT d_M_all_102
  have h := q_dec1 h hs8_2
  by_cases hs8_3 : x1 = (3 : Int32)
  · have h := q_dec0 h hs8_3
    refine q_tabIn hX hs8_3 d_M_all_8 (by decide) (by decide) rfl rfl ?_
    refine q_aload_n hX d_M_all_103 rfl ?_
    refine q_getI hX fl_M_296 kc_104 d_M_all_104 ?_
    exact q_iretW hX h hT d_M_all_107
  have h := q_dec1 h hs8_3
  by_cases hs8_4 : x1 = (4 : Int32)
  · have h := q_dec0 h hs8_4
    refine q_tabIn hX hs8_4 d_M_all_8 (by decide) (by decide) rfl rfl ?_
    refine q_aload_n hX d_M_all_108 rfl ?_
    obtain ⟨u5, hc6, h⟩ := qbind h
    refine q_cVv hX (c_M_judge X.l G hX.ad f _  hc6) cw_M_315 rfl kc_104 rfl (Nat.le_of_ble_eq_true rfl) rfl (Nat.le_of_ble_eq_true rfl) d_M_all_109 ?_
    refine q_iconst hX d_M_all_112 ic_0 ?_
    refine q_istore_n hX d_M_all_113 (by decide) rfl rfl ?_
    exact q_mask [true, false, true, true] rfl (t_M_all_l114 hX hT f _ _ h)
  have h := q_dec1 h hs8_4
  by_cases hs8_5 : x1 = (5 : Int32)
  · have h := q_dec0 h hs8_5
    refine q_tabIn hX hs8_5 d_M_all_8 (by decide) (by decide) rfl rfl ?_
    refine q_iconst hX d_M_all_147 ic_0 ?_
    refine q_istore_n hX d_M_all_148 (by decide) rfl rfl ?_
    exact q_mask [true, false, true, true] rfl (t_M_all_l149 hX hT f _ _ h)
  have h := q_dec1 h hs8_5
  by_cases hs8_6 : x1 = (6 : Int32)
  · have h := q_dec0 h hs8_6
    refine q_tabIn hX hs8_6 d_M_all_8 (by decide) (by decide) rfl rfl ?_
    refine q_aload_n hX d_M_all_185 rfl ?_
    refine q_getI hX fl_M_369 kc_104 d_M_all_186 ?_
    exact q_iretW hX h hT d_M_all_189
  have h := q_dec1 h hs8_6
  by_cases hs8_7 : x1 = (7 : Int32)
  · have h := q_dec0 h hs8_7
    refine q_tabIn hX hs8_7 d_M_all_8 (by decide) (by decide) rfl rfl ?_
    refine q_aload_n hX d_M_all_190 rfl ?_
    refine q_getI hX fl_M_380 kc_104 d_M_all_191 ?_
    exact q_iretW hX h hT d_M_all_194
  have h := q_dec1 h hs8_7
  by_cases hs8_8 : x1 = (8 : Int32)
  · have h := q_dec0 h hs8_8
    refine q_tabIn hX hs8_8 d_M_all_8 (by decide) (by decide) rfl rfl ?_
    refine q_aload_n hX d_M_all_195 rfl ?_
    refine q_getI hX fl_M_169 kc_104 d_M_all_196 ?_
    exact q_iretW hX h hT d_M_all_199
  have h := q_dec1 h hs8_8
  have hout : (x1).toInt < 0 ∨ 8 < (x1).toInt := by
    have e0 : (x1).toInt ≠ 0 := q_ne32 hs8_0
    have e1 : (x1).toInt ≠ 1 := q_ne32 hs8_1
    have e2 : (x1).toInt ≠ 2 := q_ne32 hs8_2
    have e3 : (x1).toInt ≠ 3 := q_ne32 hs8_3
    have e4 : (x1).toInt ≠ 4 := q_ne32 hs8_4
    have e5 : (x1).toInt ≠ 5 := q_ne32 hs8_5
    have e6 : (x1).toInt ≠ 6 := q_ne32 hs8_6
    have e7 : (x1).toInt ≠ 7 := q_ne32 hs8_7
    have e8 : (x1).toInt ≠ 8 := q_ne32 hs8_8
    omega
  refine q_tabOut hX hout d_M_all_8 rfl ?_
  refine q_ldc hX w_1298 d_M_all_200 ?_
  exact q_iretW hX h hT d_M_all_202
set_option maxHeartbeats 4000000 in
theorem c_M_status (l : Launch) (G : qG) (hA : qAd G) (f : Nat) (σ : qMem) {u : Int32 × qMem} (h : p_M_status f σ  = some u) : qCt l y_M_status prog_14_method_85_code 1 (some .int) 1 G qKS qRF σ [(.ref 104)] (some (.int u.1)) qKS qRF u.2 0 0 := by
  refine qCt.of (lv := [some (.ref 104)]) (by decide) hA (Nat.le_of_ble_eq_true rfl) rfl ?_
  intro X hl _ _ _ hX hT
  subst hl
  unfold p_M_status at h
  refine q_aload_n hX d_M_status_0 rfl ?_
  refine q_iconst hX d_M_status_1 ic_0 ?_
  refine q_putI hX fl_M_137 kc_104 rfl qKS_len d_M_status_2 ?_
  refine q_aload_n hX d_M_status_5 rfl ?_
  refine q_getI hX fl_M_141 kc_104 d_M_status_6 ?_
  exact q_iretW hX h hT d_M_status_9
