set_option maxHeartbeats 4000000 in
theorem c_C_join (l : Launch) (G : qG) (hA : qAd G) (f : Nat) (σ : qMem) (x1 : Int32) (x2 : Int32) (x3 : Int32) {u : Int32 × qMem} (h : p_C_join f σ x1 x2 x3 = some u) : qCt l y_C_join prog_1_method_17_code 4 (some .int) 3 G qKS qRF σ [(.ref 0), (.int x1), (.int x2), (.int x3)] (some (.int u.1)) qKS qRF u.2 0 0 := by
  refine qCt.of (lv := [some (.ref 0), some (.int x1), some (.int x2), some (.int x3)]) (by decide) hA (Nat.le_of_ble_eq_true rfl) rfl ?_
  intro X hl _ _ _ hX hT
  subst hl
  unfold p_C_join at h
  refine q_aload_n hX d_C_join_0 rfl ?_
  refine q_getR hX fl_C_19 kc_0 (rfl : qRF 0 1 = some 13) d_C_join_1 ?_
  refine q_iload_n hX d_C_join_4 rfl ?_
  obtain ⟨u1, hc2, h⟩ := qbind h
  refine q_cVr hX (c_Promises_has X.l G hX.ad f _ _ hc2) cw_C_171 rfl kc_13 rfl (Nat.le_of_ble_eq_true rfl) rfl (Nat.le_of_ble_eq_true rfl) d_C_join_5 ?_
  refine q_if_eq hX d_C_join_8 rfl h (fun _ h => ?_) (fun _ h => ?_)
  · refine q_ldc hX w_383 d_C_join_34 ?_
    exact q_iretW hX h hT d_C_join_36
  · refine q_aload_n hX d_C_join_11 rfl ?_
    refine q_getR hX fl_C_19 kc_0 (rfl : qRF 0 1 = some 13) d_C_join_12 ?_
    refine q_iload_n hX d_C_join_15 rfl ?_
    obtain ⟨u3, hc4, h⟩ := qbind h
    refine q_cVr hX (c_Promises_has X.l G hX.ad f _ _ hc4) cw_C_171 rfl kc_13 rfl (Nat.le_of_ble_eq_true rfl) rfl (Nat.le_of_ble_eq_true rfl) d_C_join_16 ?_
    refine q_if_eq hX d_C_join_19 rfl h (fun _ h => ?_) (fun _ h => ?_)
    · refine q_ldc hX w_383 d_C_join_34 ?_
      exact q_iretW hX h hT d_C_join_36
    · refine q_iload_n hX d_C_join_22 rfl ?_
      refine q_iload_n hX d_C_join_23 rfl ?_
      refine q_icmp_eq hX d_C_join_24 rfl h (fun _ h => ?_) (fun _ h => ?_)
      · refine q_ldc hX w_383 d_C_join_34 ?_
        exact q_iretW hX h hT d_C_join_36
      · refine q_iload_n hX d_C_join_27 rfl ?_
        obtain ⟨u5, hc6, h⟩ := qbind h
        refine q_cSr hX (c_C_noDay X.l G hX.ad f _ _ hc6) cw_C_178 rfl (Nat.le_of_ble_eq_true rfl) rfl (Nat.le_of_ble_eq_true rfl) d_C_join_28 ?_
        refine q_if_eq hX d_C_join_31 rfl h (fun _ h => ?_) (fun _ h => ?_)
        · refine q_aload_n hX d_C_join_37 rfl ?_
          refine q_getR hX fl_C_69 kc_0 (rfl : qRF 0 8 = some 48) d_C_join_38 ?_
          refine q_iload_n hX d_C_join_41 rfl ?_
          refine q_iload_n hX d_C_join_42 rfl ?_
          obtain ⟨u7, hc8, h⟩ := qbind h
          refine q_cVr hX (c_Joins_holdsFrom X.l G hX.ad f _ _ _ hc8) cw_C_222 rfl kc_48 rfl (Nat.le_of_ble_eq_true rfl) rfl (Nat.le_of_ble_eq_true rfl) d_C_join_43 ?_
          refine q_if_ne hX d_C_join_46 rfl h (fun _ h => ?_) (fun _ h => ?_)
          · refine q_ldc hX w_762 d_C_join_61 ?_
            exact q_iretW hX h hT d_C_join_63
          · refine q_aload_n hX d_C_join_49 rfl ?_
            refine q_getR hX fl_C_69 kc_0 (rfl : qRF 0 8 = some 48) d_C_join_50 ?_
            refine q_iload_n hX d_C_join_53 rfl ?_
            refine q_iload_n hX d_C_join_54 rfl ?_
            obtain ⟨u9, hc10, h⟩ := qbind h
            refine q_cVr hX (c_Joins_holdsFrom X.l G hX.ad f _ _ _ hc10) cw_C_222 rfl kc_48 rfl (Nat.le_of_ble_eq_true rfl) rfl (Nat.le_of_ble_eq_true rfl) d_C_join_55 ?_
            refine q_if_eq hX d_C_join_58 rfl h (fun _ h => ?_) (fun _ h => ?_)
            · refine q_aload_n hX d_C_join_64 rfl ?_
              refine q_getR hX fl_C_69 kc_0 (rfl : qRF 0 8 = some 48) d_C_join_65 ?_
              obtain ⟨u11, hc12, h⟩ := qbind h
              refine q_cVr hX (c_Joins_full X.l G hX.ad f _  hc12) cw_C_226 rfl kc_48 rfl (Nat.le_of_ble_eq_true rfl) rfl (Nat.le_of_ble_eq_true rfl) d_C_join_68 ?_
              refine q_if_eq hX d_C_join_71 rfl h (fun _ h => ?_) (fun _ h => ?_)
              · refine q_aload_n hX d_C_join_77 rfl ?_
                refine q_getR hX fl_C_69 kc_0 (rfl : qRF 0 8 = some 48) d_C_join_78 ?_
                refine q_iload_n hX d_C_join_81 rfl ?_
                refine q_iload_n hX d_C_join_82 rfl ?_
                refine q_iload_n hX d_C_join_83 rfl ?_
                obtain ⟨u13, hc14, h⟩ := qbind h
                refine q_cVv hX (c_Joins_add X.l G hX.ad f _ _ _ _ hc14) cw_C_227 rfl kc_48 rfl (Nat.le_of_ble_eq_true rfl) rfl (Nat.le_of_ble_eq_true rfl) d_C_join_84 ?_
                refine q_iconst hX d_C_join_87 ic_1 ?_
                exact q_iretW hX h hT d_C_join_88
              · refine q_ldc hX w_609 d_C_join_74 ?_
                exact q_iretW hX h hT d_C_join_76
            · refine q_ldc hX w_762 d_C_join_61 ?_
              exact q_iretW hX h hT d_C_join_63
        · refine q_ldc hX w_383 d_C_join_34 ?_
          exact q_iretW hX h hT d_C_join_36
set_option maxHeartbeats 4000000 in
theorem t_Joins_part_lb7 {G : qG} {X : qX} (hX : qOk G X "ChantryRolls$Joins" prog_7_method_6_code 4 (some .boolean) 2) {u : Int32 × qMem} {f : Nat} {σ : qMem} {x1 : Int32} {x2 : Int32} (hT : qTg G X 0 0 qKS qRF u.2 (some (.int u.1))) {k7 : Int32 → Option (Int32 × qMem)} (hk7 : ∀ (x3 : Int32), k7 x3 = some u → qV G X 0 0 qKS qRF σ 7 [some (.ref 48), some (.int x1), some (.int x2), some (.int x3)] []) {x3 : Int32} (h : p_Joins_part_l7 f  σ x1 x2  k7 x3 = some u) : qV G X 0 0 qKS qRF σ 7 [some (.ref 48), some (.int x1), some (.int x2), some (.int x3)] [] := by
  unfold p_Joins_part_l7 at h
  refine q_iload_n hX d_Joins_part_7 rfl ?_
  refine q_if_lt hX d_Joins_part_8 rfl h (fun _ h => ?_) (fun _ h => ?_)
  · refine q_iconst hX d_Joins_part_59 ic_0 ?_
    exact q_zretW hX zn_0 h hT d_Joins_part_60
  · refine q_aload_n hX d_Joins_part_11 rfl ?_
    refine q_iload_n hX d_Joins_part_12 rfl ?_
    refine q_iload_n hX d_Joins_part_13 rfl ?_
    obtain ⟨u1, hc2, h⟩ := qbind h
    refine q_cVr hX (c_Joins_has X.l G hX.ad f _ _ _ hc2) cw_Joins_28 rfl kc_48 rfl (Nat.le_of_ble_eq_true rfl) rfl (Nat.le_of_ble_eq_true rfl) d_Joins_part_14 ?_
    refine q_if_eq hX d_Joins_part_17 rfl h (fun _ h => ?_) (fun _ h => ?_)
    · refine q_iinc hX d_Joins_part_53 rfl (ii_m1 _) (by decide) rfl rfl ?_
      refine q_goto hX d_Joins_part_56 rfl ?_
      exact q_mask [true, true, true, true] rfl (hk7 _ h)
    · refine q_aload_n hX d_Joins_part_20 rfl ?_
      refine q_getR hX fl_Joins_21 kc_48 (rfl : qRF 48 3 = some 52) d_Joins_part_21 ?_
      refine q_iload_n hX d_Joins_part_24 rfl ?_
      refine q_iald hX kc_52 d_Joins_part_25 h (fun hi3 h => ?_)
      refine q_sipush hX d_Joins_part_26 sp_10000 ?_
      refine q_icmp_ne hX d_Joins_part_29 rfl h (fun _ h => ?_) (fun _ h => ?_)
      · refine q_iconst hX d_Joins_part_42 ic_0 ?_
        exact q_zretW hX zn_0 h hT d_Joins_part_43
      · refine q_iload_n hX d_Joins_part_32 rfl ?_
        refine q_aload_n hX d_Joins_part_33 rfl ?_
        refine q_getR hX fl_Joins_18 kc_48 (rfl : qRF 48 2 = some 51) d_Joins_part_34 ?_
        refine q_iload_n hX d_Joins_part_37 rfl ?_
        refine q_iald hX kc_51 d_Joins_part_38 h (fun hi4 h => ?_)
        refine q_icmp_gt hX d_Joins_part_39 rfl h (fun _ h => ?_) (fun _ h => ?_)
        · refine q_aload_n hX d_Joins_part_44 rfl ?_
          refine q_getR hX fl_Joins_21 kc_48 (rfl : qRF 48 3 = some 52) d_Joins_part_45 ?_
          refine q_iload_n hX d_Joins_part_48 rfl ?_
          refine q_iload_n hX d_Joins_part_49 rfl ?_
          refine q_iast hX kc_52 qKS_len d_Joins_part_50 h (fun hi5 h => ?_)
          refine q_iconst hX d_Joins_part_51 ic_1 ?_
          exact q_zretW hX zn_1 h hT d_Joins_part_52
        · refine q_iconst hX d_Joins_part_42 ic_0 ?_
          exact q_zretW hX zn_0 h hT d_Joins_part_43
theorem t_Joins_part_l7 {G : qG} {X : qX} (hX : qOk G X "ChantryRolls$Joins" prog_7_method_6_code 4 (some .boolean) 2) {u : Int32 × qMem} {f : Nat} {σ : qMem} {x1 : Int32} {x2 : Int32} (hT : qTg G X 0 0 qKS qRF u.2 (some (.int u.1))) : ∀ (n : Nat) (x3 : Int32), qfix1 (p_Joins_part_l7 f  σ x1 x2 ) n x3 = some u → qV G X 0 0 qKS qRF σ 7 [some (.ref 48), some (.int x1), some (.int x2), some (.int x3)] [] :=
  qfix1_ind (fun k hk _ h => t_Joins_part_lb7 hX   hT  hk h)
set_option maxHeartbeats 4000000 in
theorem c_Joins_part (l : Launch) (G : qG) (hA : qAd G) (f : Nat) (σ : qMem) (x1 : Int32) (x2 : Int32) {u : Int32 × qMem} (h : p_Joins_part f σ x1 x2 = some u) : qCt l y_Joins_part prog_7_method_6_code 4 (some .boolean) 2 G qKS qRF σ [(.ref 48), (.int x1), (.int x2)] (some (.int u.1)) qKS qRF u.2 0 0 := by
  refine qCt.of (lv := [some (.ref 48), some (.int x1), some (.int x2), none]) (by decide) hA (Nat.le_of_ble_eq_true rfl) rfl ?_
  intro X hl _ _ _ hX hT
  subst hl
  unfold p_Joins_part at h
  refine q_aload_n hX d_Joins_part_0 rfl ?_
  refine q_getI hX fl_Joins_24 kc_48 d_Joins_part_1 ?_
  refine q_iconst hX d_Joins_part_4 ic_1 ?_
  refine q_isub hX d_Joins_part_5 ?_
  refine q_istore_n hX d_Joins_part_6 (by decide) rfl rfl ?_
  exact q_mask [true, true, true, true] rfl (t_Joins_part_l7 hX hT f _ h)
set_option maxHeartbeats 4000000 in
theorem c_C_split (l : Launch) (G : qG) (hA : qAd G) (f : Nat) (σ : qMem) (x1 : Int32) (x2 : Int32) {u : Int32 × qMem} (h : p_C_split f σ x1 x2 = some u) : qCt l y_C_split prog_1_method_18_code 3 (some .int) 3 G qKS qRF σ [(.ref 0), (.int x1), (.int x2)] (some (.int u.1)) qKS qRF u.2 0 0 := by
  refine qCt.of (lv := [some (.ref 0), some (.int x1), some (.int x2)]) (by decide) hA (Nat.le_of_ble_eq_true rfl) rfl ?_
  intro X hl _ _ _ hX hT
  subst hl
  unfold p_C_split at h
  refine q_aload_n hX d_C_split_0 rfl ?_
  refine q_getR hX fl_C_19 kc_0 (rfl : qRF 0 1 = some 13) d_C_split_1 ?_
  refine q_iload_n hX d_C_split_4 rfl ?_
  obtain ⟨u1, hc2, h⟩ := qbind h
  refine q_cVr hX (c_Promises_has X.l G hX.ad f _ _ hc2) cw_C_171 rfl kc_13 rfl (Nat.le_of_ble_eq_true rfl) rfl (Nat.le_of_ble_eq_true rfl) d_C_split_5 ?_
  refine q_if_eq hX d_C_split_8 rfl h (fun _ h => ?_) (fun _ h => ?_)
  · refine q_ldc hX w_383 d_C_split_18 ?_
    exact q_iretW hX h hT d_C_split_20
  · refine q_iload_n hX d_C_split_11 rfl ?_
    obtain ⟨u3, hc4, h⟩ := qbind h
    refine q_cSr hX (c_C_noDay X.l G hX.ad f _ _ hc4) cw_C_178 rfl (Nat.le_of_ble_eq_true rfl) rfl (Nat.le_of_ble_eq_true rfl) d_C_split_12 ?_
    refine q_if_eq hX d_C_split_15 rfl h (fun _ h => ?_) (fun _ h => ?_)
    · refine q_aload_n hX d_C_split_21 rfl ?_
      refine q_getR hX fl_C_69 kc_0 (rfl : qRF 0 8 = some 48) d_C_split_22 ?_
      refine q_iload_n hX d_C_split_25 rfl ?_
      refine q_iload_n hX d_C_split_26 rfl ?_
      obtain ⟨u5, hc6, h⟩ := qbind h
      refine q_cVr hX (c_Joins_part X.l G hX.ad f _ _ _ hc6) cw_C_229 rfl kc_48 rfl (Nat.le_of_ble_eq_true rfl) rfl (Nat.le_of_ble_eq_true rfl) d_C_split_27 ?_
      refine q_if_eq hX d_C_split_30 rfl h (fun _ h => ?_) (fun _ h => ?_)
      · refine q_ldc hX w_762 d_C_split_37 ?_
        exact q_iretW hX h hT d_C_split_39
      · refine q_iconst hX d_C_split_33 ic_1 ?_
        refine q_goto hX d_C_split_34 rfl ?_
        exact q_iretW hX h hT d_C_split_39
    · refine q_ldc hX w_383 d_C_split_18 ?_
      exact q_iretW hX h hT d_C_split_20
set_option maxHeartbeats 4000000 in
theorem c_C_noHouse (l : Launch) (G : qG) (hA : qAd G) (f : Nat) (σ : qMem) (x0 : Int32) {u : Int32} (h : p_C_noHouse f σ x0 = some u) : qCt l y_C_noHouse prog_1_method_46_code 1 (some .boolean) 2 G qKS qRF σ [(.int x0)] (some (.int u)) qKS qRF σ 0 0 := by
  refine qCt.of (lv := [some (.int x0)]) (by decide) hA (Nat.le_of_ble_eq_true rfl) rfl ?_
  intro X hl _ _ _ hX hT
  subst hl
  unfold p_C_noHouse at h
  refine q_iload_n hX d_C_noHouse_0 rfl ?_
  refine q_iconst hX d_C_noHouse_1 ic_0 ?_
  refine q_iconst hX d_C_noHouse_2 ic_5 ?_
  obtain ⟨u1, hc2, h⟩ := qbind h
  refine q_cSr hX (c_C_outside X.l G hX.ad f _ _ _ _ hc2) cw_C_122 rfl (Nat.le_of_ble_eq_true rfl) rfl (Nat.le_of_ble_eq_true rfl) d_C_noHouse_3 ?_
  exact q_zretR hX rfl h hT d_C_noHouse_6
set_option maxHeartbeats 4000000 in
theorem c_Houses_changeRent (l : Launch) (G : qG) (hA : qAd G) (f : Nat) (σ : qMem) (x1 : Int32) (x2 : Int32) {u : Int32 × qMem} (h : p_Houses_changeRent f σ x1 x2 = some u) : qCt l y_Houses_changeRent prog_6_method_2_code 4 (some .int) 1 G qKS qRF σ [(.ref 53), (.int x1), (.int x2)] (some (.int u.1)) qKS qRF u.2 0 0 := by
  refine qCt.of (lv := [some (.ref 53), some (.int x1), some (.int x2), none]) (by decide) hA (Nat.le_of_ble_eq_true rfl) rfl ?_
  intro X hl _ _ _ hX hT
  subst hl
  unfold p_Houses_changeRent at h
  refine q_aload_n hX d_Houses_changeRent_0 rfl ?_
  refine q_getR hX fl_Houses_9 kc_53 (rfl : qRF 53 0 = some 54) d_Houses_changeRent_1 ?_
  refine q_iload_n hX d_Houses_changeRent_4 rfl ?_
  refine q_iald hX kc_54 d_Houses_changeRent_5 h (fun hi1 h => ?_)
  refine q_istore_n hX d_Houses_changeRent_6 (by decide) rfl rfl ?_
  refine q_aload_n hX d_Houses_changeRent_7 rfl ?_
  refine q_getR hX fl_Houses_9 kc_53 (rfl : qRF 53 0 = some 54) d_Houses_changeRent_8 ?_
  refine q_iload_n hX d_Houses_changeRent_11 rfl ?_
  refine q_iload_n hX d_Houses_changeRent_12 rfl ?_
  refine q_iast hX kc_54 qKS_len d_Houses_changeRent_13 h (fun hi2 h => ?_)
  refine q_iload_n hX d_Houses_changeRent_14 rfl ?_
  exact q_iretW hX h hT d_Houses_changeRent_15
set_option maxHeartbeats 4000000 in
theorem c_Houses_changeShrink (l : Launch) (G : qG) (hA : qAd G) (f : Nat) (σ : qMem) (x1 : Int32) (x2 : Int32) {u : Int32 × qMem} (h : p_Houses_changeShrink f σ x1 x2 = some u) : qCt l y_Houses_changeShrink prog_6_method_3_code 4 (some .int) 1 G qKS qRF σ [(.ref 53), (.int x1), (.int x2)] (some (.int u.1)) qKS qRF u.2 0 0 := by
  refine qCt.of (lv := [some (.ref 53), some (.int x1), some (.int x2), none]) (by decide) hA (Nat.le_of_ble_eq_true rfl) rfl ?_
  intro X hl _ _ _ hX hT
  subst hl
  unfold p_Houses_changeShrink at h
  refine q_aload_n hX d_Houses_changeShrink_0 rfl ?_
  refine q_getR hX fl_Houses_15 kc_53 (rfl : qRF 53 1 = some 55) d_Houses_changeShrink_1 ?_
  refine q_iload_n hX d_Houses_changeShrink_4 rfl ?_
  refine q_iald hX kc_55 d_Houses_changeShrink_5 h (fun hi1 h => ?_)
  refine q_istore_n hX d_Houses_changeShrink_6 (by decide) rfl rfl ?_
  refine q_aload_n hX d_Houses_changeShrink_7 rfl ?_
  refine q_getR hX fl_Houses_15 kc_53 (rfl : qRF 53 1 = some 55) d_Houses_changeShrink_8 ?_
  refine q_iload_n hX d_Houses_changeShrink_11 rfl ?_
  refine q_iload_n hX d_Houses_changeShrink_12 rfl ?_
  refine q_iast hX kc_55 qKS_len d_Houses_changeShrink_13 h (fun hi2 h => ?_)
  refine q_iload_n hX d_Houses_changeShrink_14 rfl ?_
  exact q_iretW hX h hT d_Houses_changeShrink_15
set_option maxHeartbeats 4000000 in
theorem t_C_house_b30 {G : qG} {X : qX} (hX : qOk G X "ChantryRolls" prog_1_method_19_code 4 (some .int) 3) {u : Int32 × qMem} {f : Nat} {σ : qMem} {x1 : Int32} {x2 : Int32} {x3 : Int32} {s0 : Int32} {s1 : Int32} {s2 : Int32} (hT : qTg G X 0 0 qKS qRF u.2 (some (.int u.1))) (h : p_C_house_b30 f    σ x1 x2 x3 s0 s1 s2 = some u) : qV G X 0 0 qKS qRF σ 30 [some (.ref 0), some (.int x1), some (.int x2), some (.int x3)] [(.int s2), (.int s1), (.int s0)] := by
  unfold p_C_house_b30 at h
  obtain ⟨u1, hc2, h⟩ := qbind h
  refine q_cSr hX (c_C_outside X.l G hX.ad f _ _ _ _ hc2) cw_C_122 rfl (Nat.le_of_ble_eq_true rfl) rfl (Nat.le_of_ble_eq_true rfl) d_C_house_30 ?_
  refine q_if_eq hX d_C_house_33 rfl h (fun _ h => ?_) (fun _ h => ?_)
  · refine q_iload_n hX d_C_house_39 rfl ?_
    refine q_if_ne hX d_C_house_40 rfl h (fun _ h => ?_) (fun _ h => ?_)
    · refine q_aload_n hX d_C_house_55 rfl ?_
      refine q_getR hX fl_C_76 kc_0 (rfl : qRF 0 9 = some 53) d_C_house_56 ?_
      refine q_iload_n hX d_C_house_59 rfl ?_
      refine q_iload_n hX d_C_house_60 rfl ?_
      obtain ⟨u3, hc4, h⟩ := qbind h
      refine q_cVr hX (c_Houses_changeShrink X.l G hX.ad f _ _ _ hc4) cw_C_238 rfl kc_53 rfl (Nat.le_of_ble_eq_true rfl) rfl (Nat.le_of_ble_eq_true rfl) d_C_house_61 ?_
      exact q_iretW hX h hT d_C_house_64
    · refine q_aload_n hX d_C_house_43 rfl ?_
      refine q_getR hX fl_C_76 kc_0 (rfl : qRF 0 9 = some 53) d_C_house_44 ?_
      refine q_iload_n hX d_C_house_47 rfl ?_
      refine q_iload_n hX d_C_house_48 rfl ?_
      obtain ⟨u5, hc6, h⟩ := qbind h
      refine q_cVr hX (c_Houses_changeRent X.l G hX.ad f _ _ _ hc6) cw_C_235 rfl kc_53 rfl (Nat.le_of_ble_eq_true rfl) rfl (Nat.le_of_ble_eq_true rfl) d_C_house_49 ?_
      refine q_goto hX d_C_house_52 rfl ?_
      exact q_iretW hX h hT d_C_house_64
  · refine q_ldc hX w_383 d_C_house_36 ?_
    exact q_iretW hX h hT d_C_house_38
set_option maxHeartbeats 4000000 in
theorem c_C_house (l : Launch) (G : qG) (hA : qAd G) (f : Nat) (σ : qMem) (x1 : Int32) (x2 : Int32) (x3 : Int32) {u : Int32 × qMem} (h : p_C_house f σ x1 x2 x3 = some u) : qCt l y_C_house prog_1_method_19_code 4 (some .int) 3 G qKS qRF σ [(.ref 0), (.int x1), (.int x2), (.int x3)] (some (.int u.1)) qKS qRF u.2 0 0 := by
  refine qCt.of (lv := [some (.ref 0), some (.int x1), some (.int x2), some (.int x3)]) (by decide) hA (Nat.le_of_ble_eq_true rfl) rfl ?_
  intro X hl _ _ _ hX hT
  subst hl
  unfold p_C_house at h
  refine q_iload_n hX d_C_house_0 rfl ?_
  obtain ⟨u7, hc8, h⟩ := qbind h
  refine q_cSr hX (c_C_noHouse X.l G hX.ad f _ _ hc8) cw_C_232 rfl (Nat.le_of_ble_eq_true rfl) rfl (Nat.le_of_ble_eq_true rfl) d_C_house_1 ?_
  refine q_if_ne hX d_C_house_4 rfl h (fun _ h => ?_) (fun _ h => ?_)
  · refine q_ldc hX w_383 d_C_house_36 ?_
    exact q_iretW hX h hT d_C_house_38
  · refine q_iload_n hX d_C_house_7 rfl ?_
    refine q_iconst hX d_C_house_8 ic_0 ?_
    refine q_iconst hX d_C_house_9 ic_1 ?_
    obtain ⟨u9, hc10, h⟩ := qbind h
    refine q_cSr hX (c_C_outside X.l G hX.ad f _ _ _ _ hc10) cw_C_122 rfl (Nat.le_of_ble_eq_true rfl) rfl (Nat.le_of_ble_eq_true rfl) d_C_house_10 ?_
    refine q_if_ne hX d_C_house_13 rfl h (fun _ h => ?_) (fun _ h => ?_)
    · refine q_ldc hX w_383 d_C_house_36 ?_
      exact q_iretW hX h hT d_C_house_38
    · refine q_iload_n hX d_C_house_16 rfl ?_
      refine q_iconst hX d_C_house_17 ic_0 ?_
      refine q_iload_n hX d_C_house_18 rfl ?_
      refine q_if_ne hX d_C_house_19 rfl h (fun _ h => ?_) (fun _ h => ?_)
      · refine q_bipush hX d_C_house_28 bp_100 ?_
        exact q_mask [true, true, true, true] rfl (t_C_house_b30 hX hT h)
      · refine q_sipush hX d_C_house_22 sp_10000 ?_
        refine q_goto hX d_C_house_25 rfl ?_
        exact q_mask [true, true, true, true] rfl (t_C_house_b30 hX hT h)
set_option maxHeartbeats 4000000 in
theorem c_C_noYear (l : Launch) (G : qG) (hA : qAd G) (f : Nat) (σ : qMem) (x0 : Int32) {u : Int32} (h : p_C_noYear f σ x0 = some u) : qCt l y_C_noYear prog_1_method_45_code 1 (some .boolean) 2 G qKS qRF σ [(.int x0)] (some (.int u)) qKS qRF σ 0 0 := by
  refine qCt.of (lv := [some (.int x0)]) (by decide) hA (Nat.le_of_ble_eq_true rfl) rfl ?_
  intro X hl _ _ _ hX hT
  subst hl
  unfold p_C_noYear at h
  refine q_iload_n hX d_C_noYear_0 rfl ?_
  refine q_iconst hX d_C_noYear_1 ic_0 ?_
  refine q_bipush hX d_C_noYear_2 bp_27 ?_
  obtain ⟨u1, hc2, h⟩ := qbind h
  refine q_cSr hX (c_C_outside X.l G hX.ad f _ _ _ _ hc2) cw_C_122 rfl (Nat.le_of_ble_eq_true rfl) rfl (Nat.le_of_ble_eq_true rfl) d_C_noYear_4 ?_
  exact q_zretR hX rfl h hT d_C_noYear_7
set_option maxHeartbeats 4000000 in
theorem c_Houses_repairsFull (l : Launch) (G : qG) (hA : qAd G) (f : Nat) (σ : qMem) {u : Int32} (h : p_Houses_repairsFull f σ  = some u) : qCt l y_Houses_repairsFull prog_6_method_4_code 1 (some .boolean) 1 G qKS qRF σ [(.ref 53)] (some (.int u)) qKS qRF σ 0 0 := by
  refine qCt.of (lv := [some (.ref 53)]) (by decide) hA (Nat.le_of_ble_eq_true rfl) rfl ?_
  intro X hl _ _ _ hX hT
  subst hl
  unfold p_Houses_repairsFull at h
  refine q_aload_n hX d_Houses_repairsFull_0 rfl ?_
  refine q_getI hX fl_Houses_27 kc_53 d_Houses_repairsFull_1 ?_
  refine q_bipush hX d_Houses_repairsFull_4 bp_20 ?_
  refine q_icmp_lt hX d_Houses_repairsFull_6 rfl h (fun _ h => ?_) (fun _ h => ?_)
  · refine q_iconst hX d_Houses_repairsFull_13 ic_0 ?_
    exact q_zretR hX zn_0 h hT d_Houses_repairsFull_14
  · refine q_iconst hX d_Houses_repairsFull_9 ic_1 ?_
    refine q_goto hX d_Houses_repairsFull_10 rfl ?_
    exact q_zretR hX zn_1 h hT d_Houses_repairsFull_14
set_option maxHeartbeats 4000000 in
theorem c_Houses_addRepair (l : Launch) (G : qG) (hA : qAd G) (f : Nat) (σ : qMem) (x1 : Int32) (x2 : Int32) (x3 : Int32) {u : Int32 × qMem} (h : p_Houses_addRepair f σ x1 x2 x3 = some u) : qCt l y_Houses_addRepair prog_6_method_5_code 4 (some .int) 1 G qKS qRF σ [(.ref 53), (.int x1), (.int x2), (.int x3)] (some (.int u.1)) qKS qRF u.2 0 0 := by
  refine qCt.of (lv := [some (.ref 53), some (.int x1), some (.int x2), some (.int x3)]) (by decide) hA (Nat.le_of_ble_eq_true rfl) rfl ?_
  intro X hl _ _ _ hX hT
  subst hl
  unfold p_Houses_addRepair at h
  refine q_aload_n hX d_Houses_addRepair_0 rfl ?_
  refine q_getR hX fl_Houses_18 kc_53 (rfl : qRF 53 2 = some 56) d_Houses_addRepair_1 ?_
  refine q_aload_n hX d_Houses_addRepair_4 rfl ?_
  refine q_getI hX fl_Houses_27 kc_53 d_Houses_addRepair_5 ?_
  refine q_iload_n hX d_Houses_addRepair_8 rfl ?_
  refine q_iast hX kc_56 qKS_len d_Houses_addRepair_9 h (fun hi1 h => ?_)
  refine q_aload_n hX d_Houses_addRepair_10 rfl ?_
  refine q_getR hX fl_Houses_21 kc_53 (rfl : qRF 53 3 = some 57) d_Houses_addRepair_11 ?_
  refine q_aload_n hX d_Houses_addRepair_14 rfl ?_
  refine q_getI hX fl_Houses_27 kc_53 d_Houses_addRepair_15 ?_
  refine q_iload_n hX d_Houses_addRepair_18 rfl ?_
  refine q_iast hX kc_57 qKS_len d_Houses_addRepair_19 h (fun hi2 h => ?_)
  refine q_aload_n hX d_Houses_addRepair_20 rfl ?_
  refine q_getR hX fl_Houses_24 kc_53 (rfl : qRF 53 4 = some 58) d_Houses_addRepair_21 ?_
  refine q_aload_n hX d_Houses_addRepair_24 rfl ?_
  refine q_getI hX fl_Houses_27 kc_53 d_Houses_addRepair_25 ?_
  refine q_iload_n hX d_Houses_addRepair_28 rfl ?_
  refine q_iast hX kc_58 qKS_len d_Houses_addRepair_29 h (fun hi3 h => ?_)
  refine q_aload_n hX d_Houses_addRepair_30 rfl ?_
  refine q_dup hX rfl d_Houses_addRepair_31 ?_
  refine q_getI hX fl_Houses_27 kc_53 d_Houses_addRepair_32 ?_
  refine q_iconst hX d_Houses_addRepair_35 ic_1 ?_
  refine q_iadd hX d_Houses_addRepair_36 ?_
  refine q_putI hX fl_Houses_27 kc_53 rfl qKS_len d_Houses_addRepair_37 ?_
  refine q_aload_n hX d_Houses_addRepair_40 rfl ?_
  refine q_getI hX fl_Houses_27 kc_53 d_Houses_addRepair_41 ?_
  exact q_iretW hX h hT d_Houses_addRepair_44
set_option maxHeartbeats 4000000 in
theorem c_C_repair (l : Launch) (G : qG) (hA : qAd G) (f : Nat) (σ : qMem) (x1 : Int32) (x2 : Int32) (x3 : Int32) {u : Int32 × qMem} (h : p_C_repair f σ x1 x2 x3 = some u) : qCt l y_C_repair prog_1_method_20_code 4 (some .int) 3 G qKS qRF σ [(.ref 0), (.int x1), (.int x2), (.int x3)] (some (.int u.1)) qKS qRF u.2 0 0 := by
  refine qCt.of (lv := [some (.ref 0), some (.int x1), some (.int x2), some (.int x3)]) (by decide) hA (Nat.le_of_ble_eq_true rfl) rfl ?_
  intro X hl _ _ _ hX hT
  subst hl
  unfold p_C_repair at h
  refine q_iload_n hX d_C_repair_0 rfl ?_
  obtain ⟨u1, hc2, h⟩ := qbind h
  refine q_cSr hX (c_C_noHouse X.l G hX.ad f _ _ hc2) cw_C_232 rfl (Nat.le_of_ble_eq_true rfl) rfl (Nat.le_of_ble_eq_true rfl) d_C_repair_1 ?_
  refine q_if_ne hX d_C_repair_4 rfl h (fun _ h => ?_) (fun _ h => ?_)
  · refine q_ldc hX w_383 d_C_repair_25 ?_
    exact q_iretW hX h hT d_C_repair_27
  · refine q_iload_n hX d_C_repair_7 rfl ?_
    obtain ⟨u3, hc4, h⟩ := qbind h
    refine q_cSr hX (c_C_noYear X.l G hX.ad f _ _ hc4) cw_C_241 rfl (Nat.le_of_ble_eq_true rfl) rfl (Nat.le_of_ble_eq_true rfl) d_C_repair_8 ?_
    refine q_if_ne hX d_C_repair_11 rfl h (fun _ h => ?_) (fun _ h => ?_)
    · refine q_ldc hX w_383 d_C_repair_25 ?_
      exact q_iretW hX h hT d_C_repair_27
    · refine q_iload_n hX d_C_repair_14 rfl ?_
      refine q_iconst hX d_C_repair_15 ic_1 ?_
      refine q_sipush hX d_C_repair_16 sp_10000 ?_
      obtain ⟨u5, hc6, h⟩ := qbind h
      refine q_cSr hX (c_C_outside X.l G hX.ad f _ _ _ _ hc6) cw_C_122 rfl (Nat.le_of_ble_eq_true rfl) rfl (Nat.le_of_ble_eq_true rfl) d_C_repair_19 ?_
      refine q_if_eq hX d_C_repair_22 rfl h (fun _ h => ?_) (fun _ h => ?_)
      · refine q_aload_n hX d_C_repair_28 rfl ?_
        refine q_getR hX fl_C_76 kc_0 (rfl : qRF 0 9 = some 53) d_C_repair_29 ?_
        obtain ⟨u7, hc8, h⟩ := qbind h
        refine q_cVr hX (c_Houses_repairsFull X.l G hX.ad f _  hc8) cw_C_244 rfl kc_53 rfl (Nat.le_of_ble_eq_true rfl) rfl (Nat.le_of_ble_eq_true rfl) d_C_repair_32 ?_
        refine q_if_eq hX d_C_repair_35 rfl h (fun _ h => ?_) (fun _ h => ?_)
        · refine q_aload_n hX d_C_repair_43 rfl ?_
          refine q_getR hX fl_C_76 kc_0 (rfl : qRF 0 9 = some 53) d_C_repair_44 ?_
          refine q_iload_n hX d_C_repair_47 rfl ?_
          refine q_iload_n hX d_C_repair_48 rfl ?_
          refine q_iload_n hX d_C_repair_49 rfl ?_
          obtain ⟨u9, hc10, h⟩ := qbind h
          refine q_cVr hX (c_Houses_addRepair X.l G hX.ad f _ _ _ _ hc10) cw_C_247 rfl kc_53 rfl (Nat.le_of_ble_eq_true rfl) rfl (Nat.le_of_ble_eq_true rfl) d_C_repair_50 ?_
          exact q_iretW hX h hT d_C_repair_53
        · refine q_ldc hX w_609 d_C_repair_38 ?_
          refine q_goto hX d_C_repair_40 rfl ?_
          exact q_iretW hX h hT d_C_repair_53
      · refine q_ldc hX w_383 d_C_repair_25 ?_
        exact q_iretW hX h hT d_C_repair_27
set_option maxHeartbeats 4000000 in
theorem c_Houses_emptiesFull (l : Launch) (G : qG) (hA : qAd G) (f : Nat) (σ : qMem) {u : Int32} (h : p_Houses_emptiesFull f σ  = some u) : qCt l y_Houses_emptiesFull prog_6_method_6_code 1 (some .boolean) 2 G qKS qRF σ [(.ref 53)] (some (.int u)) qKS qRF σ 0 0 := by
  refine qCt.of (lv := [some (.ref 53)]) (by decide) hA (Nat.le_of_ble_eq_true rfl) rfl ?_
  intro X hl _ _ _ hX hT
  subst hl
  unfold p_Houses_emptiesFull at h
  refine q_aload_n hX d_Houses_emptiesFull_0 rfl ?_
  refine q_getR hX fl_Houses_34 kc_53 (rfl : qRF 53 6 = some 59) d_Houses_emptiesFull_1 ?_
  obtain ⟨u1, hc2, h⟩ := qbind h
  refine q_cVr hX (c_Spans_full_59 X.l G hX.ad f _  hc2) cw_Houses_50 rfl kc_59 rfl (Nat.le_of_ble_eq_true rfl) rfl (Nat.le_of_ble_eq_true rfl) d_Houses_emptiesFull_4 ?_
  exact q_zretR hX rfl h hT d_Houses_emptiesFull_7
set_option maxHeartbeats 4000000 in
theorem c_Houses_addEmpty (l : Launch) (G : qG) (hA : qAd G) (f : Nat) (σ : qMem) (x1 : Int32) (x2 : Int32) (x3 : Int32) {u : Int32 × qMem} (h : p_Houses_addEmpty f σ x1 x2 x3 = some u) : qCt l y_Houses_addEmpty prog_6_method_7_code 4 (some .int) 2 G qKS qRF σ [(.ref 53), (.int x1), (.int x2), (.int x3)] (some (.int u.1)) qKS qRF u.2 0 0 := by
  refine qCt.of (lv := [some (.ref 53), some (.int x1), some (.int x2), some (.int x3)]) (by decide) hA (Nat.le_of_ble_eq_true rfl) rfl ?_
  intro X hl _ _ _ hX hT
  subst hl
  unfold p_Houses_addEmpty at h
  refine q_aload_n hX d_Houses_addEmpty_0 rfl ?_
  refine q_getR hX fl_Houses_34 kc_53 (rfl : qRF 53 6 = some 59) d_Houses_addEmpty_1 ?_
  refine q_iload_n hX d_Houses_addEmpty_4 rfl ?_
  refine q_iload_n hX d_Houses_addEmpty_5 rfl ?_
  refine q_iload_n hX d_Houses_addEmpty_6 rfl ?_
  obtain ⟨u1, hc2, h⟩ := qbind h
  refine q_cVr hX (c_Spans_add_59 X.l G hX.ad f _ _ _ _ hc2) cw_Houses_54 rfl kc_59 rfl (Nat.le_of_ble_eq_true rfl) rfl (Nat.le_of_ble_eq_true rfl) d_Houses_addEmpty_7 ?_
  exact q_iretW hX h hT d_Houses_addEmpty_10
set_option maxHeartbeats 4000000 in
theorem c_C_empty (l : Launch) (G : qG) (hA : qAd G) (f : Nat) (σ : qMem) (x1 : Int32) (x2 : Int32) (x3 : Int32) {u : Int32 × qMem} (h : p_C_empty f σ x1 x2 x3 = some u) : qCt l y_C_empty prog_1_method_21_code 4 (some .int) 4 G qKS qRF σ [(.ref 0), (.int x1), (.int x2), (.int x3)] (some (.int u.1)) qKS qRF u.2 0 0 := by
  refine qCt.of (lv := [some (.ref 0), some (.int x1), some (.int x2), some (.int x3)]) (by decide) hA (Nat.le_of_ble_eq_true rfl) rfl ?_
  intro X hl _ _ _ hX hT
  subst hl
  unfold p_C_empty at h
  refine q_iload_n hX d_C_empty_0 rfl ?_
  obtain ⟨u1, hc2, h⟩ := qbind h
  refine q_cSr hX (c_C_noHouse X.l G hX.ad f _ _ hc2) cw_C_232 rfl (Nat.le_of_ble_eq_true rfl) rfl (Nat.le_of_ble_eq_true rfl) d_C_empty_1 ?_
  refine q_if_ne hX d_C_empty_4 rfl h (fun _ h => ?_) (fun _ h => ?_)
  · refine q_ldc hX w_383 d_C_empty_15 ?_
    exact q_iretW hX h hT d_C_empty_17
  · refine q_iload_n hX d_C_empty_7 rfl ?_
    refine q_iload_n hX d_C_empty_8 rfl ?_
    obtain ⟨u3, hc4, h⟩ := qbind h
    refine q_cSr hX (c_C_noSpan X.l G hX.ad f _ _ _ hc4) cw_C_202 rfl (Nat.le_of_ble_eq_true rfl) rfl (Nat.le_of_ble_eq_true rfl) d_C_empty_9 ?_
    refine q_if_eq hX d_C_empty_12 rfl h (fun _ h => ?_) (fun _ h => ?_)
    · refine q_aload_n hX d_C_empty_18 rfl ?_
      refine q_getR hX fl_C_76 kc_0 (rfl : qRF 0 9 = some 53) d_C_empty_19 ?_
      obtain ⟨u5, hc6, h⟩ := qbind h
      refine q_cVr hX (c_Houses_emptiesFull X.l G hX.ad f _  hc6) cw_C_250 rfl kc_53 rfl (Nat.le_of_ble_eq_true rfl) rfl (Nat.le_of_ble_eq_true rfl) d_C_empty_22 ?_
      refine q_if_eq hX d_C_empty_25 rfl h (fun _ h => ?_) (fun _ h => ?_)
      · refine q_aload_n hX d_C_empty_33 rfl ?_
        refine q_getR hX fl_C_76 kc_0 (rfl : qRF 0 9 = some 53) d_C_empty_34 ?_
        refine q_iload_n hX d_C_empty_37 rfl ?_
        refine q_iload_n hX d_C_empty_38 rfl ?_
        refine q_iload_n hX d_C_empty_39 rfl ?_
        obtain ⟨u7, hc8, h⟩ := qbind h
        refine q_cVr hX (c_Houses_addEmpty X.l G hX.ad f _ _ _ _ hc8) cw_C_253 rfl kc_53 rfl (Nat.le_of_ble_eq_true rfl) rfl (Nat.le_of_ble_eq_true rfl) d_C_empty_40 ?_
        exact q_iretW hX h hT d_C_empty_43
      · refine q_ldc hX w_609 d_C_empty_28 ?_
        refine q_goto hX d_C_empty_30 rfl ?_
        exact q_iretW hX h hT d_C_empty_43
    · refine q_ldc hX w_383 d_C_empty_15 ?_
      exact q_iretW hX h hT d_C_empty_17
set_option maxHeartbeats 4000000 in
theorem t_Spans_nextSpan_59_lb6 {G : qG} {X : qX} (hX : qOk G X "ChantryRolls$Spans" prog_12_method_6_code 5 (some .int) 1) {u : Int32} {f : Nat} {σ : qMem} {x1 : Int32} {x2 : Int32} (hT : qTg G X 0 0 qKS qRF σ (some (.int u))) {k6 : Int32 → Int32 → Option (Int32)} (hk6 : ∀ (x3 : Int32) (x4 : Int32), k6 x3 x4 = some u → qV G X 0 0 qKS qRF σ 6 [some (.ref 59), some (.int x1), some (.int x2), some (.int x3), some (.int x4)] []) {x3 : Int32} {x4 : Int32} (h : p_Spans_nextSpan_59_l6 f  σ x1 x2  k6 x3 x4 = some u) : qV G X 0 0 qKS qRF σ 6 [some (.ref 59), some (.int x1), some (.int x2), some (.int x3), some (.int x4)] [] := by
  unfold p_Spans_nextSpan_59_l6 at h
  refine q_iload hX d_Spans_nextSpan_6 rfl ?_
  refine q_aload_n hX d_Spans_nextSpan_8 rfl ?_
  refine q_getI hX fl_Spans_21 kc_59 d_Spans_nextSpan_9 ?_
  refine q_icmp_ge hX d_Spans_nextSpan_12 rfl h (fun _ h => ?_) (fun _ h => ?_)
  · refine q_iload_n hX d_Spans_nextSpan_68 rfl ?_
    exact q_iretR hX h hT d_Spans_nextSpan_69
  · refine q_aload_n hX d_Spans_nextSpan_15 rfl ?_
    refine q_getR hX fl_Spans_11 kc_59 (rfl : qRF 59 0 = some 60) d_Spans_nextSpan_16 ?_
    refine q_iload hX d_Spans_nextSpan_19 rfl ?_
    refine q_iald hX kc_60 d_Spans_nextSpan_21 h (fun hi1 h => ?_)
    refine q_iload_n hX d_Spans_nextSpan_22 rfl ?_
    refine q_icmp_ne hX d_Spans_nextSpan_23 rfl h (fun _ h => ?_) (fun _ h => ?_)
    · refine q_iinc hX d_Spans_nextSpan_62 rfl (ii_1 _) (by decide) rfl rfl ?_
      refine q_goto hX d_Spans_nextSpan_65 rfl ?_
      exact q_mask [true, true, true, true, true] rfl (hk6 _ _ h)
    · refine q_aload_n hX d_Spans_nextSpan_26 rfl ?_
      refine q_getR hX fl_Spans_18 kc_59 (rfl : qRF 59 2 = some 62) d_Spans_nextSpan_27 ?_
      refine q_iload hX d_Spans_nextSpan_30 rfl ?_
      refine q_iald hX kc_62 d_Spans_nextSpan_32 h (fun hi2 h => ?_)
      refine q_iload_n hX d_Spans_nextSpan_33 rfl ?_
      refine q_icmp_lt hX d_Spans_nextSpan_34 rfl h (fun _ h => ?_) (fun _ h => ?_)
      · refine q_iinc hX d_Spans_nextSpan_62 rfl (ii_1 _) (by decide) rfl rfl ?_
        refine q_goto hX d_Spans_nextSpan_65 rfl ?_
        exact q_mask [true, true, true, true, true] rfl (hk6 _ _ h)
      · refine q_iload_n hX d_Spans_nextSpan_37 rfl ?_
        refine q_ldc hX w_839 d_Spans_nextSpan_38 ?_
        refine q_icmp_eq hX d_Spans_nextSpan_40 rfl h (fun _ h => ?_) (fun _ h => ?_)
        · refine q_iload hX d_Spans_nextSpan_59 rfl ?_
          refine q_istore_n hX d_Spans_nextSpan_61 (by decide) rfl rfl ?_
          refine q_iinc hX d_Spans_nextSpan_62 rfl (ii_1 _) (by decide) rfl rfl ?_
          refine q_goto hX d_Spans_nextSpan_65 rfl ?_
          exact q_mask [true, true, true, true, true] rfl (hk6 _ _ h)
        · refine q_aload_n hX d_Spans_nextSpan_43 rfl ?_
          refine q_getR hX fl_Spans_15 kc_59 (rfl : qRF 59 1 = some 61) d_Spans_nextSpan_44 ?_
          refine q_iload hX d_Spans_nextSpan_47 rfl ?_
          refine q_iald hX kc_61 d_Spans_nextSpan_49 h (fun hi3 h => ?_)
          refine q_aload_n hX d_Spans_nextSpan_50 rfl ?_
          refine q_getR hX fl_Spans_15 kc_59 (rfl : qRF 59 1 = some 61) d_Spans_nextSpan_51 ?_
          refine q_iload_n hX d_Spans_nextSpan_54 rfl ?_
          refine q_iald hX kc_61 d_Spans_nextSpan_55 h (fun hi4 h => ?_)
          refine q_icmp_ge hX d_Spans_nextSpan_56 rfl h (fun _ h => ?_) (fun _ h => ?_)
          · refine q_iinc hX d_Spans_nextSpan_62 rfl (ii_1 _) (by decide) rfl rfl ?_
            refine q_goto hX d_Spans_nextSpan_65 rfl ?_
            exact q_mask [true, true, true, true, true] rfl (hk6 _ _ h)
          · refine q_iload hX d_Spans_nextSpan_59 rfl ?_
            refine q_istore_n hX d_Spans_nextSpan_61 (by decide) rfl rfl ?_
            refine q_iinc hX d_Spans_nextSpan_62 rfl (ii_1 _) (by decide) rfl rfl ?_
            refine q_goto hX d_Spans_nextSpan_65 rfl ?_
            exact q_mask [true, true, true, true, true] rfl (hk6 _ _ h)
theorem t_Spans_nextSpan_59_l6 {G : qG} {X : qX} (hX : qOk G X "ChantryRolls$Spans" prog_12_method_6_code 5 (some .int) 1) {u : Int32} {f : Nat} {σ : qMem} {x1 : Int32} {x2 : Int32} (hT : qTg G X 0 0 qKS qRF σ (some (.int u))) : ∀ (n : Nat) (x3 : Int32) (x4 : Int32), qfix2 (p_Spans_nextSpan_59_l6 f  σ x1 x2 ) n x3 x4 = some u → qV G X 0 0 qKS qRF σ 6 [some (.ref 59), some (.int x1), some (.int x2), some (.int x3), some (.int x4)] [] :=
  qfix2_ind (fun k hk _ _ h => t_Spans_nextSpan_59_lb6 hX   hT  hk h)
set_option maxHeartbeats 4000000 in
theorem c_Spans_nextSpan_59 (l : Launch) (G : qG) (hA : qAd G) (f : Nat) (σ : qMem) (x1 : Int32) (x2 : Int32) {u : Int32} (h : p_Spans_nextSpan_59 f σ x1 x2 = some u) : qCt l y_Spans_nextSpan prog_12_method_6_code 5 (some .int) 1 G qKS qRF σ [(.ref 59), (.int x1), (.int x2)] (some (.int u)) qKS qRF σ 0 0 := by
  refine qCt.of (lv := [some (.ref 59), some (.int x1), some (.int x2), none, none]) (by decide) hA (Nat.le_of_ble_eq_true rfl) rfl ?_
  intro X hl _ _ _ hX hT
  subst hl
  unfold p_Spans_nextSpan_59 at h
  refine q_ldc hX w_839 d_Spans_nextSpan_0 ?_
  refine q_istore_n hX d_Spans_nextSpan_2 (by decide) rfl rfl ?_
  refine q_iconst hX d_Spans_nextSpan_3 ic_0 ?_
  refine q_istore hX d_Spans_nextSpan_4 (by decide) rfl rfl ?_
  exact q_mask [true, true, true, true, true] rfl (t_Spans_nextSpan_59_l6 hX hT f _ _ h)
set_option maxHeartbeats 4000000 in
theorem t_Spans_daysWithin_59_lb9 {G : qG} {X : qX} (hX : qOk G X "ChantryRolls$Spans" prog_12_method_5_code 9 (some .int) 2) {u : Int32} {f : Nat} {σ : qMem} {x1 : Int32} {x3 : Int32} (hT : qTg G X 0 0 qKS qRF σ (some (.int u))) {k9 : Int32 → Int32 → Int32 → Option (Int32)} (hk9 : ∀ (x4 : Int32) (x5 : Int32) (x6 : Int32), k9 x4 x5 x6 = some u → qV G X 0 0 qKS qRF σ 9 [some (.ref 59), some (.int x1), none, some (.int x3), some (.int x4), some (.int x5), some (.int x6), none, none] []) {x4 : Int32} {x5 : Int32} {x6 : Int32} (h : p_Spans_daysWithin_59_l9 f  σ x1 x3  k9 x4 x5 x6 = some u) : qV G X 0 0 qKS qRF σ 9 [some (.ref 59), some (.int x1), none, some (.int x3), some (.int x4), some (.int x5), some (.int x6), none, none] [] := by
  unfold p_Spans_daysWithin_59_l9 at h
  refine q_iload hX d_Spans_daysWithin_9 rfl ?_
  refine q_aload_n hX d_Spans_daysWithin_11 rfl ?_
  refine q_getI hX fl_Spans_21 kc_59 d_Spans_daysWithin_12 ?_
  refine q_icmp_ge hX d_Spans_daysWithin_15 rfl h (fun _ h => ?_) (fun _ h => ?_)
  · refine q_iload hX d_Spans_daysWithin_101 rfl ?_
    exact q_iretR hX h hT d_Spans_daysWithin_103
  · refine q_iload hX d_Spans_daysWithin_18 rfl ?_
    refine q_iload_n hX d_Spans_daysWithin_20 rfl ?_
    refine q_icmp_gt hX d_Spans_daysWithin_21 rfl h (fun _ h => ?_) (fun _ h => ?_)
    · refine q_iload hX d_Spans_daysWithin_101 rfl ?_
      exact q_iretR hX h hT d_Spans_daysWithin_103
    · refine q_aload_n hX d_Spans_daysWithin_24 rfl ?_
      refine q_iload_n hX d_Spans_daysWithin_25 rfl ?_
      refine q_iload hX d_Spans_daysWithin_26 rfl ?_
      obtain ⟨u1, hc2, h⟩ := qbind h
      refine q_cVr hX (c_Spans_nextSpan_59 X.l G hX.ad f _ _ _ hc2) cw_Spans_25 rfl kc_59 rfl (Nat.le_of_ble_eq_true rfl) rfl (Nat.le_of_ble_eq_true rfl) d_Spans_daysWithin_28 ?_
      refine q_istore hX d_Spans_daysWithin_31 (by decide) rfl rfl ?_
      refine q_iload hX d_Spans_daysWithin_33 rfl ?_
      refine q_ldc hX w_839 d_Spans_daysWithin_35 ?_
      refine q_icmp_eq hX d_Spans_daysWithin_37 rfl h (fun _ h => ?_) (fun _ h => ?_)
      · refine q_iload hX d_Spans_daysWithin_101 rfl ?_
        exact q_iretR hX h hT d_Spans_daysWithin_103
      · refine q_aload_n hX d_Spans_daysWithin_40 rfl ?_
        refine q_getR hX fl_Spans_15 kc_59 (rfl : qRF 59 1 = some 61) d_Spans_daysWithin_41 ?_
        refine q_iload hX d_Spans_daysWithin_44 rfl ?_
        refine q_iald hX kc_61 d_Spans_daysWithin_46 h (fun hi3 h => ?_)
        refine q_iload_n hX d_Spans_daysWithin_47 rfl ?_
        refine q_icmp_le hX d_Spans_daysWithin_48 rfl h (fun _ h => ?_) (fun _ h => ?_)
        · refine q_aload_n hX d_Spans_daysWithin_54 rfl ?_
          refine q_getR hX fl_Spans_18 kc_59 (rfl : qRF 59 2 = some 62) d_Spans_daysWithin_55 ?_
          refine q_iload hX d_Spans_daysWithin_58 rfl ?_
          refine q_iald hX kc_62 d_Spans_daysWithin_60 h (fun hi4 h => ?_)
          refine q_iload_n hX d_Spans_daysWithin_61 rfl ?_
          refine q_mmin hX w_840 (by decide) (Nat.le_of_ble_eq_true rfl) d_Spans_daysWithin_62 ?_
          refine q_istore hX d_Spans_daysWithin_65 (by decide) rfl rfl ?_
          refine q_iload hX d_Spans_daysWithin_67 rfl ?_
          refine q_iload hX d_Spans_daysWithin_69 rfl ?_
          refine q_aload_n hX d_Spans_daysWithin_71 rfl ?_
          refine q_getR hX fl_Spans_15 kc_59 (rfl : qRF 59 1 = some 61) d_Spans_daysWithin_72 ?_
          refine q_iload hX d_Spans_daysWithin_75 rfl ?_
          refine q_iald hX kc_61 d_Spans_daysWithin_77 h (fun hi5 h => ?_)
          refine q_iload hX d_Spans_daysWithin_78 rfl ?_
          refine q_mmax hX w_841 (by decide) (Nat.le_of_ble_eq_true rfl) d_Spans_daysWithin_80 ?_
          refine q_isub hX d_Spans_daysWithin_83 ?_
          refine q_iconst hX d_Spans_daysWithin_84 ic_1 ?_
          refine q_iadd hX d_Spans_daysWithin_85 ?_
          refine q_iadd hX d_Spans_daysWithin_86 ?_
          refine q_istore hX d_Spans_daysWithin_87 (by decide) rfl rfl ?_
          refine q_iload hX d_Spans_daysWithin_89 rfl ?_
          refine q_iconst hX d_Spans_daysWithin_91 ic_1 ?_
          refine q_iadd hX d_Spans_daysWithin_92 ?_
          refine q_istore hX d_Spans_daysWithin_93 (by decide) rfl rfl ?_
          refine q_iinc hX d_Spans_daysWithin_95 rfl (ii_1 _) (by decide) rfl rfl ?_
          refine q_goto hX d_Spans_daysWithin_98 rfl ?_
          exact q_mask [true, true, false, true, true, true, true, false, false] rfl (hk9 _ _ _ h)
        · refine q_goto hX d_Spans_daysWithin_51 rfl ?_
          refine q_iload hX d_Spans_daysWithin_101 rfl ?_
          exact q_iretR hX h hT d_Spans_daysWithin_103
theorem t_Spans_daysWithin_59_l9 {G : qG} {X : qX} (hX : qOk G X "ChantryRolls$Spans" prog_12_method_5_code 9 (some .int) 2) {u : Int32} {f : Nat} {σ : qMem} {x1 : Int32} {x3 : Int32} (hT : qTg G X 0 0 qKS qRF σ (some (.int u))) : ∀ (n : Nat) (x4 : Int32) (x5 : Int32) (x6 : Int32), qfix3 (p_Spans_daysWithin_59_l9 f  σ x1 x3 ) n x4 x5 x6 = some u → qV G X 0 0 qKS qRF σ 9 [some (.ref 59), some (.int x1), none, some (.int x3), some (.int x4), some (.int x5), some (.int x6), none, none] [] :=
  qfix3_ind (fun k hk _ _ _ h => t_Spans_daysWithin_59_lb9 hX   hT  hk h)
set_option maxHeartbeats 4000000 in
theorem c_Spans_daysWithin_59 (l : Launch) (G : qG) (hA : qAd G) (f : Nat) (σ : qMem) (x1 : Int32) (x2 : Int32) (x3 : Int32) {u : Int32} (h : p_Spans_daysWithin_59 f σ x1 x2 x3 = some u) : qCt l y_Spans_daysWithin prog_12_method_5_code 9 (some .int) 2 G qKS qRF σ [(.ref 59), (.int x1), (.int x2), (.int x3)] (some (.int u)) qKS qRF σ 0 0 := by
  refine qCt.of (lv := [some (.ref 59), some (.int x1), some (.int x2), some (.int x3), none, none, none, none, none]) (by decide) hA (Nat.le_of_ble_eq_true rfl) rfl ?_
  intro X hl _ _ _ hX hT
  subst hl
  unfold p_Spans_daysWithin_59 at h
  refine q_iconst hX d_Spans_daysWithin_0 ic_0 ?_
  refine q_istore hX d_Spans_daysWithin_1 (by decide) rfl rfl ?_
  refine q_iload_n hX d_Spans_daysWithin_3 rfl ?_
  refine q_istore hX d_Spans_daysWithin_4 (by decide) rfl rfl ?_
  refine q_iconst hX d_Spans_daysWithin_6 ic_0 ?_
  refine q_istore hX d_Spans_daysWithin_7 (by decide) rfl rfl ?_
  exact q_mask [true, true, false, true, true, true, true, false, false] rfl (t_Spans_daysWithin_59_l9 hX hT f _ _ _ h)
set_option maxHeartbeats 4000000 in
theorem t_Houses_repairsIn_lb5 {G : qG} {X : qX} (hX : qOk G X "ChantryRolls$Houses" prog_6_method_9_code 5 (some .int) 1) {u : Int32} {f : Nat} {σ : qMem} {x1 : Int32} {x2 : Int32} (hT : qTg G X 0 0 qKS qRF σ (some (.int u))) {k5 : Int32 → Int32 → Option (Int32)} (hk5 : ∀ (x3 : Int32) (x4 : Int32), k5 x3 x4 = some u → qV G X 0 0 qKS qRF σ 5 [some (.ref 53), some (.int x1), some (.int x2), some (.int x3), some (.int x4)] []) {x3 : Int32} {x4 : Int32} (h : p_Houses_repairsIn_l5 f  σ x1 x2  k5 x3 x4 = some u) : qV G X 0 0 qKS qRF σ 5 [some (.ref 53), some (.int x1), some (.int x2), some (.int x3), some (.int x4)] [] := by
  unfold p_Houses_repairsIn_l5 at h
  refine q_iload hX d_Houses_repairsIn_5 rfl ?_
  refine q_aload_n hX d_Houses_repairsIn_7 rfl ?_
  refine q_getI hX fl_Houses_27 kc_53 d_Houses_repairsIn_8 ?_
  refine q_icmp_ge hX d_Houses_repairsIn_11 rfl h (fun _ h => ?_) (fun _ h => ?_)
  · refine q_iload_n hX d_Houses_repairsIn_52 rfl ?_
    exact q_iretR hX h hT d_Houses_repairsIn_53
  · refine q_aload_n hX d_Houses_repairsIn_14 rfl ?_
    refine q_getR hX fl_Houses_18 kc_53 (rfl : qRF 53 2 = some 56) d_Houses_repairsIn_15 ?_
    refine q_iload hX d_Houses_repairsIn_18 rfl ?_
    refine q_iald hX kc_56 d_Houses_repairsIn_20 h (fun hi1 h => ?_)
    refine q_iload_n hX d_Houses_repairsIn_21 rfl ?_
    refine q_icmp_ne hX d_Houses_repairsIn_22 rfl h (fun _ h => ?_) (fun _ h => ?_)
    · refine q_iinc hX d_Houses_repairsIn_46 rfl (ii_1 _) (by decide) rfl rfl ?_
      refine q_goto hX d_Houses_repairsIn_49 rfl ?_
      exact q_mask [true, true, true, true, true] rfl (hk5 _ _ h)
    · refine q_aload_n hX d_Houses_repairsIn_25 rfl ?_
      refine q_getR hX fl_Houses_21 kc_53 (rfl : qRF 53 3 = some 57) d_Houses_repairsIn_26 ?_
      refine q_iload hX d_Houses_repairsIn_29 rfl ?_
      refine q_iald hX kc_57 d_Houses_repairsIn_31 h (fun hi2 h => ?_)
      refine q_iload_n hX d_Houses_repairsIn_32 rfl ?_
      refine q_icmp_ne hX d_Houses_repairsIn_33 rfl h (fun _ h => ?_) (fun _ h => ?_)
      · refine q_iinc hX d_Houses_repairsIn_46 rfl (ii_1 _) (by decide) rfl rfl ?_
        refine q_goto hX d_Houses_repairsIn_49 rfl ?_
        exact q_mask [true, true, true, true, true] rfl (hk5 _ _ h)
      · refine q_iload_n hX d_Houses_repairsIn_36 rfl ?_
        refine q_aload_n hX d_Houses_repairsIn_37 rfl ?_
        refine q_getR hX fl_Houses_24 kc_53 (rfl : qRF 53 4 = some 58) d_Houses_repairsIn_38 ?_
        refine q_iload hX d_Houses_repairsIn_41 rfl ?_
        refine q_iald hX kc_58 d_Houses_repairsIn_43 h (fun hi3 h => ?_)
        refine q_iadd hX d_Houses_repairsIn_44 ?_
        refine q_istore_n hX d_Houses_repairsIn_45 (by decide) rfl rfl ?_
        refine q_iinc hX d_Houses_repairsIn_46 rfl (ii_1 _) (by decide) rfl rfl ?_
        refine q_goto hX d_Houses_repairsIn_49 rfl ?_
        exact q_mask [true, true, true, true, true] rfl (hk5 _ _ h)
theorem t_Houses_repairsIn_l5 {G : qG} {X : qX} (hX : qOk G X "ChantryRolls$Houses" prog_6_method_9_code 5 (some .int) 1) {u : Int32} {f : Nat} {σ : qMem} {x1 : Int32} {x2 : Int32} (hT : qTg G X 0 0 qKS qRF σ (some (.int u))) : ∀ (n : Nat) (x3 : Int32) (x4 : Int32), qfix2 (p_Houses_repairsIn_l5 f  σ x1 x2 ) n x3 x4 = some u → qV G X 0 0 qKS qRF σ 5 [some (.ref 53), some (.int x1), some (.int x2), some (.int x3), some (.int x4)] [] :=
  qfix2_ind (fun k hk _ _ h => t_Houses_repairsIn_lb5 hX   hT  hk h)
set_option maxHeartbeats 4000000 in
theorem c_Houses_repairsIn (l : Launch) (G : qG) (hA : qAd G) (f : Nat) (σ : qMem) (x1 : Int32) (x2 : Int32) {u : Int32} (h : p_Houses_repairsIn f σ x1 x2 = some u) : qCt l y_Houses_repairsIn prog_6_method_9_code 5 (some .int) 1 G qKS qRF σ [(.ref 53), (.int x1), (.int x2)] (some (.int u)) qKS qRF σ 0 0 := by
  refine qCt.of (lv := [some (.ref 53), some (.int x1), some (.int x2), none, none]) (by decide) hA (Nat.le_of_ble_eq_true rfl) rfl ?_
  intro X hl _ _ _ hX hT
  subst hl
  unfold p_Houses_repairsIn at h
  refine q_iconst hX d_Houses_repairsIn_0 ic_0 ?_
  refine q_istore_n hX d_Houses_repairsIn_1 (by decide) rfl rfl ?_
  refine q_iconst hX d_Houses_repairsIn_2 ic_0 ?_
  refine q_istore hX d_Houses_repairsIn_3 (by decide) rfl rfl ?_
  exact q_mask [true, true, true, true, true] rfl (t_Houses_repairsIn_l5 hX hT f _ _ h)
set_option maxHeartbeats 4000000 in
theorem t_Houses_rentIn_lb10 {G : qG} {X : qX} (hX : qOk G X "ChantryRolls$Houses" prog_6_method_8_code 6 (some .int) 3) {u : Int32} {f : Nat} {σ : qMem} {x1 : Int32} {x2 : Int32} (hT : qTg G X 0 0 qKS qRF σ (some (.int u))) {k10 : Int32 → Int32 → Option (Int32)} (hk10 : ∀ (x3 : Int32) (x4 : Int32), k10 x3 x4 = some u → qV G X 0 0 qKS qRF σ 10 [some (.ref 53), some (.int x1), some (.int x2), some (.int x3), some (.int x4), none] []) {x3 : Int32} {x4 : Int32} (h : p_Houses_rentIn_l10 f  σ x1 x2  k10 x3 x4 = some u) : qV G X 0 0 qKS qRF σ 10 [some (.ref 53), some (.int x1), some (.int x2), some (.int x3), some (.int x4), none] [] := by
  unfold p_Houses_rentIn_l10 at h
  refine q_iload hX d_Houses_rentIn_10 rfl ?_
  refine q_iload_n hX d_Houses_rentIn_12 rfl ?_
  refine q_icmp_ge hX d_Houses_rentIn_13 rfl h (fun _ h => ?_) (fun _ h => ?_)
  · refine q_iload_n hX d_Houses_rentIn_36 rfl ?_
    refine q_sipush hX d_Houses_rentIn_37 sp_360 ?_
    refine q_imul hX d_Houses_rentIn_40 ?_
    refine q_istore hX d_Houses_rentIn_41 (by decide) rfl rfl ?_
    refine q_aload_n hX d_Houses_rentIn_43 rfl ?_
    refine q_getR hX fl_Houses_34 kc_53 (rfl : qRF 53 6 = some 59) d_Houses_rentIn_44 ?_
    refine q_iload_n hX d_Houses_rentIn_47 rfl ?_
    refine q_iload hX d_Houses_rentIn_48 rfl ?_
    refine q_iload hX d_Houses_rentIn_50 rfl ?_
    refine q_sipush hX d_Houses_rentIn_52 sp_360 ?_
    refine q_iadd hX d_Houses_rentIn_55 ?_
    refine q_iconst hX d_Houses_rentIn_56 ic_1 ?_
    refine q_isub hX d_Houses_rentIn_57 ?_
    obtain ⟨u1, hc2, h⟩ := qbind h
    refine q_cVr hX (c_Spans_daysWithin_59 X.l G hX.ad f _ _ _ _ hc2) cw_Houses_58 rfl kc_59 rfl (Nat.le_of_ble_eq_true rfl) rfl (Nat.le_of_ble_eq_true rfl) d_Houses_rentIn_58 ?_
    refine q_istore hX d_Houses_rentIn_61 (by decide) rfl rfl ?_
    refine q_iconst hX d_Houses_rentIn_63 ic_0 ?_
    refine q_iload_n hX d_Houses_rentIn_64 rfl ?_
    refine q_aload_n hX d_Houses_rentIn_65 rfl ?_
    refine q_iload_n hX d_Houses_rentIn_66 rfl ?_
    refine q_iload_n hX d_Houses_rentIn_67 rfl ?_
    obtain ⟨u3, hc4, h⟩ := qbind h
    refine q_cVr hX (c_Houses_repairsIn X.l G hX.ad f _ _ _ hc4) cw_Houses_61 rfl kc_53 rfl (Nat.le_of_ble_eq_true rfl) rfl (Nat.le_of_ble_eq_true rfl) d_Houses_rentIn_68 ?_
    refine q_isub hX d_Houses_rentIn_71 ?_
    refine q_iload_n hX d_Houses_rentIn_72 rfl ?_
    refine q_iload hX d_Houses_rentIn_73 rfl ?_
    refine q_imul hX d_Houses_rentIn_75 ?_
    refine q_sipush hX d_Houses_rentIn_76 sp_360 ?_
    refine q_idiv hX d_Houses_rentIn_79 (by decide) ?_
    refine q_isub hX d_Houses_rentIn_80 ?_
    refine q_mmax hX w_846 (by decide) (Nat.le_of_ble_eq_true rfl) d_Houses_rentIn_81 ?_
    exact q_iretR hX h hT d_Houses_rentIn_84
  · refine q_iload_n hX d_Houses_rentIn_16 rfl ?_
    refine q_iload_n hX d_Houses_rentIn_17 rfl ?_
    refine q_aload_n hX d_Houses_rentIn_18 rfl ?_
    refine q_getR hX fl_Houses_15 kc_53 (rfl : qRF 53 1 = some 55) d_Houses_rentIn_19 ?_
    refine q_iload_n hX d_Houses_rentIn_22 rfl ?_
    refine q_iald hX kc_55 d_Houses_rentIn_23 h (fun hi5 h => ?_)
    refine q_imul hX d_Houses_rentIn_24 ?_
    refine q_bipush hX d_Houses_rentIn_25 bp_100 ?_
    refine q_idiv hX d_Houses_rentIn_27 (by decide) ?_
    refine q_isub hX d_Houses_rentIn_28 ?_
    refine q_istore_n hX d_Houses_rentIn_29 (by decide) rfl rfl ?_
    refine q_iinc hX d_Houses_rentIn_30 rfl (ii_1 _) (by decide) rfl rfl ?_
    refine q_goto hX d_Houses_rentIn_33 rfl ?_
    exact q_mask [true, true, true, true, true, false] rfl (hk10 _ _ h)
theorem t_Houses_rentIn_l10 {G : qG} {X : qX} (hX : qOk G X "ChantryRolls$Houses" prog_6_method_8_code 6 (some .int) 3) {u : Int32} {f : Nat} {σ : qMem} {x1 : Int32} {x2 : Int32} (hT : qTg G X 0 0 qKS qRF σ (some (.int u))) : ∀ (n : Nat) (x3 : Int32) (x4 : Int32), qfix2 (p_Houses_rentIn_l10 f  σ x1 x2 ) n x3 x4 = some u → qV G X 0 0 qKS qRF σ 10 [some (.ref 53), some (.int x1), some (.int x2), some (.int x3), some (.int x4), none] [] :=
  qfix2_ind (fun k hk _ _ h => t_Houses_rentIn_lb10 hX   hT  hk h)
set_option maxHeartbeats 4000000 in
theorem c_Houses_rentIn (l : Launch) (G : qG) (hA : qAd G) (f : Nat) (σ : qMem) (x1 : Int32) (x2 : Int32) {u : Int32} (h : p_Houses_rentIn f σ x1 x2 = some u) : qCt l y_Houses_rentIn prog_6_method_8_code 6 (some .int) 3 G qKS qRF σ [(.ref 53), (.int x1), (.int x2)] (some (.int u)) qKS qRF σ 0 0 := by
  refine qCt.of (lv := [some (.ref 53), some (.int x1), some (.int x2), none, none, none]) (by decide) hA (Nat.le_of_ble_eq_true rfl) rfl ?_
  intro X hl _ _ _ hX hT
  subst hl
  unfold p_Houses_rentIn at h
  refine q_aload_n hX d_Houses_rentIn_0 rfl ?_
  refine q_getR hX fl_Houses_9 kc_53 (rfl : qRF 53 0 = some 54) d_Houses_rentIn_1 ?_
  refine q_iload_n hX d_Houses_rentIn_4 rfl ?_
  refine q_iald hX kc_54 d_Houses_rentIn_5 h (fun hi6 h => ?_)
  refine q_istore_n hX d_Houses_rentIn_6 (by decide) rfl rfl ?_
  refine q_iconst hX d_Houses_rentIn_7 ic_0 ?_
  refine q_istore hX d_Houses_rentIn_8 (by decide) rfl rfl ?_
  exact q_mask [true, true, true, true, true, false] rfl (t_Houses_rentIn_l10 hX hT f _ _ h)
set_option maxHeartbeats 4000000 in
theorem c_C_rent (l : Launch) (G : qG) (hA : qAd G) (f : Nat) (σ : qMem) (x1 : Int32) (x2 : Int32) {u : Int32} (h : p_C_rent f σ x1 x2 = some u) : qCt l y_C_rent prog_1_method_22_code 3 (some .int) 4 G qKS qRF σ [(.ref 0), (.int x1), (.int x2)] (some (.int u)) qKS qRF σ 0 0 := by
  refine qCt.of (lv := [some (.ref 0), some (.int x1), some (.int x2)]) (by decide) hA (Nat.le_of_ble_eq_true rfl) rfl ?_
  intro X hl _ _ _ hX hT
  subst hl
  unfold p_C_rent at h
  refine q_iload_n hX d_C_rent_0 rfl ?_
  obtain ⟨u1, hc2, h⟩ := qbind h
  refine q_cSr hX (c_C_noHouse X.l G hX.ad f _ _ hc2) cw_C_232 rfl (Nat.le_of_ble_eq_true rfl) rfl (Nat.le_of_ble_eq_true rfl) d_C_rent_1 ?_
  refine q_if_ne hX d_C_rent_4 rfl h (fun _ h => ?_) (fun _ h => ?_)
  · refine q_ldc hX w_383 d_C_rent_14 ?_
    exact q_iretR hX h hT d_C_rent_16
  · refine q_iload_n hX d_C_rent_7 rfl ?_
    obtain ⟨u3, hc4, h⟩ := qbind h
    refine q_cSr hX (c_C_noYear X.l G hX.ad f _ _ hc4) cw_C_241 rfl (Nat.le_of_ble_eq_true rfl) rfl (Nat.le_of_ble_eq_true rfl) d_C_rent_8 ?_
    refine q_if_eq hX d_C_rent_11 rfl h (fun _ h => ?_) (fun _ h => ?_)
    · refine q_aload_n hX d_C_rent_17 rfl ?_
      refine q_getR hX fl_C_76 kc_0 (rfl : qRF 0 9 = some 53) d_C_rent_18 ?_
      refine q_iload_n hX d_C_rent_21 rfl ?_
      refine q_iload_n hX d_C_rent_22 rfl ?_
      obtain ⟨u5, hc6, h⟩ := qbind h
      refine q_cVr hX (c_Houses_rentIn X.l G hX.ad f _ _ _ hc6) cw_C_256 rfl kc_53 rfl (Nat.le_of_ble_eq_true rfl) rfl (Nat.le_of_ble_eq_true rfl) d_C_rent_23 ?_
      exact q_iretR hX h hT d_C_rent_26
    · refine q_ldc hX w_383 d_C_rent_14 ?_
      exact q_iretR hX h hT d_C_rent_16
set_option maxHeartbeats 4000000 in
theorem c_C_ownShare (l : Launch) (G : qG) (hA : qAd G) (f : Nat) (σ : qMem) (x1 : Int32) (x2 : Int32) {u : Int32} (h : p_C_ownShare f σ x1 x2 = some u) : qCt l y_C_ownShare prog_1_method_52_code 3 (some .int) 4 G qKS qRF σ [(.ref 0), (.int x1), (.int x2)] (some (.int u)) qKS qRF σ 0 0 := by
  refine qCt.of (lv := [some (.ref 0), some (.int x1), some (.int x2)]) (by decide) hA (Nat.le_of_ble_eq_true rfl) rfl ?_
  intro X hl _ _ _ hX hT
  subst hl
  unfold p_C_ownShare at h
  refine q_aload_n hX d_C_ownShare_0 rfl ?_
  refine q_getR hX fl_C_76 kc_0 (rfl : qRF 0 9 = some 53) d_C_ownShare_1 ?_
  refine q_aload_n hX d_C_ownShare_4 rfl ?_
  refine q_getR hX fl_C_19 kc_0 (rfl : qRF 0 1 = some 13) d_C_ownShare_5 ?_
  refine q_iload_n hX d_C_ownShare_8 rfl ?_
  refine q_bipush hX d_C_ownShare_9 bp_7 ?_
  obtain ⟨u1, hc2, h⟩ := qbind h
  refine q_cVr hX (c_Promises_of X.l G hX.ad f _ _ _ hc2) cw_C_174 rfl kc_13 rfl (Nat.le_of_ble_eq_true rfl) rfl (Nat.le_of_ble_eq_true rfl) d_C_ownShare_11 ?_
  refine q_iload_n hX d_C_ownShare_14 rfl ?_
  obtain ⟨u3, hc4, h⟩ := qbind h
  refine q_cVr hX (c_Houses_rentIn X.l G hX.ad f _ _ _ hc4) cw_C_256 rfl kc_53 rfl (Nat.le_of_ble_eq_true rfl) rfl (Nat.le_of_ble_eq_true rfl) d_C_ownShare_15 ?_
  refine q_aload_n hX d_C_ownShare_18 rfl ?_
  refine q_getR hX fl_C_19 kc_0 (rfl : qRF 0 1 = some 13) d_C_ownShare_19 ?_
  refine q_iload_n hX d_C_ownShare_22 rfl ?_
  refine q_bipush hX d_C_ownShare_23 bp_8 ?_
  obtain ⟨u5, hc6, h⟩ := qbind h
  refine q_cVr hX (c_Promises_of X.l G hX.ad f _ _ _ hc6) cw_C_174 rfl kc_13 rfl (Nat.le_of_ble_eq_true rfl) rfl (Nat.le_of_ble_eq_true rfl) d_C_ownShare_25 ?_
  refine q_imul hX d_C_ownShare_28 ?_
  refine q_bipush hX d_C_ownShare_29 bp_100 ?_
  refine q_idiv hX d_C_ownShare_31 (by decide) ?_
  exact q_iretR hX h hT d_C_ownShare_32
set_option maxHeartbeats 4000000 in
theorem c_C_comesTo (l : Launch) (G : qG) (hA : qAd G) (f : Nat) (σ : qMem) (x1 : Int32) (x2 : Int32) {u : Int32} (h : p_C_comesTo f σ x1 x2 = some u) : qCt l y_C_comesTo prog_1_method_53_code 5 (some .int) 5 G qKS qRF σ [(.ref 0), (.int x1), (.int x2)] (some (.int u)) qKS qRF σ 0 0 := by
  refine qCt.of (lv := [some (.ref 0), some (.int x1), some (.int x2), none, none]) (by decide) hA (Nat.le_of_ble_eq_true rfl) rfl ?_
  intro X hl _ _ _ hX hT
  subst hl
  unfold p_C_comesTo at h
  refine q_aload_n hX d_C_comesTo_0 rfl ?_
  refine q_iload_n hX d_C_comesTo_1 rfl ?_
  refine q_iload_n hX d_C_comesTo_2 rfl ?_
  obtain ⟨u1, hc2, h⟩ := qbind h
  refine q_cVr hX (c_C_ownShare X.l G hX.ad f _ _ _ hc2) cw_C_356 rfl kc_0 rfl (Nat.le_of_ble_eq_true rfl) rfl (Nat.le_of_ble_eq_true rfl) d_C_comesTo_3 ?_
  refine q_istore_n hX d_C_comesTo_6 (by decide) rfl rfl ?_
  refine q_aload_n hX d_C_comesTo_7 rfl ?_
  refine q_getR hX fl_C_69 kc_0 (rfl : qRF 0 8 = some 48) d_C_comesTo_8 ?_
  refine q_iload_n hX d_C_comesTo_11 rfl ?_
  refine q_iload_n hX d_C_comesTo_12 rfl ?_
  refine q_sipush hX d_C_comesTo_13 sp_360 ?_
  refine q_imul hX d_C_comesTo_16 ?_
  obtain ⟨u3, hc4, h⟩ := qbind h
  refine q_cVr hX (c_Joins_otherOf X.l G hX.ad f _ _ _ hc4) cw_C_359 rfl kc_48 rfl (Nat.le_of_ble_eq_true rfl) rfl (Nat.le_of_ble_eq_true rfl) d_C_comesTo_17 ?_
  refine q_istore hX d_C_comesTo_20 (by decide) rfl rfl ?_
  refine q_iload hX d_C_comesTo_22 rfl ?_
  refine q_ldcw hX w_860 d_C_comesTo_24 ?_
  refine q_icmp_ne hX d_C_comesTo_27 rfl h (fun _ h => ?_) (fun _ h => ?_)
  · refine q_iload_n hX d_C_comesTo_34 rfl ?_
    refine q_aload_n hX d_C_comesTo_35 rfl ?_
    refine q_iload hX d_C_comesTo_36 rfl ?_
    refine q_iload_n hX d_C_comesTo_38 rfl ?_
    obtain ⟨u5, hc6, h⟩ := qbind h
    refine q_cVr hX (c_C_ownShare X.l G hX.ad f _ _ _ hc6) cw_C_356 rfl kc_0 rfl (Nat.le_of_ble_eq_true rfl) rfl (Nat.le_of_ble_eq_true rfl) d_C_comesTo_39 ?_
    refine q_iadd hX d_C_comesTo_42 ?_
    exact q_iretR hX h hT d_C_comesTo_43
  · refine q_iload_n hX d_C_comesTo_30 rfl ?_
    refine q_goto hX d_C_comesTo_31 rfl ?_
    exact q_iretR hX h hT d_C_comesTo_43
set_option maxHeartbeats 4000000 in
theorem c_C_feeds (l : Launch) (G : qG) (hA : qAd G) (f : Nat) (σ : qMem) (x1 : Int32) (x2 : Int32) {u : Int32} (h : p_C_feeds f σ x1 x2 = some u) : qCt l y_C_feeds prog_1_method_54_code 3 (some .boolean) 6 G qKS qRF σ [(.ref 0), (.int x1), (.int x2)] (some (.int u)) qKS qRF σ 0 0 := by
  refine qCt.of (lv := [some (.ref 0), some (.int x1), some (.int x2)]) (by decide) hA (Nat.le_of_ble_eq_true rfl) rfl ?_
  intro X hl _ _ _ hX hT
  subst hl
  unfold p_C_feeds at h
  refine q_aload_n hX d_C_feeds_0 rfl ?_
  refine q_iload_n hX d_C_feeds_1 rfl ?_
  refine q_iload_n hX d_C_feeds_2 rfl ?_
  obtain ⟨u1, hc2, h⟩ := qbind h
  refine q_cVr hX (c_C_comesTo X.l G hX.ad f _ _ _ hc2) cw_C_259 rfl kc_0 rfl (Nat.le_of_ble_eq_true rfl) rfl (Nat.le_of_ble_eq_true rfl) d_C_feeds_3 ?_
  refine q_aload_n hX d_C_feeds_6 rfl ?_
  refine q_getR hX fl_C_80 kc_0 (rfl : qRF 0 10 = some 66) d_C_feeds_7 ?_
  refine q_iconst hX d_C_feeds_10 ic_0 ?_
  refine q_iald hX kc_66 d_C_feeds_11 h (fun hi3 h => ?_)
  refine q_icmp_lt hX d_C_feeds_12 rfl h (fun _ h => ?_) (fun _ h => ?_)
  · refine q_iconst hX d_C_feeds_19 ic_0 ?_
    exact q_zretR hX zn_0 h hT d_C_feeds_20
  · refine q_iconst hX d_C_feeds_15 ic_1 ?_
    refine q_goto hX d_C_feeds_16 rfl ?_
    exact q_zretR hX zn_1 h hT d_C_feeds_20
set_option maxHeartbeats 4000000 in
theorem c_C_comes (l : Launch) (G : qG) (hA : qAd G) (f : Nat) (σ : qMem) (x1 : Int32) (x2 : Int32) (x3 : Int32) {u : Int32} (h : p_C_comes f σ x1 x2 x3 = some u) : qCt l y_C_comes prog_1_method_23_code 4 (some .int) 7 G qKS qRF σ [(.ref 0), (.int x1), (.int x2), (.int x3)] (some (.int u)) qKS qRF σ 0 0 := by
  refine qCt.of (lv := [some (.ref 0), some (.int x1), some (.int x2), some (.int x3)]) (by decide) hA (Nat.le_of_ble_eq_true rfl) rfl ?_
  intro X hl _ _ _ hX hT
  subst hl
  unfold p_C_comes at h
  refine q_aload_n hX d_C_comes_0 rfl ?_
  refine q_getR hX fl_C_19 kc_0 (rfl : qRF 0 1 = some 13) d_C_comes_1 ?_
  refine q_iload_n hX d_C_comes_4 rfl ?_
  obtain ⟨u1, hc2, h⟩ := qbind h
  refine q_cVr hX (c_Promises_has X.l G hX.ad f _ _ hc2) cw_C_171 rfl kc_13 rfl (Nat.le_of_ble_eq_true rfl) rfl (Nat.le_of_ble_eq_true rfl) d_C_comes_5 ?_
  refine q_if_eq hX d_C_comes_8 rfl h (fun _ h => ?_) (fun _ h => ?_)
  · refine q_ldc hX w_383 d_C_comes_27 ?_
    exact q_iretR hX h hT d_C_comes_29
  · refine q_iload_n hX d_C_comes_11 rfl ?_
    obtain ⟨u3, hc4, h⟩ := qbind h
    refine q_cSr hX (c_C_noYear X.l G hX.ad f _ _ hc4) cw_C_241 rfl (Nat.le_of_ble_eq_true rfl) rfl (Nat.le_of_ble_eq_true rfl) d_C_comes_12 ?_
    refine q_if_ne hX d_C_comes_15 rfl h (fun _ h => ?_) (fun _ h => ?_)
    · refine q_ldc hX w_383 d_C_comes_27 ?_
      exact q_iretR hX h hT d_C_comes_29
    · refine q_iload_n hX d_C_comes_18 rfl ?_
      refine q_iconst hX d_C_comes_19 ic_0 ?_
      refine q_iconst hX d_C_comes_20 ic_1 ?_
      obtain ⟨u5, hc6, h⟩ := qbind h
      refine q_cSr hX (c_C_outside X.l G hX.ad f _ _ _ _ hc6) cw_C_122 rfl (Nat.le_of_ble_eq_true rfl) rfl (Nat.le_of_ble_eq_true rfl) d_C_comes_21 ?_
      refine q_if_eq hX d_C_comes_24 rfl h (fun _ h => ?_) (fun _ h => ?_)
      · refine q_iload_n hX d_C_comes_30 rfl ?_
        refine q_if_ne hX d_C_comes_31 rfl h (fun _ h => ?_) (fun _ h => ?_)
        · refine q_aload_n hX d_C_comes_41 rfl ?_
          refine q_iload_n hX d_C_comes_42 rfl ?_
          refine q_iload_n hX d_C_comes_43 rfl ?_
          obtain ⟨u7, hc8, h⟩ := qbind h
          refine q_cVr hX (c_C_feeds X.l G hX.ad f _ _ _ hc8) cw_C_262 rfl kc_0 rfl (Nat.le_of_ble_eq_true rfl) rfl (Nat.le_of_ble_eq_true rfl) d_C_comes_44 ?_
          refine q_if_eq hX d_C_comes_47 rfl h (fun _ h => ?_) (fun _ h => ?_)
          · refine q_iconst hX d_C_comes_54 ic_0 ?_
            exact q_iretR hX h hT d_C_comes_55
          · refine q_iconst hX d_C_comes_50 ic_1 ?_
            refine q_goto hX d_C_comes_51 rfl ?_
            exact q_iretR hX h hT d_C_comes_55
        · refine q_aload_n hX d_C_comes_34 rfl ?_
          refine q_iload_n hX d_C_comes_35 rfl ?_
          refine q_iload_n hX d_C_comes_36 rfl ?_
          obtain ⟨u9, hc10, h⟩ := qbind h
          refine q_cVr hX (c_C_comesTo X.l G hX.ad f _ _ _ hc10) cw_C_259 rfl kc_0 rfl (Nat.le_of_ble_eq_true rfl) rfl (Nat.le_of_ble_eq_true rfl) d_C_comes_37 ?_
          exact q_iretR hX h hT d_C_comes_40
      · refine q_ldc hX w_383 d_C_comes_27 ?_
        exact q_iretR hX h hT d_C_comes_29
set_option maxHeartbeats 4000000 in
theorem t_C_fails_lb43 {G : qG} {X : qX} (hX : qOk G X "ChantryRolls" prog_1_method_24_code 3 (some .int) 7) {u : Int32} {f : Nat} {σ : qMem} {x1 : Int32} (hT : qTg G X 0 0 qKS qRF σ (some (.int u))) {k43 : Int32 → Option (Int32)} (hk43 : ∀ (x2 : Int32), k43 x2 = some u → qV G X 0 0 qKS qRF σ 43 [some (.ref 0), some (.int x1), some (.int x2)] []) {x2 : Int32} (h : p_C_fails_l43 f  σ x1  k43 x2 = some u) : qV G X 0 0 qKS qRF σ 43 [some (.ref 0), some (.int x1), some (.int x2)] [] := by
  unfold p_C_fails_l43 at h
  refine q_iload_n hX d_C_fails_43 rfl ?_
  refine q_bipush hX d_C_fails_44 bp_27 ?_
  refine q_icmp_gt hX d_C_fails_46 rfl h (fun _ h => ?_) (fun _ h => ?_)
  · refine q_ldcw hX w_860 d_C_fails_66 ?_
    exact q_iretR hX h hT d_C_fails_69
  · refine q_aload_n hX d_C_fails_49 rfl ?_
    refine q_iload_n hX d_C_fails_50 rfl ?_
    refine q_iload_n hX d_C_fails_51 rfl ?_
    obtain ⟨u1, hc2, h⟩ := qbind h
    refine q_cVr hX (c_C_feeds X.l G hX.ad f _ _ _ hc2) cw_C_262 rfl kc_0 rfl (Nat.le_of_ble_eq_true rfl) rfl (Nat.le_of_ble_eq_true rfl) d_C_fails_52 ?_
    refine q_if_ne hX d_C_fails_55 rfl h (fun _ h => ?_) (fun _ h => ?_)
    · refine q_iinc hX d_C_fails_60 rfl (ii_1 _) (by decide) rfl rfl ?_
      refine q_goto hX d_C_fails_63 rfl ?_
      exact q_mask [true, true, true] rfl (hk43 _ h)
    · refine q_iload_n hX d_C_fails_58 rfl ?_
      exact q_iretR hX h hT d_C_fails_59
theorem t_C_fails_l43 {G : qG} {X : qX} (hX : qOk G X "ChantryRolls" prog_1_method_24_code 3 (some .int) 7) {u : Int32} {f : Nat} {σ : qMem} {x1 : Int32} (hT : qTg G X 0 0 qKS qRF σ (some (.int u))) : ∀ (n : Nat) (x2 : Int32), qfix1 (p_C_fails_l43 f  σ x1 ) n x2 = some u → qV G X 0 0 qKS qRF σ 43 [some (.ref 0), some (.int x1), some (.int x2)] [] :=
  qfix1_ind (fun k hk _ h => t_C_fails_lb43 hX   hT  hk h)
set_option maxHeartbeats 4000000 in
theorem c_C_fails (l : Launch) (G : qG) (hA : qAd G) (f : Nat) (σ : qMem) (x1 : Int32) {u : Int32} (h : p_C_fails f σ x1 = some u) : qCt l y_C_fails prog_1_method_24_code 3 (some .int) 7 G qKS qRF σ [(.ref 0), (.int x1)] (some (.int u)) qKS qRF σ 0 0 := by
  refine qCt.of (lv := [some (.ref 0), some (.int x1), none]) (by decide) hA (Nat.le_of_ble_eq_true rfl) rfl ?_
  intro X hl _ _ _ hX hT
  subst hl
  unfold p_C_fails at h
  refine q_aload_n hX d_C_fails_0 rfl ?_
  refine q_getR hX fl_C_19 kc_0 (rfl : qRF 0 1 = some 13) d_C_fails_1 ?_
  refine q_iload_n hX d_C_fails_4 rfl ?_
  obtain ⟨u3, hc4, h⟩ := qbind h
  refine q_cVr hX (c_Promises_has X.l G hX.ad f _ _ hc4) cw_C_171 rfl kc_13 rfl (Nat.le_of_ble_eq_true rfl) rfl (Nat.le_of_ble_eq_true rfl) d_C_fails_5 ?_
  refine q_if_ne hX d_C_fails_8 rfl h (fun _ h => ?_) (fun _ h => ?_)
  · refine q_aload_n hX d_C_fails_14 rfl ?_
    refine q_getR hX fl_C_19 kc_0 (rfl : qRF 0 1 = some 13) d_C_fails_15 ?_
    refine q_iload_n hX d_C_fails_18 rfl ?_
    obtain ⟨u5, hc6, h⟩ := qbind h
    refine q_cVr hX (c_Promises_isObit X.l G hX.ad f _ _ hc6) cw_C_265 rfl kc_13 rfl (Nat.le_of_ble_eq_true rfl) rfl (Nat.le_of_ble_eq_true rfl) d_C_fails_19 ?_
    refine q_if_eq hX d_C_fails_22 rfl h (fun _ h => ?_) (fun _ h => ?_)
    · refine q_aload_n hX d_C_fails_29 rfl ?_
      refine q_getR hX fl_C_19 kc_0 (rfl : qRF 0 1 = some 13) d_C_fails_30 ?_
      refine q_iload_n hX d_C_fails_33 rfl ?_
      refine q_iconst hX d_C_fails_34 ic_5 ?_
      obtain ⟨u7, hc8, h⟩ := qbind h
      refine q_cVr hX (c_Promises_of X.l G hX.ad f _ _ _ hc8) cw_C_174 rfl kc_13 rfl (Nat.le_of_ble_eq_true rfl) rfl (Nat.le_of_ble_eq_true rfl) d_C_fails_35 ?_
      refine q_sipush hX d_C_fails_38 sp_360 ?_
      refine q_idiv hX d_C_fails_41 (by decide) ?_
      refine q_istore_n hX d_C_fails_42 (by decide) rfl rfl ?_
      exact q_mask [true, true, true] rfl (t_C_fails_l43 hX hT f _ h)
    · refine q_ldcw hX w_860 d_C_fails_25 ?_
      exact q_iretR hX h hT d_C_fails_28
  · refine q_ldc hX w_383 d_C_fails_11 ?_
    exact q_iretR hX h hT d_C_fails_13
set_option maxHeartbeats 4000000 in
theorem t_C_price_b23 {G : qG} {X : qX} (hX : qOk G X "ChantryRolls" prog_1_method_25_code 4 (some .int) 2) {u : Int32 × qMem} {f : Nat} {σ : qMem} {x1 : Int32} {x2 : Int32} {s0 : Int32} {s1 : Int32} {s2 : Int32} (hT : qTg G X 0 0 qKS qRF u.2 (some (.int u.1))) (h : p_C_price_b23 f    σ x1 x2 s0 s1 s2 = some u) : qV G X 0 0 qKS qRF σ 23 [some (.ref 0), some (.int x1), some (.int x2), none] [(.int s2), (.int s1), (.int s0)] := by
  unfold p_C_price_b23 at h
  obtain ⟨u1, hc2, h⟩ := qbind h
  refine q_cSr hX (c_C_outside X.l G hX.ad f _ _ _ _ hc2) cw_C_122 rfl (Nat.le_of_ble_eq_true rfl) rfl (Nat.le_of_ble_eq_true rfl) d_C_price_23 ?_
  refine q_if_eq hX d_C_price_26 rfl h (fun _ h => ?_) (fun _ h => ?_)
  · refine q_aload_n hX d_C_price_32 rfl ?_
    refine q_getR hX fl_C_80 kc_0 (rfl : qRF 0 10 = some 66) d_C_price_33 ?_
    refine q_iload_n hX d_C_price_36 rfl ?_
    refine q_iald hX kc_66 d_C_price_37 h (fun hi3 h => ?_)
    refine q_istore_n hX d_C_price_38 (by decide) rfl rfl ?_
    refine q_aload_n hX d_C_price_39 rfl ?_
    refine q_getR hX fl_C_80 kc_0 (rfl : qRF 0 10 = some 66) d_C_price_40 ?_
    refine q_iload_n hX d_C_price_43 rfl ?_
    refine q_iload_n hX d_C_price_44 rfl ?_
    refine q_iast hX kc_66 qKS_len d_C_price_45 h (fun hi4 h => ?_)
    refine q_iload_n hX d_C_price_46 rfl ?_
    exact q_iretW hX h hT d_C_price_47
  · refine q_ldc hX w_383 d_C_price_29 ?_
    exact q_iretW hX h hT d_C_price_31
set_option maxHeartbeats 4000000 in
theorem c_C_price (l : Launch) (G : qG) (hA : qAd G) (f : Nat) (σ : qMem) (x1 : Int32) (x2 : Int32) {u : Int32 × qMem} (h : p_C_price f σ x1 x2 = some u) : qCt l y_C_price prog_1_method_25_code 4 (some .int) 2 G qKS qRF σ [(.ref 0), (.int x1), (.int x2)] (some (.int u.1)) qKS qRF u.2 0 0 := by
  refine qCt.of (lv := [some (.ref 0), some (.int x1), some (.int x2), none]) (by decide) hA (Nat.le_of_ble_eq_true rfl) rfl ?_
  intro X hl _ _ _ hX hT
  subst hl
  unfold p_C_price at h
  refine q_iload_n hX d_C_price_0 rfl ?_
  refine q_iconst hX d_C_price_1 ic_0 ?_
  refine q_iconst hX d_C_price_2 ic_2 ?_
  obtain ⟨u5, hc6, h⟩ := qbind h
  refine q_cSr hX (c_C_outside X.l G hX.ad f _ _ _ _ hc6) cw_C_122 rfl (Nat.le_of_ble_eq_true rfl) rfl (Nat.le_of_ble_eq_true rfl) d_C_price_3 ?_
  refine q_if_ne hX d_C_price_6 rfl h (fun _ h => ?_) (fun _ h => ?_)
  · refine q_ldc hX w_383 d_C_price_29 ?_
    exact q_iretW hX h hT d_C_price_31
  · refine q_iload_n hX d_C_price_9 rfl ?_
    refine q_iconst hX d_C_price_10 ic_0 ?_
    refine q_iload_n hX d_C_price_11 rfl ?_
    refine q_if_ne hX d_C_price_12 rfl h (fun _ h => ?_) (fun _ h => ?_)
    · refine q_bipush hX d_C_price_21 bp_99 ?_
      exact q_mask [true, true, true, false] rfl (t_C_price_b23 hX hT h)
    · refine q_sipush hX d_C_price_15 sp_10000 ?_
      refine q_goto hX d_C_price_18 rfl ?_
      exact q_mask [true, true, true, false] rfl (t_C_price_b23 hX hT h)
set_option maxHeartbeats 4000000 in
theorem c_C_obitCost (l : Launch) (G : qG) (hA : qAd G) (f : Nat) (σ : qMem) (x1 : Int32) {u : Int32} (h : p_C_obitCost f σ x1 = some u) : qCt l y_C_obitCost prog_1_method_55_code 2 (some .int) 2 G qKS qRF σ [(.ref 0), (.int x1)] (some (.int u)) qKS qRF σ 0 0 := by
  refine qCt.of (lv := [some (.ref 0), some (.int x1)]) (by decide) hA (Nat.le_of_ble_eq_true rfl) rfl ?_
  intro X hl _ _ _ hX hT
  subst hl
  unfold p_C_obitCost at h
  refine q_aload_n hX d_C_obitCost_0 rfl ?_
  refine q_getR hX fl_C_19 kc_0 (rfl : qRF 0 1 = some 13) d_C_obitCost_1 ?_
  refine q_iload_n hX d_C_obitCost_4 rfl ?_
  refine q_bipush hX d_C_obitCost_5 bp_9 ?_
  obtain ⟨u1, hc2, h⟩ := qbind h
  refine q_cVr hX (c_Promises_of X.l G hX.ad f _ _ _ hc2) cw_C_174 rfl kc_13 rfl (Nat.le_of_ble_eq_true rfl) rfl (Nat.le_of_ble_eq_true rfl) d_C_obitCost_7 ?_
  refine q_aload_n hX d_C_obitCost_10 rfl ?_
  refine q_getR hX fl_C_80 kc_0 (rfl : qRF 0 10 = some 66) d_C_obitCost_11 ?_
  refine q_iconst hX d_C_obitCost_14 ic_1 ?_
  refine q_iald hX kc_66 d_C_obitCost_15 h (fun hi3 h => ?_)
  refine q_imul hX d_C_obitCost_16 ?_
  refine q_aload_n hX d_C_obitCost_17 rfl ?_
  refine q_getR hX fl_C_19 kc_0 (rfl : qRF 0 1 = some 13) d_C_obitCost_18 ?_
  refine q_iload_n hX d_C_obitCost_21 rfl ?_
  refine q_bipush hX d_C_obitCost_22 bp_10 ?_
  obtain ⟨u4, hc5, h⟩ := qbind h
  refine q_cVr hX (c_Promises_of X.l G hX.ad f _ _ _ hc5) cw_C_174 rfl kc_13 rfl (Nat.le_of_ble_eq_true rfl) rfl (Nat.le_of_ble_eq_true rfl) d_C_obitCost_24 ?_
  refine q_aload_n hX d_C_obitCost_27 rfl ?_
  refine q_getR hX fl_C_80 kc_0 (rfl : qRF 0 10 = some 66) d_C_obitCost_28 ?_
  refine q_iconst hX d_C_obitCost_31 ic_2 ?_
  refine q_iald hX kc_66 d_C_obitCost_32 h (fun hi6 h => ?_)
  refine q_imul hX d_C_obitCost_33 ?_
  refine q_iadd hX d_C_obitCost_34 ?_
  exact q_iretR hX h hT d_C_obitCost_35
set_option maxHeartbeats 4000000 in
theorem t_C_spent_lb36 {G : qG} {X : qX} (hX : qOk G X "ChantryRolls" prog_1_method_26_code 7 (some .int) 4) {u : Int32} {f : Nat} {σ : qMem} {x2 : Int32} {x3 : Int32} (hT : qTg G X 0 0 qKS qRF σ (some (.int u))) {k36 : Int32 → Int32 → Option (Int32)} (hk36 : ∀ (x4 : Int32) (x5 : Int32), k36 x4 x5 = some u → qV G X 0 0 qKS qRF σ 36 [some (.ref 0), none, some (.int x2), some (.int x3), some (.int x4), some (.int x5), none] []) {x4 : Int32} {x5 : Int32} (h : p_C_spent_l36 f  σ x2 x3  k36 x4 x5 = some u) : qV G X 0 0 qKS qRF σ 36 [some (.ref 0), none, some (.int x2), some (.int x3), some (.int x4), some (.int x5), none] [] := by
  unfold p_C_spent_l36 at h
  refine q_iload hX d_C_spent_36 rfl ?_
  refine q_aload_n hX d_C_spent_38 rfl ?_
  refine q_getR hX fl_C_19 kc_0 (rfl : qRF 0 1 = some 13) d_C_spent_39 ?_
  obtain ⟨u1, hc2, h⟩ := qbind h
  refine q_cVr hX (c_Promises_size X.l G hX.ad f _  hc2) cw_C_274 rfl kc_13 rfl (Nat.le_of_ble_eq_true rfl) rfl (Nat.le_of_ble_eq_true rfl) d_C_spent_42 ?_
  refine q_icmp_ge hX d_C_spent_45 rfl h (fun _ h => ?_) (fun _ h => ?_)
  · refine q_iload hX d_C_spent_99 rfl ?_
    exact q_iretR hX h hT d_C_spent_101
  · refine q_aload_n hX d_C_spent_48 rfl ?_
    refine q_getR hX fl_C_19 kc_0 (rfl : qRF 0 1 = some 13) d_C_spent_49 ?_
    refine q_iload hX d_C_spent_52 rfl ?_
    obtain ⟨u3, hc4, h⟩ := qbind h
    refine q_cVr hX (c_Promises_isObit X.l G hX.ad f _ _ hc4) cw_C_265 rfl kc_13 rfl (Nat.le_of_ble_eq_true rfl) rfl (Nat.le_of_ble_eq_true rfl) d_C_spent_54 ?_
    refine q_if_eq hX d_C_spent_57 rfl h (fun _ h => ?_) (fun _ h => ?_)
    · refine q_iinc hX d_C_spent_93 rfl (ii_1 _) (by decide) rfl rfl ?_
      refine q_goto hX d_C_spent_96 rfl ?_
      exact q_mask [true, false, true, true, true, true, false] rfl (hk36 _ _ h)
    · refine q_aload_n hX d_C_spent_60 rfl ?_
      refine q_iload hX d_C_spent_61 rfl ?_
      refine q_iload_n hX d_C_spent_63 rfl ?_
      obtain ⟨u5, hc6, h⟩ := qbind h
      refine q_cVr hX (c_C_wantedTill X.l G hX.ad f _ _ _ hc6) cw_C_189 rfl kc_0 rfl (Nat.le_of_ble_eq_true rfl) rfl (Nat.le_of_ble_eq_true rfl) d_C_spent_64 ?_
      refine q_aload_n hX d_C_spent_67 rfl ?_
      refine q_iload hX d_C_spent_68 rfl ?_
      refine q_iload_n hX d_C_spent_70 rfl ?_
      refine q_iconst hX d_C_spent_71 ic_1 ?_
      refine q_isub hX d_C_spent_72 ?_
      obtain ⟨u7, hc8, h⟩ := qbind h
      refine q_cVr hX (c_C_wantedTill X.l G hX.ad f _ _ _ hc8) cw_C_189 rfl kc_0 rfl (Nat.le_of_ble_eq_true rfl) rfl (Nat.le_of_ble_eq_true rfl) d_C_spent_73 ?_
      refine q_isub hX d_C_spent_76 ?_
      refine q_istore hX d_C_spent_77 (by decide) rfl rfl ?_
      refine q_iload hX d_C_spent_79 rfl ?_
      refine q_iload hX d_C_spent_81 rfl ?_
      refine q_aload_n hX d_C_spent_83 rfl ?_
      refine q_iload hX d_C_spent_84 rfl ?_
      obtain ⟨u9, hc10, h⟩ := qbind h
      refine q_cVr hX (c_C_obitCost X.l G hX.ad f _ _ hc10) cw_C_275 rfl kc_0 rfl (Nat.le_of_ble_eq_true rfl) rfl (Nat.le_of_ble_eq_true rfl) d_C_spent_86 ?_
      refine q_imul hX d_C_spent_89 ?_
      refine q_iadd hX d_C_spent_90 ?_
      refine q_istore hX d_C_spent_91 (by decide) rfl rfl ?_
      refine q_iinc hX d_C_spent_93 rfl (ii_1 _) (by decide) rfl rfl ?_
      refine q_goto hX d_C_spent_96 rfl ?_
      exact q_mask [true, false, true, true, true, true, false] rfl (hk36 _ _ h)
theorem t_C_spent_l36 {G : qG} {X : qX} (hX : qOk G X "ChantryRolls" prog_1_method_26_code 7 (some .int) 4) {u : Int32} {f : Nat} {σ : qMem} {x2 : Int32} {x3 : Int32} (hT : qTg G X 0 0 qKS qRF σ (some (.int u))) : ∀ (n : Nat) (x4 : Int32) (x5 : Int32), qfix2 (p_C_spent_l36 f  σ x2 x3 ) n x4 x5 = some u → qV G X 0 0 qKS qRF σ 36 [some (.ref 0), none, some (.int x2), some (.int x3), some (.int x4), some (.int x5), none] [] :=
  qfix2_ind (fun k hk _ _ h => t_C_spent_lb36 hX   hT  hk h)
set_option maxHeartbeats 4000000 in
theorem c_C_spent (l : Launch) (G : qG) (hA : qAd G) (f : Nat) (σ : qMem) (x1 : Int32) {u : Int32} (h : p_C_spent f σ x1 = some u) : qCt l y_C_spent prog_1_method_26_code 7 (some .int) 4 G qKS qRF σ [(.ref 0), (.int x1)] (some (.int u)) qKS qRF σ 0 0 := by
  refine qCt.of (lv := [some (.ref 0), some (.int x1), none, none, none, none, none]) (by decide) hA (Nat.le_of_ble_eq_true rfl) rfl ?_
  intro X hl _ _ _ hX hT
  subst hl
  unfold p_C_spent at h
  refine q_iload_n hX d_C_spent_0 rfl ?_
  obtain ⟨u11, hc12, h⟩ := qbind h
  refine q_cSr hX (c_C_noYear X.l G hX.ad f _ _ hc12) cw_C_241 rfl (Nat.le_of_ble_eq_true rfl) rfl (Nat.le_of_ble_eq_true rfl) d_C_spent_1 ?_
  refine q_if_eq hX d_C_spent_4 rfl h (fun _ h => ?_) (fun _ h => ?_)
  · refine q_iload_n hX d_C_spent_10 rfl ?_
    refine q_sipush hX d_C_spent_11 sp_360 ?_
    refine q_imul hX d_C_spent_14 ?_
    refine q_istore_n hX d_C_spent_15 (by decide) rfl rfl ?_
    refine q_iload_n hX d_C_spent_16 rfl ?_
    refine q_sipush hX d_C_spent_17 sp_360 ?_
    refine q_iadd hX d_C_spent_20 ?_
    refine q_iconst hX d_C_spent_21 ic_1 ?_
    refine q_isub hX d_C_spent_22 ?_
    refine q_sipush hX d_C_spent_23 sp_9999 ?_
    refine q_mmin hX w_878 (by decide) (Nat.le_of_ble_eq_true rfl) d_C_spent_26 ?_
    refine q_istore_n hX d_C_spent_29 (by decide) rfl rfl ?_
    refine q_iconst hX d_C_spent_30 ic_0 ?_
    refine q_istore hX d_C_spent_31 (by decide) rfl rfl ?_
    refine q_iconst hX d_C_spent_33 ic_0 ?_
    refine q_istore hX d_C_spent_34 (by decide) rfl rfl ?_
    exact q_mask [true, false, true, true, true, true, false] rfl (t_C_spent_l36 hX hT f _ _ h)
  · refine q_ldc hX w_383 d_C_spent_7 ?_
    exact q_iretR hX h hT d_C_spent_9
set_option maxHeartbeats 4000000 in
theorem c_Namings_begin (l : Launch) (G : qG) (hA : qAd G) (f : Nat) (σ : qMem) (x1 : Int32) (x2 : Int32) {u : qMem} (h : p_Namings_begin f σ x1 x2 = some u) : qCt l y_Namings_begin prog_9_method_2_code 3 none 1 G qKS qRF σ [(.ref 67), (.int x1), (.int x2)] none qKS qRF u 0 0 := by
  refine qCt.of (lv := [some (.ref 67), some (.int x1), some (.int x2)]) (by decide) hA (Nat.le_of_ble_eq_true rfl) rfl ?_
  intro X hl _ _ _ hX hT
  subst hl
  unfold p_Namings_begin at h
  refine q_aload_n hX d_Namings_begin_0 rfl ?_
  refine q_getR hX fl_Namings_9 kc_67 (rfl : qRF 67 0 = some 68) d_Namings_begin_1 ?_
  refine q_iload_n hX d_Namings_begin_4 rfl ?_
  refine q_iload_n hX d_Namings_begin_5 rfl ?_
  refine q_iast hX kc_68 qKS_len d_Namings_begin_6 h (fun hi1 h => ?_)
  refine q_aload_n hX d_Namings_begin_7 rfl ?_
  refine q_getR hX fl_Namings_15 kc_67 (rfl : qRF 67 1 = some 69) d_Namings_begin_8 ?_
  refine q_iload_n hX d_Namings_begin_11 rfl ?_
  refine q_iconst hX d_Namings_begin_12 ic_0 ?_
  refine q_iast hX kc_69 qKS_len d_Namings_begin_13 h (fun hi2 h => ?_)
  exact q_vretW hX h hT d_Namings_begin_14
set_option maxHeartbeats 4000000 in
theorem c_Namings_addPatron (l : Launch) (G : qG) (hA : qAd G) (f : Nat) (σ : qMem) (x1 : Int32) (x2 : Int32) (x3 : Int32) {u : qMem} (h : p_Namings_addPatron f σ x1 x2 x3 = some u) : qCt l y_Namings_addPatron prog_9_method_3_code 5 none 1 G qKS qRF σ [(.ref 67), (.int x1), (.int x2), (.int x3)] none qKS qRF u 0 0 := by
  refine qCt.of (lv := [some (.ref 67), some (.int x1), some (.int x2), some (.int x3), none]) (by decide) hA (Nat.le_of_ble_eq_true rfl) rfl ?_
  intro X hl _ _ _ hX hT
  subst hl
  unfold p_Namings_addPatron at h
  refine q_aload_n hX d_Namings_addPatron_0 rfl ?_
  refine q_getR hX fl_Namings_15 kc_67 (rfl : qRF 67 1 = some 69) d_Namings_addPatron_1 ?_
  refine q_iload_n hX d_Namings_addPatron_4 rfl ?_
  refine q_iald hX kc_69 d_Namings_addPatron_5 h (fun hi1 h => ?_)
  refine q_istore hX d_Namings_addPatron_6 (by decide) rfl rfl ?_
  refine q_iload hX d_Namings_addPatron_8 rfl ?_
  refine q_iconst hX d_Namings_addPatron_10 ic_4 ?_
  refine q_icmp_ge hX d_Namings_addPatron_11 rfl h (fun _ h => ?_) (fun _ h => ?_)
  · exact q_vretW hX h hT d_Namings_addPatron_44
  · refine q_aload_n hX d_Namings_addPatron_14 rfl ?_
    refine q_getR hX fl_Namings_20 kc_67 (rfl : qRF 67 2 = some 70) d_Namings_addPatron_15 ?_
    refine q_iload_n hX d_Namings_addPatron_18 rfl ?_
    refine q_aald hX kc_70 d_Namings_addPatron_19 h (fun _ => rfl) (fun hi2 h => ?_)
    refine q_iload hX d_Namings_addPatron_20 rfl ?_
    refine q_iload_n hX d_Namings_addPatron_22 rfl ?_
    refine q_iast hX (kr_70 hi2) qKS_len d_Namings_addPatron_23 h (fun hi3 h => ?_)
    refine q_aload_n hX d_Namings_addPatron_24 rfl ?_
    refine q_getR hX fl_Namings_23 kc_67 (rfl : qRF 67 3 = some 83) d_Namings_addPatron_25 ?_
    refine q_iload_n hX d_Namings_addPatron_28 rfl ?_
    refine q_aald hX kc_83 d_Namings_addPatron_29 h (fun _ => rfl) (fun hi4 h => ?_)
    refine q_iload hX d_Namings_addPatron_30 rfl ?_
    refine q_iload_n hX d_Namings_addPatron_32 rfl ?_
    refine q_iast hX (kr_83 hi4) qKS_len d_Namings_addPatron_33 h (fun hi5 h => ?_)
    refine q_aload_n hX d_Namings_addPatron_34 rfl ?_
    refine q_getR hX fl_Namings_15 kc_67 (rfl : qRF 67 1 = some 69) d_Namings_addPatron_35 ?_
    refine q_iload_n hX d_Namings_addPatron_38 rfl ?_
    refine q_iload hX d_Namings_addPatron_39 rfl ?_
    refine q_iconst hX d_Namings_addPatron_41 ic_1 ?_
    refine q_iadd hX d_Namings_addPatron_42 ?_
    refine q_iast hX kc_69 qKS_len d_Namings_addPatron_43 h (fun hi6 h => ?_)
    exact q_vretW hX h hT d_Namings_addPatron_44
set_option maxHeartbeats 4000000 in
theorem t_C_vacant_lb157 {G : qG} {X : qX} (hX : qOk G X "ChantryRolls" prog_1_method_27_code 7 (some .int) 3) {u : Int32 × qMem} {f : Nat} {x1 : Int32} {x3 : Int32} {x4 : Int32} {x5 : Int32} (hT : qTg G X 0 0 qKS qRF u.2 (some (.int u.1))) {k157 : qMem → Int32 → Option (Int32 × qMem)} (hk157 : ∀ (σ : qMem) (x6 : Int32), k157 σ x6 = some u → qV G X 0 0 qKS qRF σ 157 [some (.ref 0), some (.int x1), none, some (.int x3), some (.int x4), some (.int x5), some (.int x6)] []) {σ : qMem} {x6 : Int32} (h : p_C_vacant_l157 f  x1 x3 x4 x5  k157 σ x6 = some u) : qV G X 0 0 qKS qRF σ 157 [some (.ref 0), some (.int x1), none, some (.int x3), some (.int x4), some (.int x5), some (.int x6)] [] := by
  unfold p_C_vacant_l157 at h
  refine q_iload hX d_C_vacant_157 rfl ?_
  refine q_iload hX d_C_vacant_159 rfl ?_
  refine q_iconst hX d_C_vacant_161 ic_2 ?_
  refine q_iload hX d_C_vacant_162 rfl ?_
  refine q_imul hX d_C_vacant_164 ?_
  refine q_iadd hX d_C_vacant_165 ?_
  refine q_icmp_ge hX d_C_vacant_166 rfl h (fun _ h => ?_) (fun _ h => ?_)
  · refine q_aload_n hX d_C_vacant_205 rfl ?_
    refine q_iload hX d_C_vacant_206 rfl ?_
    obtain ⟨u1, hc2, h⟩ := qbind h
    refine q_cVr hX (c_C_foundNothing X.l G hX.ad f _ _ hc2) cw_C_135 rfl kc_0 rfl (Nat.le_of_ble_eq_true rfl) rfl (Nat.le_of_ble_eq_true rfl) d_C_vacant_208 ?_
    exact q_iretW hX h hT d_C_vacant_211
  · refine q_aload_n hX d_C_vacant_169 rfl ?_
    refine q_getR hX fl_C_86 kc_0 (rfl : qRF 0 11 = some 67) d_C_vacant_170 ?_
    refine q_iload_n hX d_C_vacant_173 rfl ?_
    refine q_aload_n hX d_C_vacant_174 rfl ?_
    refine q_getR hX fl_C_10 kc_0 (rfl : qRF 0 0 = some 1) d_C_vacant_175 ?_
    refine q_iload_n hX d_C_vacant_178 rfl ?_
    refine q_iload hX d_C_vacant_179 rfl ?_
    obtain ⟨u3, hc4, h⟩ := qbind h
    refine q_cVr hX (c_Sheets_item X.l G hX.ad f _ _ _ hc4) cw_C_213 rfl kc_1 rfl (Nat.le_of_ble_eq_true rfl) rfl (Nat.le_of_ble_eq_true rfl) d_C_vacant_181 ?_
    refine q_aload_n hX d_C_vacant_184 rfl ?_
    refine q_getR hX fl_C_10 kc_0 (rfl : qRF 0 0 = some 1) d_C_vacant_185 ?_
    refine q_iload_n hX d_C_vacant_188 rfl ?_
    refine q_iload hX d_C_vacant_189 rfl ?_
    refine q_iconst hX d_C_vacant_191 ic_1 ?_
    refine q_iadd hX d_C_vacant_192 ?_
    obtain ⟨u5, hc6, h⟩ := qbind h
    refine q_cVr hX (c_Sheets_item X.l G hX.ad f _ _ _ hc6) cw_C_213 rfl kc_1 rfl (Nat.le_of_ble_eq_true rfl) rfl (Nat.le_of_ble_eq_true rfl) d_C_vacant_193 ?_
    obtain ⟨u7, hc8, h⟩ := qbind h
    refine q_cVv hX (c_Namings_addPatron X.l G hX.ad f _ _ _ _ hc8) cw_C_282 rfl kc_67 rfl (Nat.le_of_ble_eq_true rfl) rfl (Nat.le_of_ble_eq_true rfl) d_C_vacant_196 ?_
    refine q_iinc hX d_C_vacant_199 rfl (ii_2 _) (by decide) rfl rfl ?_
    refine q_goto hX d_C_vacant_202 rfl ?_
    exact q_mask [true, true, false, true, true, true, true] rfl (hk157 _ _ h)
theorem t_C_vacant_l157 {G : qG} {X : qX} (hX : qOk G X "ChantryRolls" prog_1_method_27_code 7 (some .int) 3) {u : Int32 × qMem} {f : Nat} {x1 : Int32} {x3 : Int32} {x4 : Int32} {x5 : Int32} (hT : qTg G X 0 0 qKS qRF u.2 (some (.int u.1))) : ∀ (n : Nat) (σ : qMem) (x6 : Int32), qfix2 (p_C_vacant_l157 f  x1 x3 x4 x5 ) n σ x6 = some u → qV G X 0 0 qKS qRF σ 157 [some (.ref 0), some (.int x1), none, some (.int x3), some (.int x4), some (.int x5), some (.int x6)] [] :=
  qfix2_ind (fun k hk _ _ h => t_C_vacant_lb157 hX   hT  hk h)
set_option maxHeartbeats 4000000 in
theorem t_C_vacant_lb82 {G : qG} {X : qX} (hX : qOk G X "ChantryRolls" prog_1_method_27_code 7 (some .int) 3) {u : Int32 × qMem} {f : Nat} {σ : qMem} {x1 : Int32} {x2 : Int32} {x3 : Int32} {x4 : Int32} {x5 : Int32} (hT : qTg G X 0 0 qKS qRF u.2 (some (.int u.1))) {k82 : Int32 → Option (Int32 × qMem)} (hk82 : ∀ (x6 : Int32), k82 x6 = some u → qV G X 0 0 qKS qRF σ 82 [some (.ref 0), some (.int x1), some (.int x2), some (.int x3), some (.int x4), some (.int x5), some (.int x6)] []) {x6 : Int32} (h : p_C_vacant_l82 f  σ x1 x2 x3 x4 x5  k82 x6 = some u) : qV G X 0 0 qKS qRF σ 82 [some (.ref 0), some (.int x1), some (.int x2), some (.int x3), some (.int x4), some (.int x5), some (.int x6)] [] := by
  unfold p_C_vacant_l82 at h
  refine q_iload hX d_C_vacant_82 rfl ?_
  refine q_iload hX d_C_vacant_84 rfl ?_
  refine q_iconst hX d_C_vacant_86 ic_2 ?_
  refine q_iload hX d_C_vacant_87 rfl ?_
  refine q_imul hX d_C_vacant_89 ?_
  refine q_iadd hX d_C_vacant_90 ?_
  refine q_icmp_ge hX d_C_vacant_91 rfl h (fun _ h => ?_) (fun _ h => ?_)
  · refine q_aload_n hX d_C_vacant_144 rfl ?_
    refine q_getR hX fl_C_86 kc_0 (rfl : qRF 0 11 = some 67) d_C_vacant_145 ?_
    refine q_iload_n hX d_C_vacant_148 rfl ?_
    refine q_iload_n hX d_C_vacant_149 rfl ?_
    obtain ⟨u9, hc10, h⟩ := qbind h
    refine q_cVv hX (c_Namings_begin X.l G hX.ad f _ _ _ hc10) cw_C_278 rfl kc_67 rfl (Nat.le_of_ble_eq_true rfl) rfl (Nat.le_of_ble_eq_true rfl) d_C_vacant_150 ?_
    refine q_iload hX d_C_vacant_153 rfl ?_
    refine q_istore hX d_C_vacant_155 (by decide) rfl rfl ?_
    exact q_mask [true, true, false, true, true, true, true] rfl (t_C_vacant_l157 hX hT f _ _ h)
  · refine q_aload_n hX d_C_vacant_94 rfl ?_
    refine q_getR hX fl_C_10 kc_0 (rfl : qRF 0 0 = some 1) d_C_vacant_95 ?_
    refine q_iload_n hX d_C_vacant_98 rfl ?_
    refine q_iload hX d_C_vacant_99 rfl ?_
    obtain ⟨u11, hc12, h⟩ := qbind h
    refine q_cVr hX (c_Sheets_item X.l G hX.ad f _ _ _ hc12) cw_C_213 rfl kc_1 rfl (Nat.le_of_ble_eq_true rfl) rfl (Nat.le_of_ble_eq_true rfl) d_C_vacant_101 ?_
    refine q_iconst hX d_C_vacant_104 ic_0 ?_
    refine q_bipush hX d_C_vacant_105 bp_9 ?_
    obtain ⟨u13, hc14, h⟩ := qbind h
    refine q_cSr hX (c_C_outside X.l G hX.ad f _ _ _ _ hc14) cw_C_122 rfl (Nat.le_of_ble_eq_true rfl) rfl (Nat.le_of_ble_eq_true rfl) d_C_vacant_107 ?_
    refine q_if_ne hX d_C_vacant_110 rfl h (fun _ h => ?_) (fun _ h => ?_)
    · refine q_ldc hX w_383 d_C_vacant_135 ?_
      exact q_iretW hX h hT d_C_vacant_137
    · refine q_aload_n hX d_C_vacant_113 rfl ?_
      refine q_getR hX fl_C_10 kc_0 (rfl : qRF 0 0 = some 1) d_C_vacant_114 ?_
      refine q_iload_n hX d_C_vacant_117 rfl ?_
      refine q_iload hX d_C_vacant_118 rfl ?_
      refine q_iconst hX d_C_vacant_120 ic_1 ?_
      refine q_iadd hX d_C_vacant_121 ?_
      obtain ⟨u15, hc16, h⟩ := qbind h
      refine q_cVr hX (c_Sheets_item X.l G hX.ad f _ _ _ hc16) cw_C_213 rfl kc_1 rfl (Nat.le_of_ble_eq_true rfl) rfl (Nat.le_of_ble_eq_true rfl) d_C_vacant_122 ?_
      refine q_iconst hX d_C_vacant_125 ic_1 ?_
      refine q_sipush hX d_C_vacant_126 sp_400 ?_
      obtain ⟨u17, hc18, h⟩ := qbind h
      refine q_cSr hX (c_C_outside X.l G hX.ad f _ _ _ _ hc18) cw_C_122 rfl (Nat.le_of_ble_eq_true rfl) rfl (Nat.le_of_ble_eq_true rfl) d_C_vacant_129 ?_
      refine q_if_eq hX d_C_vacant_132 rfl h (fun _ h => ?_) (fun _ h => ?_)
      · refine q_iinc hX d_C_vacant_138 rfl (ii_2 _) (by decide) rfl rfl ?_
        refine q_goto hX d_C_vacant_141 rfl ?_
        exact q_mask [true, true, true, true, true, true, true] rfl (hk82 _ h)
      · refine q_ldc hX w_383 d_C_vacant_135 ?_
        exact q_iretW hX h hT d_C_vacant_137
theorem t_C_vacant_l82 {G : qG} {X : qX} (hX : qOk G X "ChantryRolls" prog_1_method_27_code 7 (some .int) 3) {u : Int32 × qMem} {f : Nat} {σ : qMem} {x1 : Int32} {x2 : Int32} {x3 : Int32} {x4 : Int32} {x5 : Int32} (hT : qTg G X 0 0 qKS qRF u.2 (some (.int u.1))) : ∀ (n : Nat) (x6 : Int32), qfix1 (p_C_vacant_l82 f  σ x1 x2 x3 x4 x5 ) n x6 = some u → qV G X 0 0 qKS qRF σ 82 [some (.ref 0), some (.int x1), some (.int x2), some (.int x3), some (.int x4), some (.int x5), some (.int x6)] [] :=
  qfix1_ind (fun k hk _ h => t_C_vacant_lb82 hX   hT  hk h)
set_option maxHeartbeats 4000000 in
theorem c_C_vacant (l : Launch) (G : qG) (hA : qAd G) (f : Nat) (σ : qMem) (x1 : Int32) (x2 : Int32) (x3 : Int32) (x4 : Int32) (x5 : Int32) {u : Int32 × qMem} (h : p_C_vacant f σ x1 x2 x3 x4 x5 = some u) : qCt l y_C_vacant prog_1_method_27_code 7 (some .int) 3 G qKS qRF σ [(.ref 0), (.int x1), (.int x2), (.int x3), (.int x4), (.int x5)] (some (.int u.1)) qKS qRF u.2 0 0 := by
  refine qCt.of (lv := [some (.ref 0), some (.int x1), some (.int x2), some (.int x3), some (.int x4), some (.int x5), none]) (by decide) hA (Nat.le_of_ble_eq_true rfl) rfl ?_
  intro X hl _ _ _ hX hT
  subst hl
  unfold p_C_vacant at h
  refine q_aload_n hX d_C_vacant_0 rfl ?_
  refine q_getR hX fl_C_19 kc_0 (rfl : qRF 0 1 = some 13) d_C_vacant_1 ?_
  refine q_iload_n hX d_C_vacant_4 rfl ?_
  obtain ⟨u19, hc20, h⟩ := qbind h
  refine q_cVr hX (c_Promises_has X.l G hX.ad f _ _ hc20) cw_C_171 rfl kc_13 rfl (Nat.le_of_ble_eq_true rfl) rfl (Nat.le_of_ble_eq_true rfl) d_C_vacant_5 ?_
  refine q_if_eq hX d_C_vacant_8 rfl h (fun _ h => ?_) (fun _ h => ?_)
  · refine q_ldc hX w_383 d_C_vacant_35 ?_
    exact q_iretW hX h hT d_C_vacant_37
  · refine q_iload_n hX d_C_vacant_11 rfl ?_
    obtain ⟨u21, hc22, h⟩ := qbind h
    refine q_cSr hX (c_C_noDay X.l G hX.ad f _ _ hc22) cw_C_178 rfl (Nat.le_of_ble_eq_true rfl) rfl (Nat.le_of_ble_eq_true rfl) d_C_vacant_12 ?_
    refine q_if_ne hX d_C_vacant_15 rfl h (fun _ h => ?_) (fun _ h => ?_)
    · refine q_ldc hX w_383 d_C_vacant_35 ?_
      exact q_iretW hX h hT d_C_vacant_37
    · refine q_iload_n hX d_C_vacant_18 rfl ?_
      obtain ⟨u23, hc24, h⟩ := qbind h
      refine q_cSr hX (c_Sheets_noSuch X.l G hX.ad f _ _ hc24) cw_C_118 rfl (Nat.le_of_ble_eq_true rfl) rfl (Nat.le_of_ble_eq_true rfl) d_C_vacant_19 ?_
      refine q_if_ne hX d_C_vacant_22 rfl h (fun _ h => ?_) (fun _ h => ?_)
      · refine q_ldc hX w_383 d_C_vacant_35 ?_
        exact q_iretW hX h hT d_C_vacant_37
      · refine q_iload hX d_C_vacant_25 rfl ?_
        refine q_iconst hX d_C_vacant_27 ic_0 ?_
        refine q_iconst hX d_C_vacant_28 ic_4 ?_
        obtain ⟨u25, hc26, h⟩ := qbind h
        refine q_cSr hX (c_C_outside X.l G hX.ad f _ _ _ _ hc26) cw_C_122 rfl (Nat.le_of_ble_eq_true rfl) rfl (Nat.le_of_ble_eq_true rfl) d_C_vacant_29 ?_
        refine q_if_eq hX d_C_vacant_32 rfl h (fun _ h => ?_) (fun _ h => ?_)
        · refine q_aload_n hX d_C_vacant_38 rfl ?_
          refine q_getR hX fl_C_10 kc_0 (rfl : qRF 0 0 = some 1) d_C_vacant_39 ?_
          refine q_iload_n hX d_C_vacant_42 rfl ?_
          obtain ⟨u27, hc28, h⟩ := qbind h
          refine q_cVr hX (c_Sheets_missing X.l G hX.ad f _ _ hc28) cw_C_138 rfl kc_1 rfl (Nat.le_of_ble_eq_true rfl) rfl (Nat.le_of_ble_eq_true rfl) d_C_vacant_43 ?_
          refine q_if_eq hX d_C_vacant_46 rfl h (fun _ h => ?_) (fun _ h => ?_)
          · refine q_aload_n hX d_C_vacant_55 rfl ?_
            refine q_getR hX fl_C_10 kc_0 (rfl : qRF 0 0 = some 1) d_C_vacant_56 ?_
            refine q_iload_n hX d_C_vacant_59 rfl ?_
            refine q_iload hX d_C_vacant_60 rfl ?_
            refine q_iconst hX d_C_vacant_62 ic_2 ?_
            refine q_iload hX d_C_vacant_63 rfl ?_
            refine q_imul hX d_C_vacant_65 ?_
            obtain ⟨u29, hc30, h⟩ := qbind h
            refine q_cVr hX (c_Sheets_holds X.l G hX.ad f _ _ _ _ hc30) cw_C_141 rfl kc_1 rfl (Nat.le_of_ble_eq_true rfl) rfl (Nat.le_of_ble_eq_true rfl) d_C_vacant_66 ?_
            refine q_if_ne hX d_C_vacant_69 rfl h (fun _ h => ?_) (fun _ h => ?_)
            · refine q_iload hX d_C_vacant_78 rfl ?_
              refine q_istore hX d_C_vacant_80 (by decide) rfl rfl ?_
              exact q_mask [true, true, true, true, true, true, true] rfl (t_C_vacant_l82 hX hT f _ h)
            · refine q_aload_n hX d_C_vacant_72 rfl ?_
              refine q_iconst hX d_C_vacant_73 ic_2 ?_
              obtain ⟨u31, hc32, h⟩ := qbind h
              refine q_cVr hX (c_C_found X.l G hX.ad f _ _ hc32) cw_C_127 rfl kc_0 rfl (Nat.le_of_ble_eq_true rfl) rfl (Nat.le_of_ble_eq_true rfl) d_C_vacant_74 ?_
              exact q_iretW hX h hT d_C_vacant_77
          · refine q_aload_n hX d_C_vacant_49 rfl ?_
            refine q_iconst hX d_C_vacant_50 ic_1 ?_
            obtain ⟨u33, hc34, h⟩ := qbind h
            refine q_cVr hX (c_C_found X.l G hX.ad f _ _ hc34) cw_C_127 rfl kc_0 rfl (Nat.le_of_ble_eq_true rfl) rfl (Nat.le_of_ble_eq_true rfl) d_C_vacant_51 ?_
            exact q_iretW hX h hT d_C_vacant_54
        · refine q_ldc hX w_383 d_C_vacant_35 ?_
          exact q_iretW hX h hT d_C_vacant_37
set_option maxHeartbeats 4000000 in
theorem t_Namings_whoNames_lb34 {G : qG} {X : qX} (hX : qOk G X "ChantryRolls$Namings" prog_9_method_4_code 5 (some .int) 1) {u : Int32} {f : Nat} {σ : qMem} {x1 : Int32} {x2 : Int32} (hT : qTg G X 0 0 qKS qRF σ (some (.int u))) {k34 : Int32 → Int32 → Option (Int32)} (hk34 : ∀ (x3 : Int32) (x4 : Int32), k34 x3 x4 = some u → qV G X 0 0 qKS qRF σ 34 [some (.ref 67), some (.int x1), some (.int x2), some (.int x3), some (.int x4)] []) {x3 : Int32} {x4 : Int32} (h : p_Namings_whoNames_l34 f  σ x1 x2  k34 x3 x4 = some u) : qV G X 0 0 qKS qRF σ 34 [some (.ref 67), some (.int x1), some (.int x2), some (.int x3), some (.int x4)] [] := by
  unfold p_Namings_whoNames_l34 at h
  refine q_iload hX d_Namings_whoNames_34 rfl ?_
  refine q_aload_n hX d_Namings_whoNames_36 rfl ?_
  refine q_getR hX fl_Namings_15 kc_67 (rfl : qRF 67 1 = some 69) d_Namings_whoNames_37 ?_
  refine q_iload_n hX d_Namings_whoNames_40 rfl ?_
  refine q_iald hX kc_69 d_Namings_whoNames_41 h (fun hi1 h => ?_)
  refine q_icmp_ge hX d_Namings_whoNames_42 rfl h (fun _ h => ?_) (fun _ h => ?_)
  · refine q_bipush hX d_Namings_whoNames_78 bp_10 ?_
    exact q_iretR hX h hT d_Namings_whoNames_80
  · refine q_iload_n hX d_Namings_whoNames_45 rfl ?_
    refine q_aload_n hX d_Namings_whoNames_46 rfl ?_
    refine q_getR hX fl_Namings_23 kc_67 (rfl : qRF 67 3 = some 83) d_Namings_whoNames_47 ?_
    refine q_iload_n hX d_Namings_whoNames_50 rfl ?_
    refine q_aald hX kc_83 d_Namings_whoNames_51 h (fun _ => rfl) (fun hi2 h => ?_)
    refine q_iload hX d_Namings_whoNames_52 rfl ?_
    refine q_iald hX (kr_83 hi2) d_Namings_whoNames_54 h (fun hi3 h => ?_)
    refine q_iadd hX d_Namings_whoNames_55 ?_
    refine q_istore_n hX d_Namings_whoNames_56 (by decide) rfl rfl ?_
    refine q_iload_n hX d_Namings_whoNames_57 rfl ?_
    refine q_iload_n hX d_Namings_whoNames_58 rfl ?_
    refine q_icmp_ge hX d_Namings_whoNames_59 rfl h (fun _ h => ?_) (fun _ h => ?_)
    · refine q_iinc hX d_Namings_whoNames_72 rfl (ii_1 _) (by decide) rfl rfl ?_
      refine q_goto hX d_Namings_whoNames_75 rfl ?_
      exact q_mask [true, true, true, true, true] rfl (hk34 _ _ h)
    · refine q_aload_n hX d_Namings_whoNames_62 rfl ?_
      refine q_getR hX fl_Namings_20 kc_67 (rfl : qRF 67 2 = some 70) d_Namings_whoNames_63 ?_
      refine q_iload_n hX d_Namings_whoNames_66 rfl ?_
      refine q_aald hX kc_70 d_Namings_whoNames_67 h (fun _ => rfl) (fun hi4 h => ?_)
      refine q_iload hX d_Namings_whoNames_68 rfl ?_
      refine q_iald hX (kr_70 hi4) d_Namings_whoNames_70 h (fun hi5 h => ?_)
      exact q_iretR hX h hT d_Namings_whoNames_71
theorem t_Namings_whoNames_l34 {G : qG} {X : qX} (hX : qOk G X "ChantryRolls$Namings" prog_9_method_4_code 5 (some .int) 1) {u : Int32} {f : Nat} {σ : qMem} {x1 : Int32} {x2 : Int32} (hT : qTg G X 0 0 qKS qRF σ (some (.int u))) : ∀ (n : Nat) (x3 : Int32) (x4 : Int32), qfix2 (p_Namings_whoNames_l34 f  σ x1 x2 ) n x3 x4 = some u → qV G X 0 0 qKS qRF σ 34 [some (.ref 67), some (.int x1), some (.int x2), some (.int x3), some (.int x4)] [] :=
  qfix2_ind (fun k hk _ _ h => t_Namings_whoNames_lb34 hX   hT  hk h)
set_option maxHeartbeats 4000000 in
theorem c_Namings_whoNames (l : Launch) (G : qG) (hA : qAd G) (f : Nat) (σ : qMem) (x1 : Int32) (x2 : Int32) {u : Int32} (h : p_Namings_whoNames f σ x1 x2 = some u) : qCt l y_Namings_whoNames prog_9_method_4_code 5 (some .int) 1 G qKS qRF σ [(.ref 67), (.int x1), (.int x2)] (some (.int u)) qKS qRF σ 0 0 := by
  refine qCt.of (lv := [some (.ref 67), some (.int x1), some (.int x2), none, none]) (by decide) hA (Nat.le_of_ble_eq_true rfl) rfl ?_
  intro X hl _ _ _ hX hT
  subst hl
  unfold p_Namings_whoNames at h
  refine q_aload_n hX d_Namings_whoNames_0 rfl ?_
  refine q_getR hX fl_Namings_9 kc_67 (rfl : qRF 67 0 = some 68) d_Namings_whoNames_1 ?_
  refine q_iload_n hX d_Namings_whoNames_4 rfl ?_
  refine q_iald hX kc_68 d_Namings_whoNames_5 h (fun hi6 h => ?_)
  refine q_ldc hX w_264 d_Namings_whoNames_6 ?_
  refine q_icmp_eq hX d_Namings_whoNames_8 rfl h (fun _ h => ?_) (fun _ h => ?_)
  · refine q_ldc hX w_264 d_Namings_whoNames_21 ?_
    exact q_iretR hX h hT d_Namings_whoNames_23
  · refine q_iload_n hX d_Namings_whoNames_11 rfl ?_
    refine q_aload_n hX d_Namings_whoNames_12 rfl ?_
    refine q_getR hX fl_Namings_9 kc_67 (rfl : qRF 67 0 = some 68) d_Namings_whoNames_13 ?_
    refine q_iload_n hX d_Namings_whoNames_16 rfl ?_
    refine q_iald hX kc_68 d_Namings_whoNames_17 h (fun hi7 h => ?_)
    refine q_icmp_ge hX d_Namings_whoNames_18 rfl h (fun _ h => ?_) (fun _ h => ?_)
    · refine q_aload_n hX d_Namings_whoNames_24 rfl ?_
      refine q_getR hX fl_Namings_9 kc_67 (rfl : qRF 67 0 = some 68) d_Namings_whoNames_25 ?_
      refine q_iload_n hX d_Namings_whoNames_28 rfl ?_
      refine q_iald hX kc_68 d_Namings_whoNames_29 h (fun hi8 h => ?_)
      refine q_istore_n hX d_Namings_whoNames_30 (by decide) rfl rfl ?_
      refine q_iconst hX d_Namings_whoNames_31 ic_0 ?_
      refine q_istore hX d_Namings_whoNames_32 (by decide) rfl rfl ?_
      exact q_mask [true, true, true, true, true] rfl (t_Namings_whoNames_l34 hX hT f _ _ h)
    · refine q_ldc hX w_264 d_Namings_whoNames_21 ?_
      exact q_iretR hX h hT d_Namings_whoNames_23
set_option maxHeartbeats 4000000 in
theorem c_C_turn (l : Launch) (G : qG) (hA : qAd G) (f : Nat) (σ : qMem) (x1 : Int32) (x2 : Int32) {u : Int32} (h : p_C_turn f σ x1 x2 = some u) : qCt l y_C_turn prog_1_method_28_code 3 (some .int) 3 G qKS qRF σ [(.ref 0), (.int x1), (.int x2)] (some (.int u)) qKS qRF σ 0 0 := by
  refine qCt.of (lv := [some (.ref 0), some (.int x1), some (.int x2)]) (by decide) hA (Nat.le_of_ble_eq_true rfl) rfl ?_
  intro X hl _ _ _ hX hT
  subst hl
  unfold p_C_turn at h
  refine q_aload_n hX d_C_turn_0 rfl ?_
  refine q_getR hX fl_C_19 kc_0 (rfl : qRF 0 1 = some 13) d_C_turn_1 ?_
  refine q_iload_n hX d_C_turn_4 rfl ?_
  obtain ⟨u1, hc2, h⟩ := qbind h
  refine q_cVr hX (c_Promises_has X.l G hX.ad f _ _ hc2) cw_C_171 rfl kc_13 rfl (Nat.le_of_ble_eq_true rfl) rfl (Nat.le_of_ble_eq_true rfl) d_C_turn_5 ?_
  refine q_if_eq hX d_C_turn_8 rfl h (fun _ h => ?_) (fun _ h => ?_)
  · refine q_ldc hX w_383 d_C_turn_18 ?_
    exact q_iretR hX h hT d_C_turn_20
  · refine q_iload_n hX d_C_turn_11 rfl ?_
    obtain ⟨u3, hc4, h⟩ := qbind h
    refine q_cSr hX (c_C_noDay X.l G hX.ad f _ _ hc4) cw_C_178 rfl (Nat.le_of_ble_eq_true rfl) rfl (Nat.le_of_ble_eq_true rfl) d_C_turn_12 ?_
    refine q_if_eq hX d_C_turn_15 rfl h (fun _ h => ?_) (fun _ h => ?_)
    · refine q_aload_n hX d_C_turn_21 rfl ?_
      refine q_getR hX fl_C_86 kc_0 (rfl : qRF 0 11 = some 67) d_C_turn_22 ?_
      refine q_iload_n hX d_C_turn_25 rfl ?_
      refine q_iload_n hX d_C_turn_26 rfl ?_
      obtain ⟨u5, hc6, h⟩ := qbind h
      refine q_cVr hX (c_Namings_whoNames X.l G hX.ad f _ _ _ hc6) cw_C_285 rfl kc_67 rfl (Nat.le_of_ble_eq_true rfl) rfl (Nat.le_of_ble_eq_true rfl) d_C_turn_27 ?_
      exact q_iretR hX h hT d_C_turn_30
    · refine q_ldc hX w_383 d_C_turn_18 ?_
      exact q_iretR hX h hT d_C_turn_20
set_option maxHeartbeats 4000000 in
theorem c_Acts_full (l : Launch) (G : qG) (hA : qAd G) (f : Nat) (σ : qMem) {u : Int32} (h : p_Acts_full f σ  = some u) : qCt l y_Acts_full prog_2_method_3_code 1 (some .boolean) 1 G qKS qRF σ [(.ref 37)] (some (.int u)) qKS qRF σ 0 0 := by
  refine qCt.of (lv := [some (.ref 37)]) (by decide) hA (Nat.le_of_ble_eq_true rfl) rfl ?_
  intro X hl _ _ _ hX hT
  subst hl
  unfold p_Acts_full at h
  refine q_aload_n hX d_Acts_full_0 rfl ?_
  refine q_getI hX fl_Acts_24 kc_37 d_Acts_full_1 ?_
  refine q_bipush hX d_Acts_full_4 bp_10 ?_
  refine q_icmp_lt hX d_Acts_full_6 rfl h (fun _ h => ?_) (fun _ h => ?_)
  · refine q_iconst hX d_Acts_full_13 ic_0 ?_
    exact q_zretR hX zn_0 h hT d_Acts_full_14
  · refine q_iconst hX d_Acts_full_9 ic_1 ?_
    refine q_goto hX d_Acts_full_10 rfl ?_
    exact q_zretR hX zn_1 h hT d_Acts_full_14
set_option maxHeartbeats 4000000 in
theorem c_Acts_add (l : Launch) (G : qG) (hA : qAd G) (f : Nat) (σ : qMem) (x1 : Int32) (x2 : Int32) (x3 : Int32) (x4 : Int32) {u : Int32 × qMem} (h : p_Acts_add f σ x1 x2 x3 x4 = some u) : qCt l y_Acts_add prog_2_method_4_code 5 (some .int) 1 G qKS qRF σ [(.ref 37), (.int x1), (.int x2), (.int x3), (.int x4)] (some (.int u.1)) qKS qRF u.2 0 0 := by
  refine qCt.of (lv := [some (.ref 37), some (.int x1), some (.int x2), some (.int x3), some (.int x4)]) (by decide) hA (Nat.le_of_ble_eq_true rfl) rfl ?_
  intro X hl _ _ _ hX hT
  subst hl
  unfold p_Acts_add at h
  refine q_aload_n hX d_Acts_add_0 rfl ?_
  refine q_getR hX fl_Acts_11 kc_37 (rfl : qRF 37 1 = some 38) d_Acts_add_1 ?_
  refine q_aload_n hX d_Acts_add_4 rfl ?_
  refine q_getI hX fl_Acts_24 kc_37 d_Acts_add_5 ?_
  refine q_iload_n hX d_Acts_add_8 rfl ?_
  refine q_iast hX kc_38 qKS_len d_Acts_add_9 h (fun hi1 h => ?_)
  refine q_aload_n hX d_Acts_add_10 rfl ?_
  refine q_getR hX fl_Acts_15 kc_37 (rfl : qRF 37 2 = some 39) d_Acts_add_11 ?_
  refine q_aload_n hX d_Acts_add_14 rfl ?_
  refine q_getI hX fl_Acts_24 kc_37 d_Acts_add_15 ?_
  refine q_iload_n hX d_Acts_add_18 rfl ?_
  refine q_iast hX kc_39 qKS_len d_Acts_add_19 h (fun hi2 h => ?_)
  refine q_aload_n hX d_Acts_add_20 rfl ?_
  refine q_getR hX fl_Acts_18 kc_37 (rfl : qRF 37 3 = some 40) d_Acts_add_21 ?_
  refine q_aload_n hX d_Acts_add_24 rfl ?_
  refine q_getI hX fl_Acts_24 kc_37 d_Acts_add_25 ?_
  refine q_iload_n hX d_Acts_add_28 rfl ?_
  refine q_iast hX kc_40 qKS_len d_Acts_add_29 h (fun hi3 h => ?_)
  refine q_aload_n hX d_Acts_add_30 rfl ?_
  refine q_getR hX fl_Acts_21 kc_37 (rfl : qRF 37 4 = some 41) d_Acts_add_31 ?_
  refine q_aload_n hX d_Acts_add_34 rfl ?_
  refine q_getI hX fl_Acts_24 kc_37 d_Acts_add_35 ?_
  refine q_iload hX d_Acts_add_38 rfl ?_
  refine q_iast hX kc_41 qKS_len d_Acts_add_40 h (fun hi4 h => ?_)
  refine q_aload_n hX d_Acts_add_41 rfl ?_
  refine q_dup hX rfl d_Acts_add_42 ?_
  refine q_getI hX fl_Acts_24 kc_37 d_Acts_add_43 ?_
  refine q_iconst hX d_Acts_add_46 ic_1 ?_
  refine q_iadd hX d_Acts_add_47 ?_
  refine q_putI hX fl_Acts_24 kc_37 rfl qKS_len d_Acts_add_48 ?_
  refine q_aload_n hX d_Acts_add_51 rfl ?_
  refine q_getI hX fl_Acts_24 kc_37 d_Acts_add_52 ?_
  exact q_iretW hX h hT d_Acts_add_55
set_option maxHeartbeats 4000000 in
theorem c_C_act (l : Launch) (G : qG) (hA : qAd G) (f : Nat) (σ : qMem) (x1 : Int32) (x2 : Int32) (x3 : Int32) (x4 : Int32) {u : Int32 × qMem} (h : p_C_act f σ x1 x2 x3 x4 = some u) : qCt l y_C_act prog_1_method_29_code 6 (some .int) 7 G qKS qRF σ [(.ref 0), (.int x1), (.int x2), (.int x3), (.int x4)] (some (.int u.1)) qKS qRF u.2 0 0 := by
  refine qCt.of (lv := [some (.ref 0), some (.int x1), some (.int x2), some (.int x3), some (.int x4), none]) (by decide) hA (Nat.le_of_ble_eq_true rfl) rfl ?_
  intro X hl _ _ _ hX hT
  subst hl
  unfold p_C_act at h
  refine q_iload_n hX d_C_act_0 rfl ?_
  obtain ⟨u1, hc2, h⟩ := qbind h
  refine q_cSr hX (c_C_noDay X.l G hX.ad f _ _ hc2) cw_C_178 rfl (Nat.le_of_ble_eq_true rfl) rfl (Nat.le_of_ble_eq_true rfl) d_C_act_1 ?_
  refine q_if_ne hX d_C_act_4 rfl h (fun _ h => ?_) (fun _ h => ?_)
  · refine q_ldc hX w_383 d_C_act_37 ?_
    exact q_iretW hX h hT d_C_act_39
  · refine q_iload_n hX d_C_act_7 rfl ?_
    refine q_iconst hX d_C_act_8 ic_0 ?_
    refine q_bipush hX d_C_act_9 bp_99 ?_
    obtain ⟨u3, hc4, h⟩ := qbind h
    refine q_cSr hX (c_C_outside X.l G hX.ad f _ _ _ _ hc4) cw_C_122 rfl (Nat.le_of_ble_eq_true rfl) rfl (Nat.le_of_ble_eq_true rfl) d_C_act_11 ?_
    refine q_if_ne hX d_C_act_14 rfl h (fun _ h => ?_) (fun _ h => ?_)
    · refine q_ldc hX w_383 d_C_act_37 ?_
      exact q_iretW hX h hT d_C_act_39
    · refine q_iload_n hX d_C_act_17 rfl ?_
      refine q_iload_n hX d_C_act_18 rfl ?_
      refine q_bipush hX d_C_act_19 bp_99 ?_
      obtain ⟨u5, hc6, h⟩ := qbind h
      refine q_cSr hX (c_C_outside X.l G hX.ad f _ _ _ _ hc6) cw_C_122 rfl (Nat.le_of_ble_eq_true rfl) rfl (Nat.le_of_ble_eq_true rfl) d_C_act_21 ?_
      refine q_if_ne hX d_C_act_24 rfl h (fun _ h => ?_) (fun _ h => ?_)
      · refine q_ldc hX w_383 d_C_act_37 ?_
        exact q_iretW hX h hT d_C_act_39
      · refine q_iload hX d_C_act_27 rfl ?_
        refine q_iconst hX d_C_act_29 ic_0 ?_
        refine q_iconst hX d_C_act_30 ic_1 ?_
        obtain ⟨u7, hc8, h⟩ := qbind h
        refine q_cSr hX (c_C_outside X.l G hX.ad f _ _ _ _ hc8) cw_C_122 rfl (Nat.le_of_ble_eq_true rfl) rfl (Nat.le_of_ble_eq_true rfl) d_C_act_31 ?_
        refine q_if_eq hX d_C_act_34 rfl h (fun _ h => ?_) (fun _ h => ?_)
        · refine q_aload_n hX d_C_act_40 rfl ?_
          refine q_getR hX fl_C_53 kc_0 (rfl : qRF 0 6 = some 37) d_C_act_41 ?_
          obtain ⟨u9, hc10, h⟩ := qbind h
          refine q_cVr hX (c_Acts_full X.l G hX.ad f _  hc10) cw_C_288 rfl kc_37 rfl (Nat.le_of_ble_eq_true rfl) rfl (Nat.le_of_ble_eq_true rfl) d_C_act_44 ?_
          refine q_if_eq hX d_C_act_47 rfl h (fun _ h => ?_) (fun _ h => ?_)
          · refine q_aload_n hX d_C_act_53 rfl ?_
            refine q_getR hX fl_C_53 kc_0 (rfl : qRF 0 6 = some 37) d_C_act_54 ?_
            refine q_iload_n hX d_C_act_57 rfl ?_
            refine q_iload_n hX d_C_act_58 rfl ?_
            refine q_iload_n hX d_C_act_59 rfl ?_
            refine q_iload hX d_C_act_60 rfl ?_
            obtain ⟨u11, hc12, h⟩ := qbind h
            refine q_cVr hX (c_Acts_add X.l G hX.ad f _ _ _ _ _ hc12) cw_C_289 rfl kc_37 rfl (Nat.le_of_ble_eq_true rfl) rfl (Nat.le_of_ble_eq_true rfl) d_C_act_62 ?_
            refine q_istore hX d_C_act_65 (by decide) rfl rfl ?_
            refine q_aload_n hX d_C_act_67 rfl ?_
            refine q_getR hX fl_C_62 kc_0 (rfl : qRF 0 7 = some 42) d_C_act_68 ?_
            obtain ⟨u13, hc14, h⟩ := qbind h
            refine q_cVv hX (c_Lines_judge X.l G hX.ad f _  hc14) cw_C_199 rfl kc_42 rfl (Nat.le_of_ble_eq_true rfl) rfl (Nat.le_of_ble_eq_true rfl) d_C_act_71 ?_
            refine q_iload hX d_C_act_74 rfl ?_
            exact q_iretW hX h hT d_C_act_76
          · refine q_ldc hX w_609 d_C_act_50 ?_
            exact q_iretW hX h hT d_C_act_52
        · refine q_ldc hX w_383 d_C_act_37 ?_
          exact q_iretW hX h hT d_C_act_39
set_option maxHeartbeats 4000000 in
theorem c_C_taken (l : Launch) (G : qG) (hA : qAd G) (f : Nat) (σ : qMem) (x1 : Int32) {u : Int32} (h : p_C_taken f σ x1 = some u) : qCt l y_C_taken prog_1_method_30_code 2 (some .int) 3 G qKS qRF σ [(.ref 0), (.int x1)] (some (.int u)) qKS qRF σ 0 0 := by
  refine qCt.of (lv := [some (.ref 0), some (.int x1)]) (by decide) hA (Nat.le_of_ble_eq_true rfl) rfl ?_
  intro X hl _ _ _ hX hT
  subst hl
  unfold p_C_taken at h
  refine q_aload_n hX d_C_taken_0 rfl ?_
  refine q_getR hX fl_C_19 kc_0 (rfl : qRF 0 1 = some 13) d_C_taken_1 ?_
  refine q_iload_n hX d_C_taken_4 rfl ?_
  obtain ⟨u1, hc2, h⟩ := qbind h
  refine q_cVr hX (c_Promises_has X.l G hX.ad f _ _ hc2) cw_C_171 rfl kc_13 rfl (Nat.le_of_ble_eq_true rfl) rfl (Nat.le_of_ble_eq_true rfl) d_C_taken_5 ?_
  refine q_if_ne hX d_C_taken_8 rfl h (fun _ h => ?_) (fun _ h => ?_)
  · refine q_aload_n hX d_C_taken_14 rfl ?_
    refine q_getR hX fl_C_53 kc_0 (rfl : qRF 0 6 = some 37) d_C_taken_15 ?_
    refine q_iload_n hX d_C_taken_18 rfl ?_
    obtain ⟨u3, hc4, h⟩ := qbind h
    refine q_cVr hX (c_Acts_dayOfTaking X.l G hX.ad f _ _ hc4) cw_C_292 rfl kc_37 rfl (Nat.le_of_ble_eq_true rfl) rfl (Nat.le_of_ble_eq_true rfl) d_C_taken_19 ?_
    exact q_iretR hX h hT d_C_taken_22
  · refine q_ldc hX w_383 d_C_taken_11 ?_
    exact q_iretR hX h hT d_C_taken_13
set_option maxHeartbeats 4000000 in
theorem t_C_pension_lb25 {G : qG} {X : qX} (hX : qOk G X "ChantryRolls" prog_1_method_31_code 6 (some .int) 6) {u : Int32} {f : Nat} {σ : qMem} {x1 : Int32} {x2 : Int32} (hT : qTg G X 0 0 qKS qRF σ (some (.int u))) {k25 : Int32 → Int32 → Option (Int32)} (hk25 : ∀ (x3 : Int32) (x4 : Int32), k25 x3 x4 = some u → qV G X 0 0 qKS qRF σ 25 [some (.ref 0), some (.int x1), some (.int x2), some (.int x3), some (.int x4), none] []) {x3 : Int32} {x4 : Int32} (h : p_C_pension_l25 f  σ x1 x2  k25 x3 x4 = some u) : qV G X 0 0 qKS qRF σ 25 [some (.ref 0), some (.int x1), some (.int x2), some (.int x3), some (.int x4), none] [] := by
  unfold p_C_pension_l25 at h
  refine q_iload hX d_C_pension_25 rfl ?_
  refine q_aload_n hX d_C_pension_27 rfl ?_
  refine q_getR hX fl_C_19 kc_0 (rfl : qRF 0 1 = some 13) d_C_pension_28 ?_
  obtain ⟨u1, hc2, h⟩ := qbind h
  refine q_cVr hX (c_Promises_size X.l G hX.ad f _  hc2) cw_C_274 rfl kc_13 rfl (Nat.le_of_ble_eq_true rfl) rfl (Nat.le_of_ble_eq_true rfl) d_C_pension_31 ?_
  refine q_icmp_ge hX d_C_pension_34 rfl h (fun _ h => ?_) (fun _ h => ?_)
  · refine q_iload_n hX d_C_pension_104 rfl ?_
    refine q_sipush hX d_C_pension_105 sp_200 ?_
    refine q_mmin hX w_878 (by decide) (Nat.le_of_ble_eq_true rfl) d_C_pension_108 ?_
    exact q_iretR hX h hT d_C_pension_111
  · refine q_aload_n hX d_C_pension_37 rfl ?_
    refine q_getR hX fl_C_19 kc_0 (rfl : qRF 0 1 = some 13) d_C_pension_38 ?_
    refine q_iload hX d_C_pension_41 rfl ?_
    refine q_iconst hX d_C_pension_43 ic_3 ?_
    obtain ⟨u3, hc4, h⟩ := qbind h
    refine q_cVr hX (c_Promises_of X.l G hX.ad f _ _ _ hc4) cw_C_174 rfl kc_13 rfl (Nat.le_of_ble_eq_true rfl) rfl (Nat.le_of_ble_eq_true rfl) d_C_pension_44 ?_
    refine q_iload_n hX d_C_pension_47 rfl ?_
    refine q_icmp_ne hX d_C_pension_48 rfl h (fun _ h => ?_) (fun _ h => ?_)
    · refine q_iinc hX d_C_pension_98 rfl (ii_1 _) (by decide) rfl rfl ?_
      refine q_goto hX d_C_pension_101 rfl ?_
      exact q_mask [true, true, true, true, true, false] rfl (hk25 _ _ h)
    · refine q_aload_n hX d_C_pension_51 rfl ?_
      refine q_getR hX fl_C_53 kc_0 (rfl : qRF 0 6 = some 37) d_C_pension_52 ?_
      refine q_iload hX d_C_pension_55 rfl ?_
      refine q_iload_n hX d_C_pension_57 rfl ?_
      obtain ⟨u5, hc6, h⟩ := qbind h
      refine q_cVr hX (c_Acts_takenBy X.l G hX.ad f _ _ _ hc6) cw_C_295 rfl kc_37 rfl (Nat.le_of_ble_eq_true rfl) rfl (Nat.le_of_ble_eq_true rfl) d_C_pension_58 ?_
      refine q_if_eq hX d_C_pension_61 rfl h (fun _ h => ?_) (fun _ h => ?_)
      · refine q_iinc hX d_C_pension_98 rfl (ii_1 _) (by decide) rfl rfl ?_
        refine q_goto hX d_C_pension_101 rfl ?_
        exact q_mask [true, true, true, true, true, false] rfl (hk25 _ _ h)
      · refine q_aload_n hX d_C_pension_64 rfl ?_
        refine q_getR hX fl_C_53 kc_0 (rfl : qRF 0 6 = some 37) d_C_pension_65 ?_
        refine q_iload hX d_C_pension_68 rfl ?_
        obtain ⟨u7, hc8, h⟩ := qbind h
        refine q_cVr hX (c_Acts_dayOfTaking X.l G hX.ad f _ _ hc8) cw_C_292 rfl kc_37 rfl (Nat.le_of_ble_eq_true rfl) rfl (Nat.le_of_ble_eq_true rfl) d_C_pension_70 ?_
        refine q_sipush hX d_C_pension_73 sp_360 ?_
        refine q_idiv hX d_C_pension_76 (by decide) ?_
        refine q_istore hX d_C_pension_77 (by decide) rfl rfl ?_
        refine q_iload_n hX d_C_pension_79 rfl ?_
        refine q_aload_n hX d_C_pension_80 rfl ?_
        refine q_iload hX d_C_pension_81 rfl ?_
        refine q_iconst hX d_C_pension_83 ic_0 ?_
        refine q_iload hX d_C_pension_84 rfl ?_
        refine q_iconst hX d_C_pension_86 ic_1 ?_
        refine q_isub hX d_C_pension_87 ?_
        refine q_mmax hX w_655 (by decide) (Nat.le_of_ble_eq_true rfl) d_C_pension_88 ?_
        obtain ⟨u9, hc10, h⟩ := qbind h
        refine q_cVr hX (c_C_comesTo X.l G hX.ad f _ _ _ hc10) cw_C_259 rfl kc_0 rfl (Nat.le_of_ble_eq_true rfl) rfl (Nat.le_of_ble_eq_true rfl) d_C_pension_91 ?_
        refine q_iconst hX d_C_pension_94 ic_2 ?_
        refine q_idiv hX d_C_pension_95 (by decide) ?_
        refine q_iadd hX d_C_pension_96 ?_
        refine q_istore_n hX d_C_pension_97 (by decide) rfl rfl ?_
        refine q_iinc hX d_C_pension_98 rfl (ii_1 _) (by decide) rfl rfl ?_
        refine q_goto hX d_C_pension_101 rfl ?_
        exact q_mask [true, true, true, true, true, false] rfl (hk25 _ _ h)
theorem t_C_pension_l25 {G : qG} {X : qX} (hX : qOk G X "ChantryRolls" prog_1_method_31_code 6 (some .int) 6) {u : Int32} {f : Nat} {σ : qMem} {x1 : Int32} {x2 : Int32} (hT : qTg G X 0 0 qKS qRF σ (some (.int u))) : ∀ (n : Nat) (x3 : Int32) (x4 : Int32), qfix2 (p_C_pension_l25 f  σ x1 x2 ) n x3 x4 = some u → qV G X 0 0 qKS qRF σ 25 [some (.ref 0), some (.int x1), some (.int x2), some (.int x3), some (.int x4), none] [] :=
  qfix2_ind (fun k hk _ _ h => t_C_pension_lb25 hX   hT  hk h)
set_option maxHeartbeats 4000000 in
theorem c_C_pension (l : Launch) (G : qG) (hA : qAd G) (f : Nat) (σ : qMem) (x1 : Int32) (x2 : Int32) {u : Int32} (h : p_C_pension f σ x1 x2 = some u) : qCt l y_C_pension prog_1_method_31_code 6 (some .int) 6 G qKS qRF σ [(.ref 0), (.int x1), (.int x2)] (some (.int u)) qKS qRF σ 0 0 := by
  refine qCt.of (lv := [some (.ref 0), some (.int x1), some (.int x2), none, none, none]) (by decide) hA (Nat.le_of_ble_eq_true rfl) rfl ?_
  intro X hl _ _ _ hX hT
  subst hl
  unfold p_C_pension at h
  refine q_iload_n hX d_C_pension_0 rfl ?_
  refine q_iconst hX d_C_pension_1 ic_0 ?_
  refine q_bipush hX d_C_pension_2 bp_7 ?_
  obtain ⟨u11, hc12, h⟩ := qbind h
  refine q_cSr hX (c_C_outside X.l G hX.ad f _ _ _ _ hc12) cw_C_122 rfl (Nat.le_of_ble_eq_true rfl) rfl (Nat.le_of_ble_eq_true rfl) d_C_pension_4 ?_
  refine q_if_ne hX d_C_pension_7 rfl h (fun _ h => ?_) (fun _ h => ?_)
  · refine q_ldc hX w_383 d_C_pension_17 ?_
    exact q_iretR hX h hT d_C_pension_19
  · refine q_iload_n hX d_C_pension_10 rfl ?_
    obtain ⟨u13, hc14, h⟩ := qbind h
    refine q_cSr hX (c_C_noDay X.l G hX.ad f _ _ hc14) cw_C_178 rfl (Nat.le_of_ble_eq_true rfl) rfl (Nat.le_of_ble_eq_true rfl) d_C_pension_11 ?_
    refine q_if_eq hX d_C_pension_14 rfl h (fun _ h => ?_) (fun _ h => ?_)
    · refine q_iconst hX d_C_pension_20 ic_0 ?_
      refine q_istore_n hX d_C_pension_21 (by decide) rfl rfl ?_
      refine q_iconst hX d_C_pension_22 ic_0 ?_
      refine q_istore hX d_C_pension_23 (by decide) rfl rfl ?_
      exact q_mask [true, true, true, true, true, false] rfl (t_C_pension_l25 hX hT f _ _ h)
    · refine q_ldc hX w_383 d_C_pension_17 ?_
      exact q_iretR hX h hT d_C_pension_19
set_option maxHeartbeats 4000000 in
theorem c_Houses_bidsFull (l : Launch) (G : qG) (hA : qAd G) (f : Nat) (σ : qMem) {u : Int32} (h : p_Houses_bidsFull f σ  = some u) : qCt l y_Houses_bidsFull prog_6_method_11_code 1 (some .boolean) 1 G qKS qRF σ [(.ref 53)] (some (.int u)) qKS qRF σ 0 0 := by
  refine qCt.of (lv := [some (.ref 53)]) (by decide) hA (Nat.le_of_ble_eq_true rfl) rfl ?_
  intro X hl _ _ _ hX hT
  subst hl
  unfold p_Houses_bidsFull at h
  refine q_aload_n hX d_Houses_bidsFull_0 rfl ?_
  refine q_getI hX fl_Houses_47 kc_53 d_Houses_bidsFull_1 ?_
  refine q_bipush hX d_Houses_bidsFull_4 bp_20 ?_
  refine q_icmp_lt hX d_Houses_bidsFull_6 rfl h (fun _ h => ?_) (fun _ h => ?_)
  · refine q_iconst hX d_Houses_bidsFull_13 ic_0 ?_
    exact q_zretR hX zn_0 h hT d_Houses_bidsFull_14
  · refine q_iconst hX d_Houses_bidsFull_9 ic_1 ?_
    refine q_goto hX d_Houses_bidsFull_10 rfl ?_
    exact q_zretR hX zn_1 h hT d_Houses_bidsFull_14
