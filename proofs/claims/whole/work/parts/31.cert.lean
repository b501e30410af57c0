set_option maxHeartbeats 4000000 in
theorem t_Feasts_wantedTill_b114 {G : qG} {X : qX} (hX : qOk G X "ChantryRolls$Feasts" prog_5_method_6_code 10 (some .int) 2) {u : Int32} {f : Nat} {k34 : Int32 → Int32 → Option (Int32)} {σ : qMem} {x1 : Int32} {x3 : Int32} {x4 : Int32} {x5 : Int32} {x6 : Int32} {x7 : Int32} {x8 : Int32} {s0 : Int32} (hT : qTg G X 0 0 qKS qRF σ (some (.int u))) (hk34 : ∀ (x6 : Int32) (x7 : Int32), k34 x6 x7 = some u → qV G X 0 0 qKS qRF σ 34 [some (.ref 29), some (.int x1), none, some (.int x3), some (.int x4), some (.int x5), some (.int x6), some (.int x7), none, none] []) (h : p_Feasts_wantedTill_b114 f   k34 σ x1 x3 x4 x5 x6 x7 x8 s0 = some u) : qV G X 0 0 qKS qRF σ 114 [some (.ref 29), some (.int x1), none, some (.int x3), some (.int x4), some (.int x5), some (.int x6), some (.int x7), some (.int x8), none] [(.int s0)] := by
  unfold p_Feasts_wantedTill_b114 at h
  refine q_istore hX d_Feasts_wantedTill_114 (by decide) rfl rfl ?_
  refine q_iload hX d_Feasts_wantedTill_116 rfl ?_
  refine q_if_eq hX d_Feasts_wantedTill_118 rfl h (fun _ h => ?_) (fun _ h => ?_)
  · refine q_iinc hX d_Feasts_wantedTill_129 rfl (ii_1 _) (by decide) rfl rfl ?_
    refine q_goto hX d_Feasts_wantedTill_132 rfl ?_
    exact q_mask [true, true, false, true, true, true, true, true, false, false] rfl (hk34 _ _ h)
  · refine q_iload hX d_Feasts_wantedTill_121 rfl ?_
    refine q_if_ne hX d_Feasts_wantedTill_123 rfl h (fun _ h => ?_) (fun _ h => ?_)
    · refine q_iinc hX d_Feasts_wantedTill_129 rfl (ii_1 _) (by decide) rfl rfl ?_
      refine q_goto hX d_Feasts_wantedTill_132 rfl ?_
      exact q_mask [true, true, false, true, true, true, true, true, false, false] rfl (hk34 _ _ h)
    · refine q_iinc hX d_Feasts_wantedTill_126 rfl (ii_m1 _) (by decide) rfl rfl ?_
      refine q_iinc hX d_Feasts_wantedTill_129 rfl (ii_1 _) (by decide) rfl rfl ?_
      refine q_goto hX d_Feasts_wantedTill_132 rfl ?_
      exact q_mask [true, true, false, true, true, true, true, true, false, false] rfl (hk34 _ _ h)
set_option maxHeartbeats 4000000 in
theorem t_Feasts_wantedTill_b113 {G : qG} {X : qX} (hX : qOk G X "ChantryRolls$Feasts" prog_5_method_6_code 10 (some .int) 2) {u : Int32} {f : Nat} {k34 : Int32 → Int32 → Option (Int32)} {σ : qMem} {x1 : Int32} {x3 : Int32} {x4 : Int32} {x5 : Int32} {x6 : Int32} {x7 : Int32} {x8 : Int32} (hT : qTg G X 0 0 qKS qRF σ (some (.int u))) (hk34 : ∀ (x6 : Int32) (x7 : Int32), k34 x6 x7 = some u → qV G X 0 0 qKS qRF σ 34 [some (.ref 29), some (.int x1), none, some (.int x3), some (.int x4), some (.int x5), some (.int x6), some (.int x7), none, none] []) (h : p_Feasts_wantedTill_b113 f   k34 σ x1 x3 x4 x5 x6 x7 x8 = some u) : qV G X 0 0 qKS qRF σ 113 [some (.ref 29), some (.int x1), none, some (.int x3), some (.int x4), some (.int x5), some (.int x6), some (.int x7), some (.int x8), none] [] := by
  unfold p_Feasts_wantedTill_b113 at h
  refine q_iconst hX d_Feasts_wantedTill_113 ic_0 ?_
  exact q_mask [true, true, false, true, true, true, true, true, true, false] rfl (t_Feasts_wantedTill_b114 hX hT hk34 h)
set_option maxHeartbeats 4000000 in
theorem t_Feasts_wantedTill_b85 {G : qG} {X : qX} (hX : qOk G X "ChantryRolls$Feasts" prog_5_method_6_code 10 (some .int) 2) {u : Int32} {f : Nat} {k34 : Int32 → Int32 → Option (Int32)} {σ : qMem} {x1 : Int32} {x3 : Int32} {x4 : Int32} {x5 : Int32} {x6 : Int32} {x7 : Int32} {s0 : Int32} (hT : qTg G X 0 0 qKS qRF σ (some (.int u))) (hk34 : ∀ (x6 : Int32) (x7 : Int32), k34 x6 x7 = some u → qV G X 0 0 qKS qRF σ 34 [some (.ref 29), some (.int x1), none, some (.int x3), some (.int x4), some (.int x5), some (.int x6), some (.int x7), none, none] []) (h : p_Feasts_wantedTill_b85 f   k34 σ x1 x3 x4 x5 x6 x7 s0 = some u) : qV G X 0 0 qKS qRF σ 85 [some (.ref 29), some (.int x1), none, some (.int x3), some (.int x4), some (.int x5), some (.int x6), some (.int x7), none, none] [(.int s0)] := by
  unfold p_Feasts_wantedTill_b85 at h
  refine q_istore hX d_Feasts_wantedTill_85 (by decide) rfl rfl ?_
  refine q_aload_n hX d_Feasts_wantedTill_87 rfl ?_
  refine q_getR hX fl_Feasts_13 kc_29 (rfl : qRF 29 1 = some 31) d_Feasts_wantedTill_88 ?_
  refine q_iload hX d_Feasts_wantedTill_91 rfl ?_
  refine q_iald hX kc_31 d_Feasts_wantedTill_93 h (fun hi1 h => ?_)
  refine q_iconst hX d_Feasts_wantedTill_94 ic_1 ?_
  refine q_icmp_ne hX d_Feasts_wantedTill_95 rfl h (fun _ h => ?_) (fun _ h => ?_)
  · exact q_mask [true, true, false, true, true, true, true, true, true, false] rfl (t_Feasts_wantedTill_b113 hX hT hk34 h)
  · refine q_aload_n hX d_Feasts_wantedTill_98 rfl ?_
    refine q_iload hX d_Feasts_wantedTill_99 rfl ?_
    obtain ⟨u2, hc3, h⟩ := qbind h
    refine q_cVr hX (c_Feasts_dayBehind X.l G hX.ad f _ _ hc3) cw_Feasts_36 rfl kc_29 rfl (Nat.le_of_ble_eq_true rfl) rfl (Nat.le_of_ble_eq_true rfl) d_Feasts_wantedTill_101 ?_
    refine q_iload hX d_Feasts_wantedTill_104 rfl ?_
    refine q_icmp_gt hX d_Feasts_wantedTill_106 rfl h (fun _ h => ?_) (fun _ h => ?_)
    · exact q_mask [true, true, false, true, true, true, true, true, true, false] rfl (t_Feasts_wantedTill_b113 hX hT hk34 h)
    · refine q_iconst hX d_Feasts_wantedTill_109 ic_1 ?_
      refine q_goto hX d_Feasts_wantedTill_110 rfl ?_
      exact q_mask [true, true, false, true, true, true, true, true, true, false] rfl (t_Feasts_wantedTill_b114 hX hT hk34 h)
set_option maxHeartbeats 4000000 in
theorem t_Feasts_wantedTill_b84 {G : qG} {X : qX} (hX : qOk G X "ChantryRolls$Feasts" prog_5_method_6_code 10 (some .int) 2) {u : Int32} {f : Nat} {k34 : Int32 → Int32 → Option (Int32)} {σ : qMem} {x1 : Int32} {x3 : Int32} {x4 : Int32} {x5 : Int32} {x6 : Int32} {x7 : Int32} (hT : qTg G X 0 0 qKS qRF σ (some (.int u))) (hk34 : ∀ (x6 : Int32) (x7 : Int32), k34 x6 x7 = some u → qV G X 0 0 qKS qRF σ 34 [some (.ref 29), some (.int x1), none, some (.int x3), some (.int x4), some (.int x5), some (.int x6), some (.int x7), none, none] []) (h : p_Feasts_wantedTill_b84 f   k34 σ x1 x3 x4 x5 x6 x7 = some u) : qV G X 0 0 qKS qRF σ 84 [some (.ref 29), some (.int x1), none, some (.int x3), some (.int x4), some (.int x5), some (.int x6), some (.int x7), none, none] [] := by
  unfold p_Feasts_wantedTill_b84 at h
  refine q_iconst hX d_Feasts_wantedTill_84 ic_0 ?_
  exact q_mask [true, true, false, true, true, true, true, true, false, false] rfl (t_Feasts_wantedTill_b85 hX hT hk34 h)
set_option maxHeartbeats 4000000 in
theorem t_Feasts_wantedTill_lb34 {G : qG} {X : qX} (hX : qOk G X "ChantryRolls$Feasts" prog_5_method_6_code 10 (some .int) 2) {u : Int32} {f : Nat} {σ : qMem} {x1 : Int32} {x3 : Int32} {x4 : Int32} {x5 : Int32} (hT : qTg G X 0 0 qKS qRF σ (some (.int u))) {k34 : Int32 → Int32 → Option (Int32)} (hk34 : ∀ (x6 : Int32) (x7 : Int32), k34 x6 x7 = some u → qV G X 0 0 qKS qRF σ 34 [some (.ref 29), some (.int x1), none, some (.int x3), some (.int x4), some (.int x5), some (.int x6), some (.int x7), none, none] []) {x6 : Int32} {x7 : Int32} (h : p_Feasts_wantedTill_l34 f  σ x1 x3 x4 x5  k34 x6 x7 = some u) : qV G X 0 0 qKS qRF σ 34 [some (.ref 29), some (.int x1), none, some (.int x3), some (.int x4), some (.int x5), some (.int x6), some (.int x7), none, none] [] := by
  unfold p_Feasts_wantedTill_l34 at h
  refine q_iload hX d_Feasts_wantedTill_34 rfl ?_
  refine q_aload_n hX d_Feasts_wantedTill_36 rfl ?_
  refine q_getI hX fl_Feasts_16 kc_29 d_Feasts_wantedTill_37 ?_
  refine q_icmp_ge hX d_Feasts_wantedTill_40 rfl h (fun _ h => ?_) (fun _ h => ?_)
  · refine q_iload hX d_Feasts_wantedTill_135 rfl ?_
    exact q_iretR hX h hT d_Feasts_wantedTill_137
  · refine q_aload_n hX d_Feasts_wantedTill_43 rfl ?_
    refine q_getR hX fl_Feasts_9 kc_29 (rfl : qRF 29 0 = some 30) d_Feasts_wantedTill_44 ?_
    refine q_iload hX d_Feasts_wantedTill_47 rfl ?_
    refine q_iald hX kc_30 d_Feasts_wantedTill_49 h (fun hi4 h => ?_)
    refine q_iload hX d_Feasts_wantedTill_50 rfl ?_
    refine q_icmp_gt hX d_Feasts_wantedTill_52 rfl h (fun _ h => ?_) (fun _ h => ?_)
    · refine q_iload hX d_Feasts_wantedTill_135 rfl ?_
      exact q_iretR hX h hT d_Feasts_wantedTill_137
    · refine q_aload_n hX d_Feasts_wantedTill_55 rfl ?_
      refine q_getR hX fl_Feasts_9 kc_29 (rfl : qRF 29 0 = some 30) d_Feasts_wantedTill_56 ?_
      refine q_iload hX d_Feasts_wantedTill_59 rfl ?_
      refine q_iald hX kc_30 d_Feasts_wantedTill_61 h (fun hi5 h => ?_)
      refine q_iload_n hX d_Feasts_wantedTill_62 rfl ?_
      refine q_icmp_lt hX d_Feasts_wantedTill_63 rfl h (fun _ h => ?_) (fun _ h => ?_)
      · exact q_mask [true, true, false, true, true, true, true, true, false, false] rfl (t_Feasts_wantedTill_b84 hX hT hk34 h)
      · refine q_aload_n hX d_Feasts_wantedTill_66 rfl ?_
        refine q_getR hX fl_Feasts_9 kc_29 (rfl : qRF 29 0 = some 30) d_Feasts_wantedTill_67 ?_
        refine q_iload hX d_Feasts_wantedTill_70 rfl ?_
        refine q_iald hX kc_30 d_Feasts_wantedTill_72 h (fun hi6 h => ?_)
        refine q_iload_n hX d_Feasts_wantedTill_73 rfl ?_
        refine q_isub hX d_Feasts_wantedTill_74 ?_
        refine q_iload_n hX d_Feasts_wantedTill_75 rfl ?_
        obtain ⟨hz, h⟩ := qg_nz h
        refine q_irem hX d_Feasts_wantedTill_76 hz ?_
        refine q_if_ne hX d_Feasts_wantedTill_77 rfl h (fun _ h => ?_) (fun _ h => ?_)
        · exact q_mask [true, true, false, true, true, true, true, true, false, false] rfl (t_Feasts_wantedTill_b84 hX hT hk34 h)
        · refine q_iconst hX d_Feasts_wantedTill_80 ic_1 ?_
          refine q_goto hX d_Feasts_wantedTill_81 rfl ?_
          exact q_mask [true, true, false, true, true, true, true, true, false, false] rfl (t_Feasts_wantedTill_b85 hX hT hk34 h)
theorem t_Feasts_wantedTill_l34 {G : qG} {X : qX} (hX : qOk G X "ChantryRolls$Feasts" prog_5_method_6_code 10 (some .int) 2) {u : Int32} {f : Nat} {σ : qMem} {x1 : Int32} {x3 : Int32} {x4 : Int32} {x5 : Int32} (hT : qTg G X 0 0 qKS qRF σ (some (.int u))) : ∀ (n : Nat) (x6 : Int32) (x7 : Int32), qfix2 (p_Feasts_wantedTill_l34 f  σ x1 x3 x4 x5 ) n x6 x7 = some u → qV G X 0 0 qKS qRF σ 34 [some (.ref 29), some (.int x1), none, some (.int x3), some (.int x4), some (.int x5), some (.int x6), some (.int x7), none, none] [] :=
  qfix2_ind (fun k hk _ _ h => t_Feasts_wantedTill_lb34 hX   hT  hk h)
set_option maxHeartbeats 4000000 in
theorem c_Feasts_wantedTill (l : Launch) (G : qG) (hA : qAd G) (f : Nat) (σ : qMem) (x1 : Int32) (x2 : Int32) (x3 : Int32) (x4 : Int32) {u : Int32} (h : p_Feasts_wantedTill f σ x1 x2 x3 x4 = some u) : qCt l y_Feasts_wantedTill prog_5_method_6_code 10 (some .int) 2 G qKS qRF σ [(.ref 29), (.int x1), (.int x2), (.int x3), (.int x4)] (some (.int u)) qKS qRF σ 0 0 := by
  refine qCt.of (lv := [some (.ref 29), some (.int x1), some (.int x2), some (.int x3), some (.int x4), none, none, none, none, none]) (by decide) hA (Nat.le_of_ble_eq_true rfl) rfl ?_
  intro X hl _ _ _ hX hT
  subst hl
  unfold p_Feasts_wantedTill at h
  refine q_iload_n hX d_Feasts_wantedTill_0 rfl ?_
  refine q_iload hX d_Feasts_wantedTill_1 rfl ?_
  refine q_mmin hX w_633 (by decide) (Nat.le_of_ble_eq_true rfl) d_Feasts_wantedTill_3 ?_
  refine q_istore hX d_Feasts_wantedTill_6 (by decide) rfl rfl ?_
  refine q_iload_n hX d_Feasts_wantedTill_8 rfl ?_
  refine q_iconst hX d_Feasts_wantedTill_9 ic_1 ?_
  refine q_icmp_lt hX d_Feasts_wantedTill_10 rfl h (fun _ h => ?_) (fun _ h => ?_)
  · refine q_iconst hX d_Feasts_wantedTill_19 ic_0 ?_
    exact q_iretR hX h hT d_Feasts_wantedTill_20
  · refine q_iload hX d_Feasts_wantedTill_13 rfl ?_
    refine q_iload_n hX d_Feasts_wantedTill_15 rfl ?_
    refine q_icmp_ge hX d_Feasts_wantedTill_16 rfl h (fun _ h => ?_) (fun _ h => ?_)
    · refine q_iload hX d_Feasts_wantedTill_21 rfl ?_
      refine q_iload_n hX d_Feasts_wantedTill_23 rfl ?_
      refine q_isub hX d_Feasts_wantedTill_24 ?_
      refine q_iload_n hX d_Feasts_wantedTill_25 rfl ?_
      obtain ⟨hz, h⟩ := qg_nz h
      refine q_idiv hX d_Feasts_wantedTill_26 hz ?_
      refine q_iconst hX d_Feasts_wantedTill_27 ic_1 ?_
      refine q_iadd hX d_Feasts_wantedTill_28 ?_
      refine q_istore hX d_Feasts_wantedTill_29 (by decide) rfl rfl ?_
      refine q_iconst hX d_Feasts_wantedTill_31 ic_0 ?_
      refine q_istore hX d_Feasts_wantedTill_32 (by decide) rfl rfl ?_
      exact q_mask [true, true, false, true, true, true, true, true, false, false] rfl (t_Feasts_wantedTill_l34 hX hT f _ _ h)
    · refine q_iconst hX d_Feasts_wantedTill_19 ic_0 ?_
      exact q_iretR hX h hT d_Feasts_wantedTill_20
set_option maxHeartbeats 4000000 in
theorem c_C_wantedTill (l : Launch) (G : qG) (hA : qAd G) (f : Nat) (σ : qMem) (x1 : Int32) (x2 : Int32) {u : Int32} (h : p_C_wantedTill f σ x1 x2 = some u) : qCt l y_C_wantedTill prog_1_method_50_code 3 (some .int) 3 G qKS qRF σ [(.ref 0), (.int x1), (.int x2)] (some (.int u)) qKS qRF σ 0 0 := by
  refine qCt.of (lv := [some (.ref 0), some (.int x1), some (.int x2)]) (by decide) hA (Nat.le_of_ble_eq_true rfl) rfl ?_
  intro X hl _ _ _ hX hT
  subst hl
  unfold p_C_wantedTill at h
  refine q_aload_n hX d_C_wantedTill_0 rfl ?_
  refine q_getR hX fl_C_33 kc_0 (rfl : qRF 0 3 = some 29) d_C_wantedTill_1 ?_
  refine q_aload_n hX d_C_wantedTill_4 rfl ?_
  refine q_getR hX fl_C_19 kc_0 (rfl : qRF 0 1 = some 13) d_C_wantedTill_5 ?_
  refine q_iload_n hX d_C_wantedTill_8 rfl ?_
  refine q_iconst hX d_C_wantedTill_9 ic_5 ?_
  obtain ⟨u1, hc2, h⟩ := qbind h
  refine q_cVr hX (c_Promises_of X.l G hX.ad f _ _ _ hc2) cw_C_174 rfl kc_13 rfl (Nat.le_of_ble_eq_true rfl) rfl (Nat.le_of_ble_eq_true rfl) d_C_wantedTill_10 ?_
  refine q_aload_n hX d_C_wantedTill_13 rfl ?_
  refine q_getR hX fl_C_19 kc_0 (rfl : qRF 0 1 = some 13) d_C_wantedTill_14 ?_
  refine q_iload_n hX d_C_wantedTill_17 rfl ?_
  refine q_bipush hX d_C_wantedTill_18 bp_6 ?_
  obtain ⟨u3, hc4, h⟩ := qbind h
  refine q_cVr hX (c_Promises_of X.l G hX.ad f _ _ _ hc4) cw_C_174 rfl kc_13 rfl (Nat.le_of_ble_eq_true rfl) rfl (Nat.le_of_ble_eq_true rfl) d_C_wantedTill_20 ?_
  refine q_aload_n hX d_C_wantedTill_23 rfl ?_
  refine q_getR hX fl_C_19 kc_0 (rfl : qRF 0 1 = some 13) d_C_wantedTill_24 ?_
  refine q_iload_n hX d_C_wantedTill_27 rfl ?_
  refine q_iconst hX d_C_wantedTill_28 ic_4 ?_
  obtain ⟨u5, hc6, h⟩ := qbind h
  refine q_cVr hX (c_Promises_of X.l G hX.ad f _ _ _ hc6) cw_C_174 rfl kc_13 rfl (Nat.le_of_ble_eq_true rfl) rfl (Nat.le_of_ble_eq_true rfl) d_C_wantedTill_29 ?_
  refine q_iload_n hX d_C_wantedTill_32 rfl ?_
  obtain ⟨u7, hc8, h⟩ := qbind h
  refine q_cVr hX (c_Feasts_wantedTill X.l G hX.ad f _ _ _ _ _ hc8) cw_C_354 rfl kc_29 rfl (Nat.le_of_ble_eq_true rfl) rfl (Nat.le_of_ble_eq_true rfl) d_C_wantedTill_33 ?_
  exact q_iretR hX h hT d_C_wantedTill_36
set_option maxHeartbeats 4000000 in
theorem c_Joins_has (l : Launch) (G : qG) (hA : qAd G) (f : Nat) (σ : qMem) (x1 : Int32) (x2 : Int32) {u : Int32} (h : p_Joins_has f σ x1 x2 = some u) : qCt l y_Joins_has prog_7_method_4_code 3 (some .boolean) 1 G qKS qRF σ [(.ref 48), (.int x1), (.int x2)] (some (.int u)) qKS qRF σ 0 0 := by
  refine qCt.of (lv := [some (.ref 48), some (.int x1), some (.int x2)]) (by decide) hA (Nat.le_of_ble_eq_true rfl) rfl ?_
  intro X hl _ _ _ hX hT
  subst hl
  unfold p_Joins_has at h
  refine q_aload_n hX d_Joins_has_0 rfl ?_
  refine q_getR hX fl_Joins_11 kc_48 (rfl : qRF 48 0 = some 49) d_Joins_has_1 ?_
  refine q_iload_n hX d_Joins_has_4 rfl ?_
  refine q_iald hX kc_49 d_Joins_has_5 h (fun hi1 h => ?_)
  refine q_iload_n hX d_Joins_has_6 rfl ?_
  refine q_icmp_eq hX d_Joins_has_7 rfl h (fun _ h => ?_) (fun _ h => ?_)
  · refine q_iconst hX d_Joins_has_20 ic_1 ?_
    refine q_goto hX d_Joins_has_21 rfl ?_
    exact q_zretR hX zn_1 h hT d_Joins_has_25
  · refine q_aload_n hX d_Joins_has_10 rfl ?_
    refine q_getR hX fl_Joins_15 kc_48 (rfl : qRF 48 1 = some 50) d_Joins_has_11 ?_
    refine q_iload_n hX d_Joins_has_14 rfl ?_
    refine q_iald hX kc_50 d_Joins_has_15 h (fun hi2 h => ?_)
    refine q_iload_n hX d_Joins_has_16 rfl ?_
    refine q_icmp_ne hX d_Joins_has_17 rfl h (fun _ h => ?_) (fun _ h => ?_)
    · refine q_iconst hX d_Joins_has_24 ic_0 ?_
      exact q_zretR hX zn_0 h hT d_Joins_has_25
    · refine q_iconst hX d_Joins_has_20 ic_1 ?_
      refine q_goto hX d_Joins_has_21 rfl ?_
      exact q_zretR hX zn_1 h hT d_Joins_has_25
set_option maxHeartbeats 4000000 in
theorem t_Joins_otherOf_lb2 {G : qG} {X : qX} (hX : qOk G X "ChantryRolls$Joins" prog_7_method_7_code 4 (some .int) 2) {u : Int32} {f : Nat} {σ : qMem} {x1 : Int32} {x2 : Int32} (hT : qTg G X 0 0 qKS qRF σ (some (.int u))) {k2 : Int32 → Option (Int32)} (hk2 : ∀ (x3 : Int32), k2 x3 = some u → qV G X 0 0 qKS qRF σ 2 [some (.ref 48), some (.int x1), some (.int x2), some (.int x3)] []) {x3 : Int32} (h : p_Joins_otherOf_l2 f  σ x1 x2  k2 x3 = some u) : qV G X 0 0 qKS qRF σ 2 [some (.ref 48), some (.int x1), some (.int x2), some (.int x3)] [] := by
  unfold p_Joins_otherOf_l2 at h
  refine q_iload_n hX d_Joins_otherOf_2 rfl ?_
  refine q_aload_n hX d_Joins_otherOf_3 rfl ?_
  refine q_getI hX fl_Joins_24 kc_48 d_Joins_otherOf_4 ?_
  refine q_icmp_ge hX d_Joins_otherOf_7 rfl h (fun _ h => ?_) (fun _ h => ?_)
  · refine q_ldc hX w_650 d_Joins_otherOf_71 ?_
    exact q_iretR hX h hT d_Joins_otherOf_73
  · refine q_aload_n hX d_Joins_otherOf_10 rfl ?_
    refine q_iload_n hX d_Joins_otherOf_11 rfl ?_
    refine q_iload_n hX d_Joins_otherOf_12 rfl ?_
    obtain ⟨u1, hc2, h⟩ := qbind h
    refine q_cVr hX (c_Joins_has X.l G hX.ad f _ _ _ hc2) cw_Joins_28 rfl kc_48 rfl (Nat.le_of_ble_eq_true rfl) rfl (Nat.le_of_ble_eq_true rfl) d_Joins_otherOf_13 ?_
    refine q_if_eq hX d_Joins_otherOf_16 rfl h (fun _ h => ?_) (fun _ h => ?_)
    · refine q_iinc hX d_Joins_otherOf_65 rfl (ii_1 _) (by decide) rfl rfl ?_
      refine q_goto hX d_Joins_otherOf_68 rfl ?_
      exact q_mask [true, true, true, true] rfl (hk2 _ h)
    · refine q_aload_n hX d_Joins_otherOf_19 rfl ?_
      refine q_getR hX fl_Joins_18 kc_48 (rfl : qRF 48 2 = some 51) d_Joins_otherOf_20 ?_
      refine q_iload_n hX d_Joins_otherOf_23 rfl ?_
      refine q_iald hX kc_51 d_Joins_otherOf_24 h (fun hi3 h => ?_)
      refine q_iload_n hX d_Joins_otherOf_25 rfl ?_
      refine q_icmp_gt hX d_Joins_otherOf_26 rfl h (fun _ h => ?_) (fun _ h => ?_)
      · refine q_iinc hX d_Joins_otherOf_65 rfl (ii_1 _) (by decide) rfl rfl ?_
        refine q_goto hX d_Joins_otherOf_68 rfl ?_
        exact q_mask [true, true, true, true] rfl (hk2 _ h)
      · refine q_iload_n hX d_Joins_otherOf_29 rfl ?_
        refine q_aload_n hX d_Joins_otherOf_30 rfl ?_
        refine q_getR hX fl_Joins_21 kc_48 (rfl : qRF 48 3 = some 52) d_Joins_otherOf_31 ?_
        refine q_iload_n hX d_Joins_otherOf_34 rfl ?_
        refine q_iald hX kc_52 d_Joins_otherOf_35 h (fun hi4 h => ?_)
        refine q_icmp_ge hX d_Joins_otherOf_36 rfl h (fun _ h => ?_) (fun _ h => ?_)
        · refine q_iinc hX d_Joins_otherOf_65 rfl (ii_1 _) (by decide) rfl rfl ?_
          refine q_goto hX d_Joins_otherOf_68 rfl ?_
          exact q_mask [true, true, true, true] rfl (hk2 _ h)
        · refine q_aload_n hX d_Joins_otherOf_39 rfl ?_
          refine q_getR hX fl_Joins_11 kc_48 (rfl : qRF 48 0 = some 49) d_Joins_otherOf_40 ?_
          refine q_iload_n hX d_Joins_otherOf_43 rfl ?_
          refine q_iald hX kc_49 d_Joins_otherOf_44 h (fun hi5 h => ?_)
          refine q_iload_n hX d_Joins_otherOf_45 rfl ?_
          refine q_icmp_ne hX d_Joins_otherOf_46 rfl h (fun _ h => ?_) (fun _ h => ?_)
          · refine q_aload_n hX d_Joins_otherOf_58 rfl ?_
            refine q_getR hX fl_Joins_11 kc_48 (rfl : qRF 48 0 = some 49) d_Joins_otherOf_59 ?_
            refine q_iload_n hX d_Joins_otherOf_62 rfl ?_
            refine q_iald hX kc_49 d_Joins_otherOf_63 h (fun hi6 h => ?_)
            exact q_iretR hX h hT d_Joins_otherOf_64
          · refine q_aload_n hX d_Joins_otherOf_49 rfl ?_
            refine q_getR hX fl_Joins_15 kc_48 (rfl : qRF 48 1 = some 50) d_Joins_otherOf_50 ?_
            refine q_iload_n hX d_Joins_otherOf_53 rfl ?_
            refine q_iald hX kc_50 d_Joins_otherOf_54 h (fun hi7 h => ?_)
            refine q_goto hX d_Joins_otherOf_55 rfl ?_
            exact q_iretR hX h hT d_Joins_otherOf_64
theorem t_Joins_otherOf_l2 {G : qG} {X : qX} (hX : qOk G X "ChantryRolls$Joins" prog_7_method_7_code 4 (some .int) 2) {u : Int32} {f : Nat} {σ : qMem} {x1 : Int32} {x2 : Int32} (hT : qTg G X 0 0 qKS qRF σ (some (.int u))) : ∀ (n : Nat) (x3 : Int32), qfix1 (p_Joins_otherOf_l2 f  σ x1 x2 ) n x3 = some u → qV G X 0 0 qKS qRF σ 2 [some (.ref 48), some (.int x1), some (.int x2), some (.int x3)] [] :=
  qfix1_ind (fun k hk _ h => t_Joins_otherOf_lb2 hX   hT  hk h)
set_option maxHeartbeats 4000000 in
theorem c_Joins_otherOf (l : Launch) (G : qG) (hA : qAd G) (f : Nat) (σ : qMem) (x1 : Int32) (x2 : Int32) {u : Int32} (h : p_Joins_otherOf f σ x1 x2 = some u) : qCt l y_Joins_otherOf prog_7_method_7_code 4 (some .int) 2 G qKS qRF σ [(.ref 48), (.int x1), (.int x2)] (some (.int u)) qKS qRF σ 0 0 := by
  refine qCt.of (lv := [some (.ref 48), some (.int x1), some (.int x2), none]) (by decide) hA (Nat.le_of_ble_eq_true rfl) rfl ?_
  intro X hl _ _ _ hX hT
  subst hl
  unfold p_Joins_otherOf at h
  refine q_iconst hX d_Joins_otherOf_0 ic_0 ?_
  refine q_istore_n hX d_Joins_otherOf_1 (by decide) rfl rfl ?_
  exact q_mask [true, true, true, true] rfl (t_Joins_otherOf_l2 hX hT f _ h)
set_option maxHeartbeats 4000000 in
theorem t_Lines_countTill_lb6 {G : qG} {X : qX} (hX : qOk G X "ChantryRolls$Lines" prog_8_method_11_code 6 (some .int) 3) {u : Int32} {f : Nat} {σ : qMem} {x1 : Int32} {x2 : Int32} (hT : qTg G X 0 0 qKS qRF σ (some (.int u))) {k6 : Int32 → Int32 → Option (Int32)} (hk6 : ∀ (x4 : Int32) (x5 : Int32), k6 x4 x5 = some u → qV G X 0 0 qKS qRF σ 6 [some (.ref 42), some (.int x1), some (.int x2), some (.ref 48), some (.int x4), some (.int x5)] []) {x4 : Int32} {x5 : Int32} (h : p_Lines_countTill_l6 f  σ x1 x2  k6 x4 x5 = some u) : qV G X 0 0 qKS qRF σ 6 [some (.ref 42), some (.int x1), some (.int x2), some (.ref 48), some (.int x4), some (.int x5)] [] := by
  unfold p_Lines_countTill_l6 at h
  refine q_iload hX d_Lines_countTill_6 rfl ?_
  refine q_aload_n hX d_Lines_countTill_8 rfl ?_
  refine q_getI hX fl_Lines_28 kc_42 d_Lines_countTill_9 ?_
  refine q_icmp_ge hX d_Lines_countTill_12 rfl h (fun _ h => ?_) (fun _ h => ?_)
  · refine q_iload hX d_Lines_countTill_78 rfl ?_
    exact q_iretR hX h hT d_Lines_countTill_80
  · refine q_aload_n hX d_Lines_countTill_15 rfl ?_
    refine q_getR hX fl_Lines_21 kc_42 (rfl : qRF 42 7 = some 46) d_Lines_countTill_16 ?_
    refine q_iload hX d_Lines_countTill_19 rfl ?_
    refine q_zald hX kc_46 d_Lines_countTill_21 h (fun hi1 h => ?_)
    refine q_if_eq hX d_Lines_countTill_22 rfl h (fun _ h => ?_) (fun _ h => ?_)
    · refine q_iinc hX d_Lines_countTill_72 rfl (ii_1 _) (by decide) rfl rfl ?_
      refine q_goto hX d_Lines_countTill_75 rfl ?_
      exact q_mask [true, true, true, true, true, true] rfl (hk6 _ _ h)
    · refine q_aload_n hX d_Lines_countTill_25 rfl ?_
      refine q_getR hX fl_Lines_15 kc_42 (rfl : qRF 42 5 = some 44) d_Lines_countTill_26 ?_
      refine q_iload hX d_Lines_countTill_29 rfl ?_
      refine q_iald hX kc_44 d_Lines_countTill_31 h (fun hi2 h => ?_)
      refine q_iload_n hX d_Lines_countTill_32 rfl ?_
      refine q_icmp_gt hX d_Lines_countTill_33 rfl h (fun _ h => ?_) (fun _ h => ?_)
      · refine q_iinc hX d_Lines_countTill_72 rfl (ii_1 _) (by decide) rfl rfl ?_
        refine q_goto hX d_Lines_countTill_75 rfl ?_
        exact q_mask [true, true, true, true, true, true] rfl (hk6 _ _ h)
      · refine q_aload_n hX d_Lines_countTill_36 rfl ?_
        refine q_getR hX fl_Lines_11 kc_42 (rfl : qRF 42 4 = some 43) d_Lines_countTill_37 ?_
        refine q_iload hX d_Lines_countTill_40 rfl ?_
        refine q_iald hX kc_43 d_Lines_countTill_42 h (fun hi3 h => ?_)
        refine q_iload_n hX d_Lines_countTill_43 rfl ?_
        refine q_icmp_eq hX d_Lines_countTill_44 rfl h (fun _ h => ?_) (fun _ h => ?_)
        · refine q_iinc hX d_Lines_countTill_69 rfl (ii_1 _) (by decide) rfl rfl ?_
          refine q_iinc hX d_Lines_countTill_72 rfl (ii_1 _) (by decide) rfl rfl ?_
          refine q_goto hX d_Lines_countTill_75 rfl ?_
          exact q_mask [true, true, true, true, true, true] rfl (hk6 _ _ h)
        · refine q_aload_n hX d_Lines_countTill_47 rfl ?_
          refine q_iload_n hX d_Lines_countTill_48 rfl ?_
          refine q_aload_n hX d_Lines_countTill_49 rfl ?_
          refine q_getR hX fl_Lines_15 kc_42 (rfl : qRF 42 5 = some 44) d_Lines_countTill_50 ?_
          refine q_iload hX d_Lines_countTill_53 rfl ?_
          refine q_iald hX kc_44 d_Lines_countTill_55 h (fun hi4 h => ?_)
          obtain ⟨u5, hc6, h⟩ := qbind h
          refine q_cVr hX (c_Joins_otherOf X.l G hX.ad f _ _ _ hc6) cw_Lines_75 rfl kc_48 rfl (Nat.le_of_ble_eq_true rfl) rfl (Nat.le_of_ble_eq_true rfl) d_Lines_countTill_56 ?_
          refine q_aload_n hX d_Lines_countTill_59 rfl ?_
          refine q_getR hX fl_Lines_11 kc_42 (rfl : qRF 42 4 = some 43) d_Lines_countTill_60 ?_
          refine q_iload hX d_Lines_countTill_63 rfl ?_
          refine q_iald hX kc_43 d_Lines_countTill_65 h (fun hi7 h => ?_)
          refine q_icmp_ne hX d_Lines_countTill_66 rfl h (fun _ h => ?_) (fun _ h => ?_)
          · refine q_iinc hX d_Lines_countTill_72 rfl (ii_1 _) (by decide) rfl rfl ?_
            refine q_goto hX d_Lines_countTill_75 rfl ?_
            exact q_mask [true, true, true, true, true, true] rfl (hk6 _ _ h)
          · refine q_iinc hX d_Lines_countTill_69 rfl (ii_1 _) (by decide) rfl rfl ?_
            refine q_iinc hX d_Lines_countTill_72 rfl (ii_1 _) (by decide) rfl rfl ?_
            refine q_goto hX d_Lines_countTill_75 rfl ?_
            exact q_mask [true, true, true, true, true, true] rfl (hk6 _ _ h)
theorem t_Lines_countTill_l6 {G : qG} {X : qX} (hX : qOk G X "ChantryRolls$Lines" prog_8_method_11_code 6 (some .int) 3) {u : Int32} {f : Nat} {σ : qMem} {x1 : Int32} {x2 : Int32} (hT : qTg G X 0 0 qKS qRF σ (some (.int u))) : ∀ (n : Nat) (x4 : Int32) (x5 : Int32), qfix2 (p_Lines_countTill_l6 f  σ x1 x2 ) n x4 x5 = some u → qV G X 0 0 qKS qRF σ 6 [some (.ref 42), some (.int x1), some (.int x2), some (.ref 48), some (.int x4), some (.int x5)] [] :=
  qfix2_ind (fun k hk _ _ h => t_Lines_countTill_lb6 hX   hT  hk h)
set_option maxHeartbeats 4000000 in
theorem c_Lines_countTill (l : Launch) (G : qG) (hA : qAd G) (f : Nat) (σ : qMem) (x1 : Int32) (x2 : Int32) {u : Int32} (h : p_Lines_countTill f σ x1 x2 = some u) : qCt l y_Lines_countTill prog_8_method_11_code 6 (some .int) 3 G qKS qRF σ [(.ref 42), (.int x1), (.int x2), (.ref 48)] (some (.int u)) qKS qRF σ 0 0 := by
  refine qCt.of (lv := [some (.ref 42), some (.int x1), some (.int x2), some (.ref 48), none, none]) (by decide) hA (Nat.le_of_ble_eq_true rfl) rfl ?_
  intro X hl _ _ _ hX hT
  subst hl
  unfold p_Lines_countTill at h
  refine q_iconst hX d_Lines_countTill_0 ic_0 ?_
  refine q_istore hX d_Lines_countTill_1 (by decide) rfl rfl ?_
  refine q_iconst hX d_Lines_countTill_3 ic_0 ?_
  refine q_istore hX d_Lines_countTill_4 (by decide) rfl rfl ?_
  exact q_mask [true, true, true, true, true, true] rfl (t_Lines_countTill_l6 hX hT f _ _ h)
set_option maxHeartbeats 4000000 in
theorem c_C_owedTill (l : Launch) (G : qG) (hA : qAd G) (f : Nat) (σ : qMem) (x1 : Int32) (x2 : Int32) {u : Int32} (h : p_C_owedTill f σ x1 x2 = some u) : qCt l y_C_owedTill prog_1_method_51_code 3 (some .int) 4 G qKS qRF σ [(.ref 0), (.int x1), (.int x2)] (some (.int u)) qKS qRF σ 0 0 := by
  refine qCt.of (lv := [some (.ref 0), some (.int x1), some (.int x2)]) (by decide) hA (Nat.le_of_ble_eq_true rfl) rfl ?_
  intro X hl _ _ _ hX hT
  subst hl
  unfold p_C_owedTill at h
  refine q_iconst hX d_C_owedTill_0 ic_0 ?_
  refine q_aload_n hX d_C_owedTill_1 rfl ?_
  refine q_iload_n hX d_C_owedTill_2 rfl ?_
  refine q_iload_n hX d_C_owedTill_3 rfl ?_
  obtain ⟨u1, hc2, h⟩ := qbind h
  refine q_cVr hX (c_C_wantedTill X.l G hX.ad f _ _ _ hc2) cw_C_189 rfl kc_0 rfl (Nat.le_of_ble_eq_true rfl) rfl (Nat.le_of_ble_eq_true rfl) d_C_owedTill_4 ?_
  refine q_aload_n hX d_C_owedTill_7 rfl ?_
  refine q_getR hX fl_C_62 kc_0 (rfl : qRF 0 7 = some 42) d_C_owedTill_8 ?_
  refine q_iload_n hX d_C_owedTill_11 rfl ?_
  refine q_iload_n hX d_C_owedTill_12 rfl ?_
  refine q_aload_n hX d_C_owedTill_13 rfl ?_
  refine q_getR hX fl_C_69 kc_0 (rfl : qRF 0 8 = some 48) d_C_owedTill_14 ?_
  obtain ⟨u3, hc4, h⟩ := qbind h
  refine q_cVr hX (c_Lines_countTill X.l G hX.ad f _ _ _ hc4) cw_C_192 rfl kc_42 rfl (Nat.le_of_ble_eq_true rfl) rfl (Nat.le_of_ble_eq_true rfl) d_C_owedTill_17 ?_
  refine q_isub hX d_C_owedTill_20 ?_
  refine q_mmax hX w_655 (by decide) (Nat.le_of_ble_eq_true rfl) d_C_owedTill_21 ?_
  exact q_iretR hX h hT d_C_owedTill_24
set_option maxHeartbeats 4000000 in
theorem c_C_count (l : Launch) (G : qG) (hA : qAd G) (f : Nat) (σ : qMem) (x1 : Int32) (x2 : Int32) (x3 : Int32) {u : Int32} (h : p_C_count f σ x1 x2 x3 = some u) : qCt l y_C_count prog_1_method_11_code 4 (some .int) 5 G qKS qRF σ [(.ref 0), (.int x1), (.int x2), (.int x3)] (some (.int u)) qKS qRF σ 0 0 := by
  refine qCt.of (lv := [some (.ref 0), some (.int x1), some (.int x2), some (.int x3)]) (by decide) hA (Nat.le_of_ble_eq_true rfl) rfl ?_
  intro X hl _ _ _ hX hT
  subst hl
  unfold p_C_count at h
  refine q_aload_n hX d_C_count_0 rfl ?_
  refine q_getR hX fl_C_19 kc_0 (rfl : qRF 0 1 = some 13) d_C_count_1 ?_
  refine q_iload_n hX d_C_count_4 rfl ?_
  obtain ⟨u1, hc2, h⟩ := qbind h
  refine q_cVr hX (c_Promises_has X.l G hX.ad f _ _ hc2) cw_C_171 rfl kc_13 rfl (Nat.le_of_ble_eq_true rfl) rfl (Nat.le_of_ble_eq_true rfl) d_C_count_5 ?_
  refine q_if_eq hX d_C_count_8 rfl h (fun _ h => ?_) (fun _ h => ?_)
  · refine q_ldc hX w_383 d_C_count_27 ?_
    exact q_iretR hX h hT d_C_count_29
  · refine q_iload_n hX d_C_count_11 rfl ?_
    obtain ⟨u3, hc4, h⟩ := qbind h
    refine q_cSr hX (c_C_noDay X.l G hX.ad f _ _ hc4) cw_C_178 rfl (Nat.le_of_ble_eq_true rfl) rfl (Nat.le_of_ble_eq_true rfl) d_C_count_12 ?_
    refine q_if_ne hX d_C_count_15 rfl h (fun _ h => ?_) (fun _ h => ?_)
    · refine q_ldc hX w_383 d_C_count_27 ?_
      exact q_iretR hX h hT d_C_count_29
    · refine q_iload_n hX d_C_count_18 rfl ?_
      refine q_iconst hX d_C_count_19 ic_0 ?_
      refine q_iconst hX d_C_count_20 ic_2 ?_
      obtain ⟨u5, hc6, h⟩ := qbind h
      refine q_cSr hX (c_C_outside X.l G hX.ad f _ _ _ _ hc6) cw_C_122 rfl (Nat.le_of_ble_eq_true rfl) rfl (Nat.le_of_ble_eq_true rfl) d_C_count_21 ?_
      refine q_if_eq hX d_C_count_24 rfl h (fun _ h => ?_) (fun _ h => ?_)
      · refine q_iload_n hX d_C_count_30 rfl ?_
        by_cases hs31_0 : x3 = (0 : Int32)
        · have h := q_dec0 h hs31_0
          refine q_lsw hX rfl (by rw [hs31_0]) d_C_count_31 rfl ?_
          refine q_aload_n hX d_C_count_56 rfl ?_
          refine q_iload_n hX d_C_count_57 rfl ?_
          refine q_iload_n hX d_C_count_58 rfl ?_
          obtain ⟨u7, hc8, h⟩ := qbind h
          refine q_cVr hX (c_C_wantedTill X.l G hX.ad f _ _ _ hc8) cw_C_189 rfl kc_0 rfl (Nat.le_of_ble_eq_true rfl) rfl (Nat.le_of_ble_eq_true rfl) d_C_count_59 ?_
          exact q_iretR hX h hT d_C_count_62
        have h := q_dec1 h hs31_0
        by_cases hs31_1 : x3 = (1 : Int32)
        · have h := q_dec0 h hs31_1
          refine q_lsw hX rfl (by rw [hs31_1]) d_C_count_31 rfl ?_
          refine q_aload_n hX d_C_count_63 rfl ?_
          refine q_getR hX fl_C_62 kc_0 (rfl : qRF 0 7 = some 42) d_C_count_64 ?_
          refine q_iload_n hX d_C_count_67 rfl ?_
          refine q_iload_n hX d_C_count_68 rfl ?_
          refine q_aload_n hX d_C_count_69 rfl ?_
          refine q_getR hX fl_C_69 kc_0 (rfl : qRF 0 8 = some 48) d_C_count_70 ?_
          obtain ⟨u9, hc10, h⟩ := qbind h
          refine q_cVr hX (c_Lines_countTill X.l G hX.ad f _ _ _ hc10) cw_C_192 rfl kc_42 rfl (Nat.le_of_ble_eq_true rfl) rfl (Nat.le_of_ble_eq_true rfl) d_C_count_73 ?_
          exact q_iretR hX h hT d_C_count_76
        have h := q_dec1 h hs31_1
        have hout : Op.lookupswitch.offset [(0, 25), (1, 32)] 46 (x3).toInt = 46 := by
          have e0 : (x3).toInt ≠ 0 := q_ne32 hs31_0
          have e1 : (x3).toInt ≠ 1 := q_ne32 hs31_1
          simp [Op.lookupswitch.offset, List.find?, Ne.symm e0, e0, Ne.symm e1, e1]
        refine q_lsw hX rfl hout d_C_count_31 rfl ?_
        refine q_aload_n hX d_C_count_77 rfl ?_
        refine q_iload_n hX d_C_count_78 rfl ?_
        refine q_iload_n hX d_C_count_79 rfl ?_
        obtain ⟨u11, hc12, h⟩ := qbind h
        refine q_cVr hX (c_C_owedTill X.l G hX.ad f _ _ _ hc12) cw_C_196 rfl kc_0 rfl (Nat.le_of_ble_eq_true rfl) rfl (Nat.le_of_ble_eq_true rfl) d_C_count_80 ?_
        exact q_iretR hX h hT d_C_count_83
      · refine q_ldc hX w_383 d_C_count_27 ?_
        exact q_iretR hX h hT d_C_count_29
set_option maxHeartbeats 4000000 in
theorem c_Promises_isObit (l : Launch) (G : qG) (hA : qAd G) (f : Nat) (σ : qMem) (x1 : Int32) {u : Int32} (h : p_Promises_isObit f σ x1 = some u) : qCt l y_Promises_isObit prog_10_method_6_code 2 (some .boolean) 1 G qKS qRF σ [(.ref 13), (.int x1)] (some (.int u)) qKS qRF σ 0 0 := by
  refine qCt.of (lv := [some (.ref 13), some (.int x1)]) (by decide) hA (Nat.le_of_ble_eq_true rfl) rfl ?_
  intro X hl _ _ _ hX hT
  subst hl
  unfold p_Promises_isObit at h
  refine q_aload_n hX d_Promises_isObit_0 rfl ?_
  refine q_getR hX fl_Promises_11 kc_13 (rfl : qRF 13 0 = some 14) d_Promises_isObit_1 ?_
  refine q_iload_n hX d_Promises_isObit_4 rfl ?_
  refine q_aald hX kc_14 d_Promises_isObit_5 h (fun _ => rfl) (fun hi1 h => ?_)
  refine q_iconst hX d_Promises_isObit_6 ic_0 ?_
  refine q_iald hX (kr_14 hi1) d_Promises_isObit_7 h (fun hi2 h => ?_)
  refine q_iconst hX d_Promises_isObit_8 ic_1 ?_
  refine q_icmp_ne hX d_Promises_isObit_9 rfl h (fun _ h => ?_) (fun _ h => ?_)
  · refine q_iconst hX d_Promises_isObit_16 ic_0 ?_
    exact q_zretR hX zn_0 h hT d_Promises_isObit_17
  · refine q_iconst hX d_Promises_isObit_12 ic_1 ?_
    refine q_goto hX d_Promises_isObit_13 rfl ?_
    exact q_zretR hX zn_1 h hT d_Promises_isObit_17
set_option maxHeartbeats 4000000 in
theorem t_Acts_takes_b20 {G : qG} {X : qX} (hX : qOk G X "ChantryRolls$Acts" prog_2_method_5_code 6 (some .boolean) 1) {u : Int32} {f : Nat} {σ : qMem} {x1 : Int32} {x2 : Int32} {x3 : Int32} {s0 : Int32} (hT : qTg G X 0 0 qKS qRF σ (some (.int u))) (h : p_Acts_takes_b20 f    σ x1 x2 x3 s0 = some u) : qV G X 0 0 qKS qRF σ 20 [some (.ref 37), some (.int x1), some (.int x2), some (.int x3), none, none] [(.int s0)] := by
  unfold p_Acts_takes_b20 at h
  refine q_istore hX d_Acts_takes_20 (by decide) rfl rfl ?_
  refine q_iload_n hX d_Acts_takes_22 rfl ?_
  refine q_aload_n hX d_Acts_takes_23 rfl ?_
  refine q_getR hX fl_Acts_11 kc_37 (rfl : qRF 37 1 = some 38) d_Acts_takes_24 ?_
  refine q_iload_n hX d_Acts_takes_27 rfl ?_
  refine q_iald hX kc_38 d_Acts_takes_28 h (fun hi1 h => ?_)
  refine q_icmp_gt hX d_Acts_takes_29 rfl h (fun _ h => ?_) (fun _ h => ?_)
  · refine q_iconst hX d_Acts_takes_61 ic_0 ?_
    exact q_zretR hX zn_0 h hT d_Acts_takes_62
  · refine q_aload_n hX d_Acts_takes_32 rfl ?_
    refine q_getR hX fl_Acts_15 kc_37 (rfl : qRF 37 2 = some 39) d_Acts_takes_33 ?_
    refine q_iload_n hX d_Acts_takes_36 rfl ?_
    refine q_iald hX kc_39 d_Acts_takes_37 h (fun hi2 h => ?_)
    refine q_iload_n hX d_Acts_takes_38 rfl ?_
    refine q_icmp_gt hX d_Acts_takes_39 rfl h (fun _ h => ?_) (fun _ h => ?_)
    · refine q_iconst hX d_Acts_takes_61 ic_0 ?_
      exact q_zretR hX zn_0 h hT d_Acts_takes_62
    · refine q_iload_n hX d_Acts_takes_42 rfl ?_
      refine q_aload_n hX d_Acts_takes_43 rfl ?_
      refine q_getR hX fl_Acts_18 kc_37 (rfl : qRF 37 3 = some 40) d_Acts_takes_44 ?_
      refine q_iload_n hX d_Acts_takes_47 rfl ?_
      refine q_iald hX kc_40 d_Acts_takes_48 h (fun hi3 h => ?_)
      refine q_icmp_gt hX d_Acts_takes_49 rfl h (fun _ h => ?_) (fun _ h => ?_)
      · refine q_iconst hX d_Acts_takes_61 ic_0 ?_
        exact q_zretR hX zn_0 h hT d_Acts_takes_62
      · refine q_iload hX d_Acts_takes_52 rfl ?_
        refine q_if_ne hX d_Acts_takes_54 rfl h (fun _ h => ?_) (fun _ h => ?_)
        · refine q_iconst hX d_Acts_takes_61 ic_0 ?_
          exact q_zretR hX zn_0 h hT d_Acts_takes_62
        · refine q_iconst hX d_Acts_takes_57 ic_1 ?_
          refine q_goto hX d_Acts_takes_58 rfl ?_
          exact q_zretR hX zn_1 h hT d_Acts_takes_62
set_option maxHeartbeats 4000000 in
theorem t_Acts_takes_b19 {G : qG} {X : qX} (hX : qOk G X "ChantryRolls$Acts" prog_2_method_5_code 6 (some .boolean) 1) {u : Int32} {f : Nat} {σ : qMem} {x1 : Int32} {x2 : Int32} {x3 : Int32} (hT : qTg G X 0 0 qKS qRF σ (some (.int u))) (h : p_Acts_takes_b19 f    σ x1 x2 x3 = some u) : qV G X 0 0 qKS qRF σ 19 [some (.ref 37), some (.int x1), some (.int x2), some (.int x3), none, none] [] := by
  unfold p_Acts_takes_b19 at h
  refine q_iconst hX d_Acts_takes_19 ic_0 ?_
  exact q_mask [true, true, true, true, false, false] rfl (t_Acts_takes_b20 hX hT h)
set_option maxHeartbeats 4000000 in
theorem c_Acts_takes (l : Launch) (G : qG) (hA : qAd G) (f : Nat) (σ : qMem) (x1 : Int32) (x2 : Int32) (x3 : Int32) (x4 : Int32) {u : Int32} (h : p_Acts_takes f σ x1 x2 x3 x4 = some u) : qCt l y_Acts_takes prog_2_method_5_code 6 (some .boolean) 1 G qKS qRF σ [(.ref 37), (.int x1), (.int x2), (.int x3), (.int x4)] (some (.int u)) qKS qRF σ 0 0 := by
  refine qCt.of (lv := [some (.ref 37), some (.int x1), some (.int x2), some (.int x3), some (.int x4), none]) (by decide) hA (Nat.le_of_ble_eq_true rfl) rfl ?_
  intro X hl _ _ _ hX hT
  subst hl
  unfold p_Acts_takes at h
  refine q_iload hX d_Acts_takes_0 rfl ?_
  refine q_if_eq hX d_Acts_takes_2 rfl h (fun _ h => ?_) (fun _ h => ?_)
  · exact q_mask [true, true, true, true, false, false] rfl (t_Acts_takes_b19 hX hT h)
  · refine q_aload_n hX d_Acts_takes_5 rfl ?_
    refine q_getR hX fl_Acts_21 kc_37 (rfl : qRF 37 4 = some 41) d_Acts_takes_6 ?_
    refine q_iload_n hX d_Acts_takes_9 rfl ?_
    refine q_iald hX kc_41 d_Acts_takes_10 h (fun hi4 h => ?_)
    refine q_iconst hX d_Acts_takes_11 ic_1 ?_
    refine q_icmp_ne hX d_Acts_takes_12 rfl h (fun _ h => ?_) (fun _ h => ?_)
    · exact q_mask [true, true, true, true, false, false] rfl (t_Acts_takes_b19 hX hT h)
    · refine q_iconst hX d_Acts_takes_15 ic_1 ?_
      refine q_goto hX d_Acts_takes_16 rfl ?_
      exact q_mask [true, true, true, true, false, false] rfl (t_Acts_takes_b20 hX hT h)
set_option maxHeartbeats 4000000 in
theorem t_Acts_dayOfTaking_lb37 {G : qG} {X : qX} (hX : qOk G X "ChantryRolls$Acts" prog_2_method_6_code 7 (some .int) 2) {u : Int32} {f : Nat} {σ : qMem} {x2 : Int32} {x3 : Int32} {x4 : Int32} (hT : qTg G X 0 0 qKS qRF σ (some (.int u))) {k37 : Int32 → Int32 → Option (Int32)} (hk37 : ∀ (x5 : Int32) (x6 : Int32), k37 x5 x6 = some u → qV G X 0 0 qKS qRF σ 37 [some (.ref 37), none, some (.int x2), some (.int x3), some (.int x4), some (.int x5), some (.int x6)] []) {x5 : Int32} {x6 : Int32} (h : p_Acts_dayOfTaking_l37 f  σ x2 x3 x4  k37 x5 x6 = some u) : qV G X 0 0 qKS qRF σ 37 [some (.ref 37), none, some (.int x2), some (.int x3), some (.int x4), some (.int x5), some (.int x6)] [] := by
  unfold p_Acts_dayOfTaking_l37 at h
  refine q_iload hX d_Acts_dayOfTaking_37 rfl ?_
  refine q_aload_n hX d_Acts_dayOfTaking_39 rfl ?_
  refine q_getI hX fl_Acts_24 kc_37 d_Acts_dayOfTaking_40 ?_
  refine q_icmp_ge hX d_Acts_dayOfTaking_43 rfl h (fun _ h => ?_) (fun _ h => ?_)
  · refine q_iload hX d_Acts_dayOfTaking_93 rfl ?_
    exact q_iretR hX h hT d_Acts_dayOfTaking_95
  · refine q_aload_n hX d_Acts_dayOfTaking_46 rfl ?_
    refine q_iload hX d_Acts_dayOfTaking_47 rfl ?_
    refine q_iload_n hX d_Acts_dayOfTaking_49 rfl ?_
    refine q_iload_n hX d_Acts_dayOfTaking_50 rfl ?_
    refine q_iload hX d_Acts_dayOfTaking_51 rfl ?_
    obtain ⟨u1, hc2, h⟩ := qbind h
    refine q_cVr hX (c_Acts_takes X.l G hX.ad f _ _ _ _ _ hc2) cw_Acts_43 rfl kc_37 rfl (Nat.le_of_ble_eq_true rfl) rfl (Nat.le_of_ble_eq_true rfl) d_Acts_dayOfTaking_53 ?_
    refine q_if_eq hX d_Acts_dayOfTaking_56 rfl h (fun _ h => ?_) (fun _ h => ?_)
    · refine q_iinc hX d_Acts_dayOfTaking_87 rfl (ii_1 _) (by decide) rfl rfl ?_
      refine q_goto hX d_Acts_dayOfTaking_90 rfl ?_
      exact q_mask [true, false, true, true, true, true, true] rfl (hk37 _ _ h)
    · refine q_iload hX d_Acts_dayOfTaking_59 rfl ?_
      refine q_ldc hX w_686 d_Acts_dayOfTaking_61 ?_
      refine q_icmp_eq hX d_Acts_dayOfTaking_63 rfl h (fun _ h => ?_) (fun _ h => ?_)
      · refine q_aload_n hX d_Acts_dayOfTaking_78 rfl ?_
        refine q_getR hX fl_Acts_11 kc_37 (rfl : qRF 37 1 = some 38) d_Acts_dayOfTaking_79 ?_
        refine q_iload hX d_Acts_dayOfTaking_82 rfl ?_
        refine q_iald hX kc_38 d_Acts_dayOfTaking_84 h (fun hi3 h => ?_)
        refine q_istore hX d_Acts_dayOfTaking_85 (by decide) rfl rfl ?_
        refine q_iinc hX d_Acts_dayOfTaking_87 rfl (ii_1 _) (by decide) rfl rfl ?_
        refine q_goto hX d_Acts_dayOfTaking_90 rfl ?_
        exact q_mask [true, false, true, true, true, true, true] rfl (hk37 _ _ h)
      · refine q_aload_n hX d_Acts_dayOfTaking_66 rfl ?_
        refine q_getR hX fl_Acts_11 kc_37 (rfl : qRF 37 1 = some 38) d_Acts_dayOfTaking_67 ?_
        refine q_iload hX d_Acts_dayOfTaking_70 rfl ?_
        refine q_iald hX kc_38 d_Acts_dayOfTaking_72 h (fun hi4 h => ?_)
        refine q_iload hX d_Acts_dayOfTaking_73 rfl ?_
        refine q_icmp_ge hX d_Acts_dayOfTaking_75 rfl h (fun _ h => ?_) (fun _ h => ?_)
        · refine q_iinc hX d_Acts_dayOfTaking_87 rfl (ii_1 _) (by decide) rfl rfl ?_
          refine q_goto hX d_Acts_dayOfTaking_90 rfl ?_
          exact q_mask [true, false, true, true, true, true, true] rfl (hk37 _ _ h)
        · refine q_aload_n hX d_Acts_dayOfTaking_78 rfl ?_
          refine q_getR hX fl_Acts_11 kc_37 (rfl : qRF 37 1 = some 38) d_Acts_dayOfTaking_79 ?_
          refine q_iload hX d_Acts_dayOfTaking_82 rfl ?_
          refine q_iald hX kc_38 d_Acts_dayOfTaking_84 h (fun hi5 h => ?_)
          refine q_istore hX d_Acts_dayOfTaking_85 (by decide) rfl rfl ?_
          refine q_iinc hX d_Acts_dayOfTaking_87 rfl (ii_1 _) (by decide) rfl rfl ?_
          refine q_goto hX d_Acts_dayOfTaking_90 rfl ?_
          exact q_mask [true, false, true, true, true, true, true] rfl (hk37 _ _ h)
theorem t_Acts_dayOfTaking_l37 {G : qG} {X : qX} (hX : qOk G X "ChantryRolls$Acts" prog_2_method_6_code 7 (some .int) 2) {u : Int32} {f : Nat} {σ : qMem} {x2 : Int32} {x3 : Int32} {x4 : Int32} (hT : qTg G X 0 0 qKS qRF σ (some (.int u))) : ∀ (n : Nat) (x5 : Int32) (x6 : Int32), qfix2 (p_Acts_dayOfTaking_l37 f  σ x2 x3 x4 ) n x5 x6 = some u → qV G X 0 0 qKS qRF σ 37 [some (.ref 37), none, some (.int x2), some (.int x3), some (.int x4), some (.int x5), some (.int x6)] [] :=
  qfix2_ind (fun k hk _ _ h => t_Acts_dayOfTaking_lb37 hX   hT  hk h)
set_option maxHeartbeats 4000000 in
theorem c_Acts_dayOfTaking (l : Launch) (G : qG) (hA : qAd G) (f : Nat) (σ : qMem) (x1 : Int32) {u : Int32} (h : p_Acts_dayOfTaking f σ x1 = some u) : qCt l y_Acts_dayOfTaking prog_2_method_6_code 7 (some .int) 2 G qKS qRF σ [(.ref 37), (.int x1)] (some (.int u)) qKS qRF σ 0 0 := by
  refine qCt.of (lv := [some (.ref 37), some (.int x1), none, none, none, none, none]) (by decide) hA (Nat.le_of_ble_eq_true rfl) rfl ?_
  intro X hl _ _ _ hX hT
  subst hl
  unfold p_Acts_dayOfTaking at h
  refine q_aload_n hX d_Acts_dayOfTaking_0 rfl ?_
  refine q_getR hX fl_Acts_28 kc_37 (rfl : qRF 37 0 = some 13) d_Acts_dayOfTaking_1 ?_
  refine q_iload_n hX d_Acts_dayOfTaking_4 rfl ?_
  refine q_iconst hX d_Acts_dayOfTaking_5 ic_5 ?_
  obtain ⟨u6, hc7, h⟩ := qbind h
  refine q_cVr hX (c_Promises_of X.l G hX.ad f _ _ _ hc7) cw_Acts_32 rfl kc_13 rfl (Nat.le_of_ble_eq_true rfl) rfl (Nat.le_of_ble_eq_true rfl) d_Acts_dayOfTaking_6 ?_
  refine q_istore_n hX d_Acts_dayOfTaking_9 (by decide) rfl rfl ?_
  refine q_aload_n hX d_Acts_dayOfTaking_10 rfl ?_
  refine q_getR hX fl_Acts_28 kc_37 (rfl : qRF 37 0 = some 13) d_Acts_dayOfTaking_11 ?_
  refine q_iload_n hX d_Acts_dayOfTaking_14 rfl ?_
  refine q_iconst hX d_Acts_dayOfTaking_15 ic_1 ?_
  obtain ⟨u8, hc9, h⟩ := qbind h
  refine q_cVr hX (c_Promises_of X.l G hX.ad f _ _ _ hc9) cw_Acts_32 rfl kc_13 rfl (Nat.le_of_ble_eq_true rfl) rfl (Nat.le_of_ble_eq_true rfl) d_Acts_dayOfTaking_16 ?_
  refine q_istore_n hX d_Acts_dayOfTaking_19 (by decide) rfl rfl ?_
  refine q_aload_n hX d_Acts_dayOfTaking_20 rfl ?_
  refine q_getR hX fl_Acts_28 kc_37 (rfl : qRF 37 0 = some 13) d_Acts_dayOfTaking_21 ?_
  refine q_iload_n hX d_Acts_dayOfTaking_24 rfl ?_
  obtain ⟨u10, hc11, h⟩ := qbind h
  refine q_cVr hX (c_Promises_isObit X.l G hX.ad f _ _ hc11) cw_Acts_38 rfl kc_13 rfl (Nat.le_of_ble_eq_true rfl) rfl (Nat.le_of_ble_eq_true rfl) d_Acts_dayOfTaking_25 ?_
  refine q_istore hX d_Acts_dayOfTaking_28 (by decide) rfl rfl ?_
  refine q_ldc hX w_686 d_Acts_dayOfTaking_30 ?_
  refine q_istore hX d_Acts_dayOfTaking_32 (by decide) rfl rfl ?_
  refine q_iconst hX d_Acts_dayOfTaking_34 ic_0 ?_
  refine q_istore hX d_Acts_dayOfTaking_35 (by decide) rfl rfl ?_
  exact q_mask [true, false, true, true, true, true, true] rfl (t_Acts_dayOfTaking_l37 hX hT f _ _ h)
set_option maxHeartbeats 4000000 in
theorem c_Acts_takenBy (l : Launch) (G : qG) (hA : qAd G) (f : Nat) (σ : qMem) (x1 : Int32) (x2 : Int32) {u : Int32} (h : p_Acts_takenBy f σ x1 x2 = some u) : qCt l y_Acts_takenBy prog_2_method_7_code 4 (some .boolean) 3 G qKS qRF σ [(.ref 37), (.int x1), (.int x2)] (some (.int u)) qKS qRF σ 0 0 := by
  refine qCt.of (lv := [some (.ref 37), some (.int x1), some (.int x2), none]) (by decide) hA (Nat.le_of_ble_eq_true rfl) rfl ?_
  intro X hl _ _ _ hX hT
  subst hl
  unfold p_Acts_takenBy at h
  refine q_aload_n hX d_Acts_takenBy_0 rfl ?_
  refine q_iload_n hX d_Acts_takenBy_1 rfl ?_
  obtain ⟨u1, hc2, h⟩ := qbind h
  refine q_cVr hX (c_Acts_dayOfTaking X.l G hX.ad f _ _ hc2) cw_Acts_47 rfl kc_37 rfl (Nat.le_of_ble_eq_true rfl) rfl (Nat.le_of_ble_eq_true rfl) d_Acts_takenBy_2 ?_
  refine q_istore_n hX d_Acts_takenBy_5 (by decide) rfl rfl ?_
  refine q_iload_n hX d_Acts_takenBy_6 rfl ?_
  refine q_ldc hX w_686 d_Acts_takenBy_7 ?_
  refine q_icmp_eq hX d_Acts_takenBy_9 rfl h (fun _ h => ?_) (fun _ h => ?_)
  · refine q_iconst hX d_Acts_takenBy_21 ic_0 ?_
    exact q_zretR hX zn_0 h hT d_Acts_takenBy_22
  · refine q_iload_n hX d_Acts_takenBy_12 rfl ?_
    refine q_iload_n hX d_Acts_takenBy_13 rfl ?_
    refine q_icmp_gt hX d_Acts_takenBy_14 rfl h (fun _ h => ?_) (fun _ h => ?_)
    · refine q_iconst hX d_Acts_takenBy_21 ic_0 ?_
      exact q_zretR hX zn_0 h hT d_Acts_takenBy_22
    · refine q_iconst hX d_Acts_takenBy_17 ic_1 ?_
      refine q_goto hX d_Acts_takenBy_18 rfl ?_
      exact q_zretR hX zn_1 h hT d_Acts_takenBy_22
set_option maxHeartbeats 4000000 in
theorem c_Acts_ended (l : Launch) (G : qG) (hA : qAd G) (f : Nat) (σ : qMem) (x1 : Int32) (x2 : Int32) {u : Int32} (h : p_Acts_ended f σ x1 x2 = some u) : qCt l y_Acts_ended prog_2_method_8_code 3 (some .boolean) 4 G qKS qRF σ [(.ref 37), (.int x1), (.int x2)] (some (.int u)) qKS qRF σ 0 0 := by
  refine qCt.of (lv := [some (.ref 37), some (.int x1), some (.int x2)]) (by decide) hA (Nat.le_of_ble_eq_true rfl) rfl ?_
  intro X hl _ _ _ hX hT
  subst hl
  unfold p_Acts_ended at h
  refine q_aload_n hX d_Acts_ended_0 rfl ?_
  refine q_getR hX fl_Acts_28 kc_37 (rfl : qRF 37 0 = some 13) d_Acts_ended_1 ?_
  refine q_iload_n hX d_Acts_ended_4 rfl ?_
  refine q_bipush hX d_Acts_ended_5 bp_6 ?_
  obtain ⟨u1, hc2, h⟩ := qbind h
  refine q_cVr hX (c_Promises_of X.l G hX.ad f _ _ _ hc2) cw_Acts_32 rfl kc_13 rfl (Nat.le_of_ble_eq_true rfl) rfl (Nat.le_of_ble_eq_true rfl) d_Acts_ended_7 ?_
  refine q_iload_n hX d_Acts_ended_10 rfl ?_
  refine q_icmp_lt hX d_Acts_ended_11 rfl h (fun _ h => ?_) (fun _ h => ?_)
  · refine q_iconst hX d_Acts_ended_23 ic_1 ?_
    refine q_goto hX d_Acts_ended_24 rfl ?_
    exact q_zretR hX zn_1 h hT d_Acts_ended_28
  · refine q_aload_n hX d_Acts_ended_14 rfl ?_
    refine q_iload_n hX d_Acts_ended_15 rfl ?_
    refine q_iload_n hX d_Acts_ended_16 rfl ?_
    obtain ⟨u3, hc4, h⟩ := qbind h
    refine q_cVr hX (c_Acts_takenBy X.l G hX.ad f _ _ _ hc4) cw_Acts_51 rfl kc_37 rfl (Nat.le_of_ble_eq_true rfl) rfl (Nat.le_of_ble_eq_true rfl) d_Acts_ended_17 ?_
    refine q_if_eq hX d_Acts_ended_20 rfl h (fun _ h => ?_) (fun _ h => ?_)
    · refine q_iconst hX d_Acts_ended_27 ic_0 ?_
      exact q_zretR hX zn_0 h hT d_Acts_ended_28
    · refine q_iconst hX d_Acts_ended_23 ic_1 ?_
      refine q_goto hX d_Acts_ended_24 rfl ?_
      exact q_zretR hX zn_1 h hT d_Acts_ended_28
set_option maxHeartbeats 4000000 in
theorem t_Spans_covers_33_lb2 {G : qG} {X : qX} (hX : qOk G X "ChantryRolls$Spans" prog_12_method_4_code 4 (some .boolean) 1) {u : Int32} {f : Nat} {σ : qMem} {x1 : Int32} {x2 : Int32} (hT : qTg G X 0 0 qKS qRF σ (some (.int u))) {k2 : Int32 → Option (Int32)} (hk2 : ∀ (x3 : Int32), k2 x3 = some u → qV G X 0 0 qKS qRF σ 2 [some (.ref 33), some (.int x1), some (.int x2), some (.int x3)] []) {x3 : Int32} (h : p_Spans_covers_33_l2 f  σ x1 x2  k2 x3 = some u) : qV G X 0 0 qKS qRF σ 2 [some (.ref 33), some (.int x1), some (.int x2), some (.int x3)] [] := by
  unfold p_Spans_covers_33_l2 at h
  refine q_iload_n hX d_Spans_covers_2 rfl ?_
  refine q_aload_n hX d_Spans_covers_3 rfl ?_
  refine q_getI hX fl_Spans_21 kc_33 d_Spans_covers_4 ?_
  refine q_icmp_ge hX d_Spans_covers_7 rfl h (fun _ h => ?_) (fun _ h => ?_)
  · refine q_iconst hX d_Spans_covers_48 ic_0 ?_
    exact q_zretR hX zn_0 h hT d_Spans_covers_49
  · refine q_aload_n hX d_Spans_covers_10 rfl ?_
    refine q_getR hX fl_Spans_11 kc_33 (rfl : qRF 33 0 = some 34) d_Spans_covers_11 ?_
    refine q_iload_n hX d_Spans_covers_14 rfl ?_
    refine q_iald hX kc_34 d_Spans_covers_15 h (fun hi1 h => ?_)
    refine q_iload_n hX d_Spans_covers_16 rfl ?_
    refine q_icmp_ne hX d_Spans_covers_17 rfl h (fun _ h => ?_) (fun _ h => ?_)
    · refine q_iinc hX d_Spans_covers_42 rfl (ii_1 _) (by decide) rfl rfl ?_
      refine q_goto hX d_Spans_covers_45 rfl ?_
      exact q_mask [true, true, true, true] rfl (hk2 _ h)
    · refine q_aload_n hX d_Spans_covers_20 rfl ?_
      refine q_getR hX fl_Spans_15 kc_33 (rfl : qRF 33 1 = some 35) d_Spans_covers_21 ?_
      refine q_iload_n hX d_Spans_covers_24 rfl ?_
      refine q_iald hX kc_35 d_Spans_covers_25 h (fun hi2 h => ?_)
      refine q_iload_n hX d_Spans_covers_26 rfl ?_
      refine q_icmp_gt hX d_Spans_covers_27 rfl h (fun _ h => ?_) (fun _ h => ?_)
      · refine q_iinc hX d_Spans_covers_42 rfl (ii_1 _) (by decide) rfl rfl ?_
        refine q_goto hX d_Spans_covers_45 rfl ?_
        exact q_mask [true, true, true, true] rfl (hk2 _ h)
      · refine q_iload_n hX d_Spans_covers_30 rfl ?_
        refine q_aload_n hX d_Spans_covers_31 rfl ?_
        refine q_getR hX fl_Spans_18 kc_33 (rfl : qRF 33 2 = some 36) d_Spans_covers_32 ?_
        refine q_iload_n hX d_Spans_covers_35 rfl ?_
        refine q_iald hX kc_36 d_Spans_covers_36 h (fun hi3 h => ?_)
        refine q_icmp_gt hX d_Spans_covers_37 rfl h (fun _ h => ?_) (fun _ h => ?_)
        · refine q_iinc hX d_Spans_covers_42 rfl (ii_1 _) (by decide) rfl rfl ?_
          refine q_goto hX d_Spans_covers_45 rfl ?_
          exact q_mask [true, true, true, true] rfl (hk2 _ h)
        · refine q_iconst hX d_Spans_covers_40 ic_1 ?_
          exact q_zretR hX zn_1 h hT d_Spans_covers_41
theorem t_Spans_covers_33_l2 {G : qG} {X : qX} (hX : qOk G X "ChantryRolls$Spans" prog_12_method_4_code 4 (some .boolean) 1) {u : Int32} {f : Nat} {σ : qMem} {x1 : Int32} {x2 : Int32} (hT : qTg G X 0 0 qKS qRF σ (some (.int u))) : ∀ (n : Nat) (x3 : Int32), qfix1 (p_Spans_covers_33_l2 f  σ x1 x2 ) n x3 = some u → qV G X 0 0 qKS qRF σ 2 [some (.ref 33), some (.int x1), some (.int x2), some (.int x3)] [] :=
  qfix1_ind (fun k hk _ h => t_Spans_covers_33_lb2 hX   hT  hk h)
set_option maxHeartbeats 4000000 in
theorem c_Spans_covers_33 (l : Launch) (G : qG) (hA : qAd G) (f : Nat) (σ : qMem) (x1 : Int32) (x2 : Int32) {u : Int32} (h : p_Spans_covers_33 f σ x1 x2 = some u) : qCt l y_Spans_covers prog_12_method_4_code 4 (some .boolean) 1 G qKS qRF σ [(.ref 33), (.int x1), (.int x2)] (some (.int u)) qKS qRF σ 0 0 := by
  refine qCt.of (lv := [some (.ref 33), some (.int x1), some (.int x2), none]) (by decide) hA (Nat.le_of_ble_eq_true rfl) rfl ?_
  intro X hl _ _ _ hX hT
  subst hl
  unfold p_Spans_covers_33 at h
  refine q_iconst hX d_Spans_covers_0 ic_0 ?_
  refine q_istore_n hX d_Spans_covers_1 (by decide) rfl rfl ?_
  exact q_mask [true, true, true, true] rfl (t_Spans_covers_33_l2 hX hT f _ h)
set_option maxHeartbeats 4000000 in
theorem c_Lines_sameAltar (l : Launch) (G : qG) (hA : qAd G) (f : Nat) (σ : qMem) (x1 : Int32) (x2 : Int32) {u : Int32} (h : p_Lines_sameAltar f σ x1 x2 = some u) : qCt l y_Lines_sameAltar prog_8_method_9_code 3 (some .boolean) 2 G qKS qRF σ [(.ref 42), (.int x1), (.int x2)] (some (.int u)) qKS qRF σ 0 0 := by
  refine qCt.of (lv := [some (.ref 42), some (.int x1), some (.int x2)]) (by decide) hA (Nat.le_of_ble_eq_true rfl) rfl ?_
  intro X hl _ _ _ hX hT
  subst hl
  unfold p_Lines_sameAltar at h
  refine q_aload_n hX d_Lines_sameAltar_0 rfl ?_
  refine q_getR hX fl_Lines_32 kc_42 (rfl : qRF 42 0 = some 13) d_Lines_sameAltar_1 ?_
  refine q_aload_n hX d_Lines_sameAltar_4 rfl ?_
  refine q_getR hX fl_Lines_11 kc_42 (rfl : qRF 42 4 = some 43) d_Lines_sameAltar_5 ?_
  refine q_iload_n hX d_Lines_sameAltar_8 rfl ?_
  refine q_iald hX kc_43 d_Lines_sameAltar_9 h (fun hi1 h => ?_)
  refine q_iconst hX d_Lines_sameAltar_10 ic_2 ?_
  obtain ⟨u2, hc3, h⟩ := qbind h
  refine q_cVr hX (c_Promises_of X.l G hX.ad f _ _ _ hc3) cw_Lines_55 rfl kc_13 rfl (Nat.le_of_ble_eq_true rfl) rfl (Nat.le_of_ble_eq_true rfl) d_Lines_sameAltar_11 ?_
  refine q_aload_n hX d_Lines_sameAltar_14 rfl ?_
  refine q_getR hX fl_Lines_32 kc_42 (rfl : qRF 42 0 = some 13) d_Lines_sameAltar_15 ?_
  refine q_aload_n hX d_Lines_sameAltar_18 rfl ?_
  refine q_getR hX fl_Lines_11 kc_42 (rfl : qRF 42 4 = some 43) d_Lines_sameAltar_19 ?_
  refine q_iload_n hX d_Lines_sameAltar_22 rfl ?_
  refine q_iald hX kc_43 d_Lines_sameAltar_23 h (fun hi4 h => ?_)
  refine q_iconst hX d_Lines_sameAltar_24 ic_2 ?_
  obtain ⟨u5, hc6, h⟩ := qbind h
  refine q_cVr hX (c_Promises_of X.l G hX.ad f _ _ _ hc6) cw_Lines_55 rfl kc_13 rfl (Nat.le_of_ble_eq_true rfl) rfl (Nat.le_of_ble_eq_true rfl) d_Lines_sameAltar_25 ?_
  refine q_icmp_ne hX d_Lines_sameAltar_28 rfl h (fun _ h => ?_) (fun _ h => ?_)
  · refine q_iconst hX d_Lines_sameAltar_35 ic_0 ?_
    exact q_zretR hX zn_0 h hT d_Lines_sameAltar_36
  · refine q_iconst hX d_Lines_sameAltar_31 ic_1 ?_
    refine q_goto hX d_Lines_sameAltar_32 rfl ?_
    exact q_zretR hX zn_1 h hT d_Lines_sameAltar_36
set_option maxHeartbeats 4000000 in
theorem t_Lines_standsAt_b196 {G : qG} {X : qX} (hX : qOk G X "ChantryRolls$Lines" prog_8_method_8_code 9 (some .boolean) 5) {u : Int32} {f : Nat} {k84 : Int32 → Int32 → Option (Int32)} {σ : qMem} {x2 : Int32} {x4 : Int32} {x5 : Int32} {x6 : Int32} {x7 : Int32} {x8 : Int32} (hT : qTg G X 0 0 qKS qRF σ (some (.int u))) (hk84 : ∀ (x6 : Int32) (x7 : Int32), k84 x6 x7 = some u → qV G X 0 0 qKS qRF σ 84 [some (.ref 42), none, some (.int x2), none, some (.int x4), some (.int x5), some (.int x6), some (.int x7), none] []) (h : p_Lines_standsAt_b196 f   k84 σ x2 x4 x5 x6 x7 x8 = some u) : qV G X 0 0 qKS qRF σ 196 [some (.ref 42), none, some (.int x2), none, some (.int x4), some (.int x5), some (.int x6), some (.int x7), some (.int x8)] [] := by
  unfold p_Lines_standsAt_b196 at h
  refine q_iload hX d_Lines_standsAt_196 rfl ?_
  refine q_iload hX d_Lines_standsAt_198 rfl ?_
  refine q_if_eq hX d_Lines_standsAt_200 rfl h (fun _ h => ?_) (fun _ h => ?_)
  · refine q_iconst hX d_Lines_standsAt_207 ic_0 ?_
    refine q_iadd hX d_Lines_standsAt_208 ?_
    refine q_istore hX d_Lines_standsAt_209 (by decide) rfl rfl ?_
    refine q_iinc hX d_Lines_standsAt_211 rfl (ii_m1 _) (by decide) rfl rfl ?_
    refine q_goto hX d_Lines_standsAt_214 rfl ?_
    exact q_mask [true, false, true, false, true, true, true, true, false] rfl (hk84 _ _ h)
  · refine q_iconst hX d_Lines_standsAt_203 ic_1 ?_
    refine q_goto hX d_Lines_standsAt_204 rfl ?_
    refine q_iadd hX d_Lines_standsAt_208 ?_
    refine q_istore hX d_Lines_standsAt_209 (by decide) rfl rfl ?_
    refine q_iinc hX d_Lines_standsAt_211 rfl (ii_m1 _) (by decide) rfl rfl ?_
    refine q_goto hX d_Lines_standsAt_214 rfl ?_
    exact q_mask [true, false, true, false, true, true, true, true, false] rfl (hk84 _ _ h)
set_option maxHeartbeats 4000000 in
theorem t_Lines_standsAt_b151 {G : qG} {X : qX} (hX : qOk G X "ChantryRolls$Lines" prog_8_method_8_code 9 (some .boolean) 5) {u : Int32} {f : Nat} {k84 : Int32 → Int32 → Option (Int32)} {σ : qMem} {x2 : Int32} {x4 : Int32} {x5 : Int32} {x6 : Int32} {x7 : Int32} {s0 : Int32} (hT : qTg G X 0 0 qKS qRF σ (some (.int u))) (hk84 : ∀ (x6 : Int32) (x7 : Int32), k84 x6 x7 = some u → qV G X 0 0 qKS qRF σ 84 [some (.ref 42), none, some (.int x2), none, some (.int x4), some (.int x5), some (.int x6), some (.int x7), none] []) (h : p_Lines_standsAt_b151 f   k84 σ x2 x4 x5 x6 x7 s0 = some u) : qV G X 0 0 qKS qRF σ 151 [some (.ref 42), none, some (.int x2), none, some (.int x4), some (.int x5), some (.int x6), some (.int x7), none] [(.int s0)] := by
  unfold p_Lines_standsAt_b151 at h
  refine q_istore hX d_Lines_standsAt_151 (by decide) rfl rfl ?_
  refine q_aload_n hX d_Lines_standsAt_153 rfl ?_
  refine q_getR hX fl_Lines_18 kc_42 (rfl : qRF 42 6 = some 45) d_Lines_standsAt_154 ?_
  refine q_aload_n hX d_Lines_standsAt_157 rfl ?_
  refine q_getR hX fl_Lines_25 kc_42 (rfl : qRF 42 8 = some 47) d_Lines_standsAt_158 ?_
  refine q_iload hX d_Lines_standsAt_161 rfl ?_
  refine q_iald hX kc_47 d_Lines_standsAt_163 h (fun hi1 h => ?_)
  refine q_iald hX kc_45 d_Lines_standsAt_164 h (fun hi2 h => ?_)
  refine q_aload_n hX d_Lines_standsAt_165 rfl ?_
  refine q_getR hX fl_Lines_18 kc_42 (rfl : qRF 42 6 = some 45) d_Lines_standsAt_166 ?_
  refine q_iload_n hX d_Lines_standsAt_169 rfl ?_
  refine q_iald hX kc_45 d_Lines_standsAt_170 h (fun hi3 h => ?_)
  refine q_icmp_ne hX d_Lines_standsAt_171 rfl h (fun _ h => ?_) (fun _ h => ?_)
  · exact q_mask [true, false, true, false, true, true, true, true, true] rfl (t_Lines_standsAt_b196 hX hT hk84 h)
  · refine q_iload hX d_Lines_standsAt_174 rfl ?_
    refine q_if_ne hX d_Lines_standsAt_176 rfl h (fun _ h => ?_) (fun _ h => ?_)
    · refine q_iconst hX d_Lines_standsAt_194 ic_0 ?_
      exact q_zretR hX zn_0 h hT d_Lines_standsAt_195
    · refine q_aload_n hX d_Lines_standsAt_179 rfl ?_
      refine q_aload_n hX d_Lines_standsAt_180 rfl ?_
      refine q_getR hX fl_Lines_25 kc_42 (rfl : qRF 42 8 = some 47) d_Lines_standsAt_181 ?_
      refine q_iload hX d_Lines_standsAt_184 rfl ?_
      refine q_iald hX kc_47 d_Lines_standsAt_186 h (fun hi4 h => ?_)
      refine q_iload_n hX d_Lines_standsAt_187 rfl ?_
      obtain ⟨u5, hc6, h⟩ := qbind h
      refine q_cVr hX (c_Lines_sameAltar X.l G hX.ad f _ _ _ hc6) cw_Lines_72 rfl kc_42 rfl (Nat.le_of_ble_eq_true rfl) rfl (Nat.le_of_ble_eq_true rfl) d_Lines_standsAt_188 ?_
      refine q_if_eq hX d_Lines_standsAt_191 rfl h (fun _ h => ?_) (fun _ h => ?_)
      · exact q_mask [true, false, true, false, true, true, true, true, true] rfl (t_Lines_standsAt_b196 hX hT hk84 h)
      · refine q_iconst hX d_Lines_standsAt_194 ic_0 ?_
        exact q_zretR hX zn_0 h hT d_Lines_standsAt_195
set_option maxHeartbeats 4000000 in
theorem t_Lines_standsAt_b217 {G : qG} {X : qX} (hX : qOk G X "ChantryRolls$Lines" prog_8_method_8_code 9 (some .boolean) 5) {u : Int32} {f : Nat} {σ : qMem} {x4 : Int32} {x6 : Int32} (hT : qTg G X 0 0 qKS qRF σ (some (.int u))) (h : p_Lines_standsAt_b217 f    σ x4 x6 = some u) : qV G X 0 0 qKS qRF σ 217 [some (.ref 42), none, none, none, some (.int x4), none, some (.int x6), none, none] [] := by
  unfold p_Lines_standsAt_b217 at h
  refine q_iload hX d_Lines_standsAt_217 rfl ?_
  refine q_aload_n hX d_Lines_standsAt_219 rfl ?_
  refine q_getR hX fl_Lines_44 kc_42 (rfl : qRF 42 3 = some 32) d_Lines_standsAt_220 ?_
  refine q_iload hX d_Lines_standsAt_223 rfl ?_
  refine q_iald hX kc_32 d_Lines_standsAt_225 h (fun hi7 h => ?_)
  refine q_icmp_ge hX d_Lines_standsAt_226 rfl h (fun _ h => ?_) (fun _ h => ?_)
  · refine q_iconst hX d_Lines_standsAt_233 ic_0 ?_
    exact q_zretR hX zn_0 h hT d_Lines_standsAt_234
  · refine q_iconst hX d_Lines_standsAt_229 ic_1 ?_
    refine q_goto hX d_Lines_standsAt_230 rfl ?_
    exact q_zretR hX zn_1 h hT d_Lines_standsAt_234
set_option maxHeartbeats 4000000 in
theorem t_Lines_standsAt_lb84 {G : qG} {X : qX} (hX : qOk G X "ChantryRolls$Lines" prog_8_method_8_code 9 (some .boolean) 5) {u : Int32} {f : Nat} {σ : qMem} {x2 : Int32} {x4 : Int32} {x5 : Int32} (hT : qTg G X 0 0 qKS qRF σ (some (.int u))) {k84 : Int32 → Int32 → Option (Int32)} (hk84 : ∀ (x6 : Int32) (x7 : Int32), k84 x6 x7 = some u → qV G X 0 0 qKS qRF σ 84 [some (.ref 42), none, some (.int x2), none, some (.int x4), some (.int x5), some (.int x6), some (.int x7), none] []) {x6 : Int32} {x7 : Int32} (h : p_Lines_standsAt_l84 f  σ x2 x4 x5  k84 x6 x7 = some u) : qV G X 0 0 qKS qRF σ 84 [some (.ref 42), none, some (.int x2), none, some (.int x4), some (.int x5), some (.int x6), some (.int x7), none] [] := by
  unfold p_Lines_standsAt_l84 at h
  refine q_iload hX d_Lines_standsAt_84 rfl ?_
  refine q_if_lt hX d_Lines_standsAt_86 rfl h (fun _ h => ?_) (fun _ h => ?_)
  · exact q_mask [true, false, false, false, true, false, true, false, false] rfl (t_Lines_standsAt_b217 hX hT h)
  · refine q_aload_n hX d_Lines_standsAt_89 rfl ?_
    refine q_getR hX fl_Lines_15 kc_42 (rfl : qRF 42 5 = some 44) d_Lines_standsAt_90 ?_
    refine q_aload_n hX d_Lines_standsAt_93 rfl ?_
    refine q_getR hX fl_Lines_25 kc_42 (rfl : qRF 42 8 = some 47) d_Lines_standsAt_94 ?_
    refine q_iload hX d_Lines_standsAt_97 rfl ?_
    refine q_iald hX kc_47 d_Lines_standsAt_99 h (fun hi8 h => ?_)
    refine q_iald hX kc_44 d_Lines_standsAt_100 h (fun hi9 h => ?_)
    refine q_iload hX d_Lines_standsAt_101 rfl ?_
    refine q_icmp_ne hX d_Lines_standsAt_103 rfl h (fun _ h => ?_) (fun _ h => ?_)
    · exact q_mask [true, false, false, false, true, false, true, false, false] rfl (t_Lines_standsAt_b217 hX hT h)
    · refine q_aload_n hX d_Lines_standsAt_106 rfl ?_
      refine q_getR hX fl_Lines_21 kc_42 (rfl : qRF 42 7 = some 46) d_Lines_standsAt_107 ?_
      refine q_aload_n hX d_Lines_standsAt_110 rfl ?_
      refine q_getR hX fl_Lines_25 kc_42 (rfl : qRF 42 8 = some 47) d_Lines_standsAt_111 ?_
      refine q_iload hX d_Lines_standsAt_114 rfl ?_
      refine q_iald hX kc_47 d_Lines_standsAt_116 h (fun hi10 h => ?_)
      refine q_zald hX kc_46 d_Lines_standsAt_117 h (fun hi11 h => ?_)
      refine q_if_eq hX d_Lines_standsAt_118 rfl h (fun _ h => ?_) (fun _ h => ?_)
      · refine q_iinc hX d_Lines_standsAt_211 rfl (ii_m1 _) (by decide) rfl rfl ?_
        refine q_goto hX d_Lines_standsAt_214 rfl ?_
        exact q_mask [true, false, true, false, true, true, true, true, false] rfl (hk84 _ _ h)
      · refine q_aload_n hX d_Lines_standsAt_121 rfl ?_
        refine q_getR hX fl_Lines_32 kc_42 (rfl : qRF 42 0 = some 13) d_Lines_standsAt_122 ?_
        refine q_aload_n hX d_Lines_standsAt_125 rfl ?_
        refine q_getR hX fl_Lines_11 kc_42 (rfl : qRF 42 4 = some 43) d_Lines_standsAt_126 ?_
        refine q_aload_n hX d_Lines_standsAt_129 rfl ?_
        refine q_getR hX fl_Lines_25 kc_42 (rfl : qRF 42 8 = some 47) d_Lines_standsAt_130 ?_
        refine q_iload hX d_Lines_standsAt_133 rfl ?_
        refine q_iald hX kc_47 d_Lines_standsAt_135 h (fun hi12 h => ?_)
        refine q_iald hX kc_43 d_Lines_standsAt_136 h (fun hi13 h => ?_)
        refine q_iconst hX d_Lines_standsAt_137 ic_3 ?_
        obtain ⟨u14, hc15, h⟩ := qbind h
        refine q_cVr hX (c_Promises_of X.l G hX.ad f _ _ _ hc15) cw_Lines_55 rfl kc_13 rfl (Nat.le_of_ble_eq_true rfl) rfl (Nat.le_of_ble_eq_true rfl) d_Lines_standsAt_138 ?_
        refine q_iload hX d_Lines_standsAt_141 rfl ?_
        refine q_icmp_ne hX d_Lines_standsAt_143 rfl h (fun _ h => ?_) (fun _ h => ?_)
        · refine q_iconst hX d_Lines_standsAt_150 ic_0 ?_
          exact q_mask [true, false, true, false, true, true, true, true, false] rfl (t_Lines_standsAt_b151 hX hT hk84 h)
        · refine q_iconst hX d_Lines_standsAt_146 ic_1 ?_
          refine q_goto hX d_Lines_standsAt_147 rfl ?_
          exact q_mask [true, false, true, false, true, true, true, true, false] rfl (t_Lines_standsAt_b151 hX hT hk84 h)
theorem t_Lines_standsAt_l84 {G : qG} {X : qX} (hX : qOk G X "ChantryRolls$Lines" prog_8_method_8_code 9 (some .boolean) 5) {u : Int32} {f : Nat} {σ : qMem} {x2 : Int32} {x4 : Int32} {x5 : Int32} (hT : qTg G X 0 0 qKS qRF σ (some (.int u))) : ∀ (n : Nat) (x6 : Int32) (x7 : Int32), qfix2 (p_Lines_standsAt_l84 f  σ x2 x4 x5 ) n x6 x7 = some u → qV G X 0 0 qKS qRF σ 84 [some (.ref 42), none, some (.int x2), none, some (.int x4), some (.int x5), some (.int x6), some (.int x7), none] [] :=
  qfix2_ind (fun k hk _ _ h => t_Lines_standsAt_lb84 hX   hT  hk h)
set_option maxHeartbeats 4000000 in
theorem c_Lines_standsAt (l : Launch) (G : qG) (hA : qAd G) (f : Nat) (σ : qMem) (x1 : Int32) {u : Int32} (h : p_Lines_standsAt f σ x1 = some u) : qCt l y_Lines_standsAt prog_8_method_8_code 9 (some .boolean) 5 G qKS qRF σ [(.ref 42), (.int x1)] (some (.int u)) qKS qRF σ 0 0 := by
  refine qCt.of (lv := [some (.ref 42), some (.int x1), none, none, none, none, none, none, none]) (by decide) hA (Nat.le_of_ble_eq_true rfl) rfl ?_
  intro X hl _ _ _ hX hT
  subst hl
  unfold p_Lines_standsAt at h
  refine q_aload_n hX d_Lines_standsAt_0 rfl ?_
  refine q_getR hX fl_Lines_25 kc_42 (rfl : qRF 42 8 = some 47) d_Lines_standsAt_1 ?_
  refine q_iload_n hX d_Lines_standsAt_4 rfl ?_
  refine q_iald hX kc_47 d_Lines_standsAt_5 h (fun hi16 h => ?_)
  refine q_istore_n hX d_Lines_standsAt_6 (by decide) rfl rfl ?_
  refine q_aload_n hX d_Lines_standsAt_7 rfl ?_
  refine q_getR hX fl_Lines_11 kc_42 (rfl : qRF 42 4 = some 43) d_Lines_standsAt_8 ?_
  refine q_iload_n hX d_Lines_standsAt_11 rfl ?_
  refine q_iald hX kc_43 d_Lines_standsAt_12 h (fun hi17 h => ?_)
  refine q_istore_n hX d_Lines_standsAt_13 (by decide) rfl rfl ?_
  refine q_aload_n hX d_Lines_standsAt_14 rfl ?_
  refine q_getR hX fl_Lines_32 kc_42 (rfl : qRF 42 0 = some 13) d_Lines_standsAt_15 ?_
  refine q_iload_n hX d_Lines_standsAt_18 rfl ?_
  refine q_iconst hX d_Lines_standsAt_19 ic_3 ?_
  obtain ⟨u18, hc19, h⟩ := qbind h
  refine q_cVr hX (c_Promises_of X.l G hX.ad f _ _ _ hc19) cw_Lines_55 rfl kc_13 rfl (Nat.le_of_ble_eq_true rfl) rfl (Nat.le_of_ble_eq_true rfl) d_Lines_standsAt_20 ?_
  refine q_istore hX d_Lines_standsAt_23 (by decide) rfl rfl ?_
  refine q_aload_n hX d_Lines_standsAt_25 rfl ?_
  refine q_getR hX fl_Lines_15 kc_42 (rfl : qRF 42 5 = some 44) d_Lines_standsAt_26 ?_
  refine q_iload_n hX d_Lines_standsAt_29 rfl ?_
  refine q_iald hX kc_44 d_Lines_standsAt_30 h (fun hi20 h => ?_)
  refine q_istore hX d_Lines_standsAt_31 (by decide) rfl rfl ?_
  refine q_iload hX d_Lines_standsAt_33 rfl ?_
  refine q_aload_n hX d_Lines_standsAt_35 rfl ?_
  refine q_getR hX fl_Lines_32 kc_42 (rfl : qRF 42 0 = some 13) d_Lines_standsAt_36 ?_
  refine q_iload_n hX d_Lines_standsAt_39 rfl ?_
  refine q_iconst hX d_Lines_standsAt_40 ic_5 ?_
  obtain ⟨u21, hc22, h⟩ := qbind h
  refine q_cVr hX (c_Promises_of X.l G hX.ad f _ _ _ hc22) cw_Lines_55 rfl kc_13 rfl (Nat.le_of_ble_eq_true rfl) rfl (Nat.le_of_ble_eq_true rfl) d_Lines_standsAt_41 ?_
  refine q_icmp_lt hX d_Lines_standsAt_44 rfl h (fun _ h => ?_) (fun _ h => ?_)
  · refine q_iconst hX d_Lines_standsAt_74 ic_0 ?_
    exact q_zretR hX zn_0 h hT d_Lines_standsAt_75
  · refine q_aload_n hX d_Lines_standsAt_47 rfl ?_
    refine q_getR hX fl_Lines_36 kc_42 (rfl : qRF 42 1 = some 37) d_Lines_standsAt_48 ?_
    refine q_iload_n hX d_Lines_standsAt_51 rfl ?_
    refine q_iload hX d_Lines_standsAt_52 rfl ?_
    obtain ⟨u23, hc24, h⟩ := qbind h
    refine q_cVr hX (c_Acts_ended X.l G hX.ad f _ _ _ hc24) cw_Lines_61 rfl kc_37 rfl (Nat.le_of_ble_eq_true rfl) rfl (Nat.le_of_ble_eq_true rfl) d_Lines_standsAt_54 ?_
    refine q_if_ne hX d_Lines_standsAt_57 rfl h (fun _ h => ?_) (fun _ h => ?_)
    · refine q_iconst hX d_Lines_standsAt_74 ic_0 ?_
      exact q_zretR hX zn_0 h hT d_Lines_standsAt_75
    · refine q_aload_n hX d_Lines_standsAt_60 rfl ?_
      refine q_getR hX fl_Lines_40 kc_42 (rfl : qRF 42 2 = some 33) d_Lines_standsAt_61 ?_
      refine q_iload hX d_Lines_standsAt_64 rfl ?_
      refine q_iload hX d_Lines_standsAt_66 rfl ?_
      obtain ⟨u25, hc26, h⟩ := qbind h
      refine q_cVr hX (c_Spans_covers_33 X.l G hX.ad f _ _ _ hc26) cw_Lines_67 rfl kc_33 rfl (Nat.le_of_ble_eq_true rfl) rfl (Nat.le_of_ble_eq_true rfl) d_Lines_standsAt_68 ?_
      refine q_if_eq hX d_Lines_standsAt_71 rfl h (fun _ h => ?_) (fun _ h => ?_)
      · refine q_iconst hX d_Lines_standsAt_76 ic_0 ?_
        refine q_istore hX d_Lines_standsAt_77 (by decide) rfl rfl ?_
        refine q_iload_n hX d_Lines_standsAt_79 rfl ?_
        refine q_iconst hX d_Lines_standsAt_80 ic_1 ?_
        refine q_isub hX d_Lines_standsAt_81 ?_
        refine q_istore hX d_Lines_standsAt_82 (by decide) rfl rfl ?_
        exact q_mask [true, false, true, false, true, true, true, true, false] rfl (t_Lines_standsAt_l84 hX hT f _ _ h)
      · refine q_iconst hX d_Lines_standsAt_74 ic_0 ?_
        exact q_zretR hX zn_0 h hT d_Lines_standsAt_75
set_option maxHeartbeats 4000000 in
theorem t_Lines_judge_lb2 {G : qG} {X : qX} (hX : qOk G X "ChantryRolls$Lines" prog_8_method_7_code 2 none 6) {u : qMem} {f : Nat} (hT : qTg G X 0 0 qKS qRF u none) {k2 : qMem → Int32 → Option (qMem)} (hk2 : ∀ (σ : qMem) (x1 : Int32), k2 σ x1 = some u → qV G X 0 0 qKS qRF σ 2 [some (.ref 42), some (.int x1)] []) {σ : qMem} {x1 : Int32} (h : p_Lines_judge_l2 f    k2 σ x1 = some u) : qV G X 0 0 qKS qRF σ 2 [some (.ref 42), some (.int x1)] [] := by
  unfold p_Lines_judge_l2 at h
  refine q_iload_n hX d_Lines_judge_2 rfl ?_
  refine q_aload_n hX d_Lines_judge_3 rfl ?_
  refine q_getI hX fl_Lines_28 kc_42 d_Lines_judge_4 ?_
  refine q_icmp_ge hX d_Lines_judge_7 rfl h (fun _ h => ?_) (fun _ h => ?_)
  · exact q_vretW hX h hT d_Lines_judge_32
  · refine q_aload_n hX d_Lines_judge_10 rfl ?_
    refine q_getR hX fl_Lines_21 kc_42 (rfl : qRF 42 7 = some 46) d_Lines_judge_11 ?_
    refine q_aload_n hX d_Lines_judge_14 rfl ?_
    refine q_getR hX fl_Lines_25 kc_42 (rfl : qRF 42 8 = some 47) d_Lines_judge_15 ?_
    refine q_iload_n hX d_Lines_judge_18 rfl ?_
    refine q_iald hX kc_47 d_Lines_judge_19 h (fun hi1 h => ?_)
    refine q_aload_n hX d_Lines_judge_20 rfl ?_
    refine q_iload_n hX d_Lines_judge_21 rfl ?_
    obtain ⟨u2, hc3, h⟩ := qbind h
    refine q_cVr hX (c_Lines_standsAt X.l G hX.ad f _ _ hc3) cw_Lines_51 rfl kc_42 rfl (Nat.le_of_ble_eq_true rfl) rfl (Nat.le_of_ble_eq_true rfl) d_Lines_judge_22 ?_
    refine q_zast hX kc_46 qKS_len d_Lines_judge_25 h (fun hi4 h => ?_)
    refine q_iinc hX d_Lines_judge_26 rfl (ii_1 _) (by decide) rfl rfl ?_
    refine q_goto hX d_Lines_judge_29 rfl ?_
    exact q_mask [true, true] rfl (hk2 _ _ h)
theorem t_Lines_judge_l2 {G : qG} {X : qX} (hX : qOk G X "ChantryRolls$Lines" prog_8_method_7_code 2 none 6) {u : qMem} {f : Nat} (hT : qTg G X 0 0 qKS qRF u none) : ∀ (n : Nat) (σ : qMem) (x1 : Int32), qfix2 (p_Lines_judge_l2 f   ) n σ x1 = some u → qV G X 0 0 qKS qRF σ 2 [some (.ref 42), some (.int x1)] [] :=
  qfix2_ind (fun k hk _ _ h => t_Lines_judge_lb2 hX   hT  hk h)
set_option maxHeartbeats 4000000 in
theorem c_Lines_judge (l : Launch) (G : qG) (hA : qAd G) (f : Nat) (σ : qMem) {u : qMem} (h : p_Lines_judge f σ  = some u) : qCt l y_Lines_judge prog_8_method_7_code 2 none 6 G qKS qRF σ [(.ref 42)] none qKS qRF u 0 0 := by
  refine qCt.of (lv := [some (.ref 42), none]) (by decide) hA (Nat.le_of_ble_eq_true rfl) rfl ?_
  intro X hl _ _ _ hX hT
  subst hl
  unfold p_Lines_judge at h
  refine q_iconst hX d_Lines_judge_0 ic_0 ?_
  refine q_istore_n hX d_Lines_judge_1 (by decide) rfl rfl ?_
  exact q_mask [true, true] rfl (t_Lines_judge_l2 hX hT f _ _ h)
set_option maxHeartbeats 4000000 in
theorem c_C_vow (l : Launch) (G : qG) (hA : qAd G) (f : Nat) (σ : qMem) (x1 : Int32) (x2 : Int32) {u : Int32 × qMem} (h : p_C_vow f σ x1 x2 = some u) : qCt l y_C_vow prog_1_method_12_code 4 (some .int) 7 G qKS qRF σ [(.ref 0), (.int x1), (.int x2)] (some (.int u.1)) qKS qRF u.2 0 0 := by
  refine qCt.of (lv := [some (.ref 0), some (.int x1), some (.int x2), none]) (by decide) hA (Nat.le_of_ble_eq_true rfl) rfl ?_
  intro X hl _ _ _ hX hT
  subst hl
  unfold p_C_vow at h
  refine q_iload_n hX d_C_vow_0 rfl ?_
  refine q_iconst hX d_C_vow_1 ic_0 ?_
  refine q_bipush hX d_C_vow_2 bp_7 ?_
  obtain ⟨u1, hc2, h⟩ := qbind h
  refine q_cSr hX (c_C_outside X.l G hX.ad f _ _ _ _ hc2) cw_C_122 rfl (Nat.le_of_ble_eq_true rfl) rfl (Nat.le_of_ble_eq_true rfl) d_C_vow_4 ?_
  refine q_if_ne hX d_C_vow_7 rfl h (fun _ h => ?_) (fun _ h => ?_)
  · refine q_ldc hX w_383 d_C_vow_19 ?_
    exact q_iretW hX h hT d_C_vow_21
  · refine q_iload_n hX d_C_vow_10 rfl ?_
    refine q_iconst hX d_C_vow_11 ic_1 ?_
    refine q_iconst hX d_C_vow_12 ic_3 ?_
    obtain ⟨u3, hc4, h⟩ := qbind h
    refine q_cSr hX (c_C_outside X.l G hX.ad f _ _ _ _ hc4) cw_C_122 rfl (Nat.le_of_ble_eq_true rfl) rfl (Nat.le_of_ble_eq_true rfl) d_C_vow_13 ?_
    refine q_if_eq hX d_C_vow_16 rfl h (fun _ h => ?_) (fun _ h => ?_)
    · refine q_aload_n hX d_C_vow_22 rfl ?_
      refine q_getR hX fl_C_37 kc_0 (rfl : qRF 0 4 = some 32) d_C_vow_23 ?_
      refine q_iload_n hX d_C_vow_26 rfl ?_
      refine q_iald hX kc_32 d_C_vow_27 h (fun hi5 h => ?_)
      refine q_istore_n hX d_C_vow_28 (by decide) rfl rfl ?_
      refine q_aload_n hX d_C_vow_29 rfl ?_
      refine q_getR hX fl_C_37 kc_0 (rfl : qRF 0 4 = some 32) d_C_vow_30 ?_
      refine q_iload_n hX d_C_vow_33 rfl ?_
      refine q_iload_n hX d_C_vow_34 rfl ?_
      refine q_iast hX kc_32 qKS_len d_C_vow_35 h (fun hi6 h => ?_)
      refine q_aload_n hX d_C_vow_36 rfl ?_
      refine q_getR hX fl_C_62 kc_0 (rfl : qRF 0 7 = some 42) d_C_vow_37 ?_
      obtain ⟨u7, hc8, h⟩ := qbind h
      refine q_cVv hX (c_Lines_judge X.l G hX.ad f _  hc8) cw_C_199 rfl kc_42 rfl (Nat.le_of_ble_eq_true rfl) rfl (Nat.le_of_ble_eq_true rfl) d_C_vow_40 ?_
      refine q_iload_n hX d_C_vow_43 rfl ?_
      exact q_iretW hX h hT d_C_vow_44
    · refine q_ldc hX w_383 d_C_vow_19 ?_
      exact q_iretW hX h hT d_C_vow_21
set_option maxHeartbeats 4000000 in
theorem c_C_noSpan (l : Launch) (G : qG) (hA : qAd G) (f : Nat) (σ : qMem) (x0 : Int32) (x1 : Int32) {u : Int32} (h : p_C_noSpan f σ x0 x1 = some u) : qCt l y_C_noSpan prog_1_method_44_code 2 (some .boolean) 3 G qKS qRF σ [(.int x0), (.int x1)] (some (.int u)) qKS qRF σ 0 0 := by
  refine qCt.of (lv := [some (.int x0), some (.int x1)]) (by decide) hA (Nat.le_of_ble_eq_true rfl) rfl ?_
  intro X hl _ _ _ hX hT
  subst hl
  unfold p_C_noSpan at h
  refine q_iload_n hX d_C_noSpan_0 rfl ?_
  obtain ⟨u1, hc2, h⟩ := qbind h
  refine q_cSr hX (c_C_noDay X.l G hX.ad f _ _ hc2) cw_C_178 rfl (Nat.le_of_ble_eq_true rfl) rfl (Nat.le_of_ble_eq_true rfl) d_C_noSpan_1 ?_
  refine q_if_ne hX d_C_noSpan_4 rfl h (fun _ h => ?_) (fun _ h => ?_)
  · refine q_iconst hX d_C_noSpan_18 ic_1 ?_
    refine q_goto hX d_C_noSpan_19 rfl ?_
    exact q_zretR hX zn_1 h hT d_C_noSpan_23
  · refine q_iload_n hX d_C_noSpan_7 rfl ?_
    refine q_iload_n hX d_C_noSpan_8 rfl ?_
    refine q_sipush hX d_C_noSpan_9 sp_9999 ?_
    obtain ⟨u3, hc4, h⟩ := qbind h
    refine q_cSr hX (c_C_outside X.l G hX.ad f _ _ _ _ hc4) cw_C_122 rfl (Nat.le_of_ble_eq_true rfl) rfl (Nat.le_of_ble_eq_true rfl) d_C_noSpan_12 ?_
    refine q_if_eq hX d_C_noSpan_15 rfl h (fun _ h => ?_) (fun _ h => ?_)
    · refine q_iconst hX d_C_noSpan_22 ic_0 ?_
      exact q_zretR hX zn_0 h hT d_C_noSpan_23
    · refine q_iconst hX d_C_noSpan_18 ic_1 ?_
      refine q_goto hX d_C_noSpan_19 rfl ?_
      exact q_zretR hX zn_1 h hT d_C_noSpan_23
set_option maxHeartbeats 4000000 in
theorem c_Spans_full_33 (l : Launch) (G : qG) (hA : qAd G) (f : Nat) (σ : qMem) {u : Int32} (h : p_Spans_full_33 f σ  = some u) : qCt l y_Spans_full prog_12_method_2_code 1 (some .boolean) 1 G qKS qRF σ [(.ref 33)] (some (.int u)) qKS qRF σ 0 0 := by
  refine qCt.of (lv := [some (.ref 33)]) (by decide) hA (Nat.le_of_ble_eq_true rfl) rfl ?_
  intro X hl _ _ _ hX hT
  subst hl
  unfold p_Spans_full_33 at h
  refine q_aload_n hX d_Spans_full_0 rfl ?_
  refine q_getI hX fl_Spans_21 kc_33 d_Spans_full_1 ?_
  refine q_bipush hX d_Spans_full_4 bp_20 ?_
  refine q_icmp_lt hX d_Spans_full_6 rfl h (fun _ h => ?_) (fun _ h => ?_)
  · refine q_iconst hX d_Spans_full_13 ic_0 ?_
    exact q_zretR hX zn_0 h hT d_Spans_full_14
  · refine q_iconst hX d_Spans_full_9 ic_1 ?_
    refine q_goto hX d_Spans_full_10 rfl ?_
    exact q_zretR hX zn_1 h hT d_Spans_full_14
set_option maxHeartbeats 4000000 in
theorem c_Spans_full_59 (l : Launch) (G : qG) (hA : qAd G) (f : Nat) (σ : qMem) {u : Int32} (h : p_Spans_full_59 f σ  = some u) : qCt l y_Spans_full prog_12_method_2_code 1 (some .boolean) 1 G qKS qRF σ [(.ref 59)] (some (.int u)) qKS qRF σ 0 0 := by
  refine qCt.of (lv := [some (.ref 59)]) (by decide) hA (Nat.le_of_ble_eq_true rfl) rfl ?_
  intro X hl _ _ _ hX hT
  subst hl
  unfold p_Spans_full_59 at h
  refine q_aload_n hX d_Spans_full_0 rfl ?_
  refine q_getI hX fl_Spans_21 kc_59 d_Spans_full_1 ?_
  refine q_bipush hX d_Spans_full_4 bp_20 ?_
  refine q_icmp_lt hX d_Spans_full_6 rfl h (fun _ h => ?_) (fun _ h => ?_)
  · refine q_iconst hX d_Spans_full_13 ic_0 ?_
    exact q_zretR hX zn_0 h hT d_Spans_full_14
  · refine q_iconst hX d_Spans_full_9 ic_1 ?_
    refine q_goto hX d_Spans_full_10 rfl ?_
    exact q_zretR hX zn_1 h hT d_Spans_full_14
set_option maxHeartbeats 4000000 in
theorem c_Spans_add_33 (l : Launch) (G : qG) (hA : qAd G) (f : Nat) (σ : qMem) (x1 : Int32) (x2 : Int32) (x3 : Int32) {u : Int32 × qMem} (h : p_Spans_add_33 f σ x1 x2 x3 = some u) : qCt l y_Spans_add prog_12_method_3_code 4 (some .int) 1 G qKS qRF σ [(.ref 33), (.int x1), (.int x2), (.int x3)] (some (.int u.1)) qKS qRF u.2 0 0 := by
  refine qCt.of (lv := [some (.ref 33), some (.int x1), some (.int x2), some (.int x3)]) (by decide) hA (Nat.le_of_ble_eq_true rfl) rfl ?_
  intro X hl _ _ _ hX hT
  subst hl
  unfold p_Spans_add_33 at h
  refine q_aload_n hX d_Spans_add_0 rfl ?_
  refine q_getR hX fl_Spans_11 kc_33 (rfl : qRF 33 0 = some 34) d_Spans_add_1 ?_
  refine q_aload_n hX d_Spans_add_4 rfl ?_
  refine q_getI hX fl_Spans_21 kc_33 d_Spans_add_5 ?_
  refine q_iload_n hX d_Spans_add_8 rfl ?_
  refine q_iast hX kc_34 qKS_len d_Spans_add_9 h (fun hi1 h => ?_)
  refine q_aload_n hX d_Spans_add_10 rfl ?_
  refine q_getR hX fl_Spans_15 kc_33 (rfl : qRF 33 1 = some 35) d_Spans_add_11 ?_
  refine q_aload_n hX d_Spans_add_14 rfl ?_
  refine q_getI hX fl_Spans_21 kc_33 d_Spans_add_15 ?_
  refine q_iload_n hX d_Spans_add_18 rfl ?_
  refine q_iast hX kc_35 qKS_len d_Spans_add_19 h (fun hi2 h => ?_)
  refine q_aload_n hX d_Spans_add_20 rfl ?_
  refine q_getR hX fl_Spans_18 kc_33 (rfl : qRF 33 2 = some 36) d_Spans_add_21 ?_
  refine q_aload_n hX d_Spans_add_24 rfl ?_
  refine q_getI hX fl_Spans_21 kc_33 d_Spans_add_25 ?_
  refine q_iload_n hX d_Spans_add_28 rfl ?_
  refine q_iast hX kc_36 qKS_len d_Spans_add_29 h (fun hi3 h => ?_)
  refine q_aload_n hX d_Spans_add_30 rfl ?_
  refine q_dup hX rfl d_Spans_add_31 ?_
  refine q_getI hX fl_Spans_21 kc_33 d_Spans_add_32 ?_
  refine q_iconst hX d_Spans_add_35 ic_1 ?_
  refine q_iadd hX d_Spans_add_36 ?_
  refine q_putI hX fl_Spans_21 kc_33 rfl qKS_len d_Spans_add_37 ?_
  refine q_aload_n hX d_Spans_add_40 rfl ?_
  refine q_getI hX fl_Spans_21 kc_33 d_Spans_add_41 ?_
  exact q_iretW hX h hT d_Spans_add_44
set_option maxHeartbeats 4000000 in
theorem c_Spans_add_59 (l : Launch) (G : qG) (hA : qAd G) (f : Nat) (σ : qMem) (x1 : Int32) (x2 : Int32) (x3 : Int32) {u : Int32 × qMem} (h : p_Spans_add_59 f σ x1 x2 x3 = some u) : qCt l y_Spans_add prog_12_method_3_code 4 (some .int) 1 G qKS qRF σ [(.ref 59), (.int x1), (.int x2), (.int x3)] (some (.int u.1)) qKS qRF u.2 0 0 := by
  refine qCt.of (lv := [some (.ref 59), some (.int x1), some (.int x2), some (.int x3)]) (by decide) hA (Nat.le_of_ble_eq_true rfl) rfl ?_
  intro X hl _ _ _ hX hT
  subst hl
  unfold p_Spans_add_59 at h
  refine q_aload_n hX d_Spans_add_0 rfl ?_
  refine q_getR hX fl_Spans_11 kc_59 (rfl : qRF 59 0 = some 60) d_Spans_add_1 ?_
  refine q_aload_n hX d_Spans_add_4 rfl ?_
  refine q_getI hX fl_Spans_21 kc_59 d_Spans_add_5 ?_
  refine q_iload_n hX d_Spans_add_8 rfl ?_
  refine q_iast hX kc_60 qKS_len d_Spans_add_9 h (fun hi1 h => ?_)
  refine q_aload_n hX d_Spans_add_10 rfl ?_
  refine q_getR hX fl_Spans_15 kc_59 (rfl : qRF 59 1 = some 61) d_Spans_add_11 ?_
  refine q_aload_n hX d_Spans_add_14 rfl ?_
  refine q_getI hX fl_Spans_21 kc_59 d_Spans_add_15 ?_
  refine q_iload_n hX d_Spans_add_18 rfl ?_
  refine q_iast hX kc_61 qKS_len d_Spans_add_19 h (fun hi2 h => ?_)
  refine q_aload_n hX d_Spans_add_20 rfl ?_
  refine q_getR hX fl_Spans_18 kc_59 (rfl : qRF 59 2 = some 62) d_Spans_add_21 ?_
  refine q_aload_n hX d_Spans_add_24 rfl ?_
  refine q_getI hX fl_Spans_21 kc_59 d_Spans_add_25 ?_
  refine q_iload_n hX d_Spans_add_28 rfl ?_
  refine q_iast hX kc_62 qKS_len d_Spans_add_29 h (fun hi3 h => ?_)
  refine q_aload_n hX d_Spans_add_30 rfl ?_
  refine q_dup hX rfl d_Spans_add_31 ?_
  refine q_getI hX fl_Spans_21 kc_59 d_Spans_add_32 ?_
  refine q_iconst hX d_Spans_add_35 ic_1 ?_
  refine q_iadd hX d_Spans_add_36 ?_
  refine q_putI hX fl_Spans_21 kc_59 rfl qKS_len d_Spans_add_37 ?_
  refine q_aload_n hX d_Spans_add_40 rfl ?_
  refine q_getI hX fl_Spans_21 kc_59 d_Spans_add_41 ?_
  exact q_iretW hX h hT d_Spans_add_44
set_option maxHeartbeats 4000000 in
theorem c_C_sick (l : Launch) (G : qG) (hA : qAd G) (f : Nat) (σ : qMem) (x1 : Int32) (x2 : Int32) (x3 : Int32) {u : Int32 × qMem} (h : p_C_sick f σ x1 x2 x3 = some u) : qCt l y_C_sick prog_1_method_13_code 5 (some .int) 7 G qKS qRF σ [(.ref 0), (.int x1), (.int x2), (.int x3)] (some (.int u.1)) qKS qRF u.2 0 0 := by
  refine qCt.of (lv := [some (.ref 0), some (.int x1), some (.int x2), some (.int x3), none]) (by decide) hA (Nat.le_of_ble_eq_true rfl) rfl ?_
  intro X hl _ _ _ hX hT
  subst hl
  unfold p_C_sick at h
  refine q_iload_n hX d_C_sick_0 rfl ?_
  refine q_iconst hX d_C_sick_1 ic_0 ?_
  refine q_bipush hX d_C_sick_2 bp_7 ?_
  obtain ⟨u1, hc2, h⟩ := qbind h
  refine q_cSr hX (c_C_outside X.l G hX.ad f _ _ _ _ hc2) cw_C_122 rfl (Nat.le_of_ble_eq_true rfl) rfl (Nat.le_of_ble_eq_true rfl) d_C_sick_4 ?_
  refine q_if_ne hX d_C_sick_7 rfl h (fun _ h => ?_) (fun _ h => ?_)
  · refine q_ldc hX w_383 d_C_sick_18 ?_
    exact q_iretW hX h hT d_C_sick_20
  · refine q_iload_n hX d_C_sick_10 rfl ?_
    refine q_iload_n hX d_C_sick_11 rfl ?_
    obtain ⟨u3, hc4, h⟩ := qbind h
    refine q_cSr hX (c_C_noSpan X.l G hX.ad f _ _ _ hc4) cw_C_202 rfl (Nat.le_of_ble_eq_true rfl) rfl (Nat.le_of_ble_eq_true rfl) d_C_sick_12 ?_
    refine q_if_eq hX d_C_sick_15 rfl h (fun _ h => ?_) (fun _ h => ?_)
    · refine q_aload_n hX d_C_sick_21 rfl ?_
      refine q_getR hX fl_C_44 kc_0 (rfl : qRF 0 5 = some 33) d_C_sick_22 ?_
      obtain ⟨u5, hc6, h⟩ := qbind h
      refine q_cVr hX (c_Spans_full_33 X.l G hX.ad f _  hc6) cw_C_205 rfl kc_33 rfl (Nat.le_of_ble_eq_true rfl) rfl (Nat.le_of_ble_eq_true rfl) d_C_sick_25 ?_
      refine q_if_eq hX d_C_sick_28 rfl h (fun _ h => ?_) (fun _ h => ?_)
      · refine q_aload_n hX d_C_sick_34 rfl ?_
        refine q_getR hX fl_C_44 kc_0 (rfl : qRF 0 5 = some 33) d_C_sick_35 ?_
        refine q_iload_n hX d_C_sick_38 rfl ?_
        refine q_iload_n hX d_C_sick_39 rfl ?_
        refine q_iload_n hX d_C_sick_40 rfl ?_
        obtain ⟨u7, hc8, h⟩ := qbind h
        refine q_cVr hX (c_Spans_add_33 X.l G hX.ad f _ _ _ _ hc8) cw_C_206 rfl kc_33 rfl (Nat.le_of_ble_eq_true rfl) rfl (Nat.le_of_ble_eq_true rfl) d_C_sick_41 ?_
        refine q_istore hX d_C_sick_44 (by decide) rfl rfl ?_
        refine q_aload_n hX d_C_sick_46 rfl ?_
        refine q_getR hX fl_C_62 kc_0 (rfl : qRF 0 7 = some 42) d_C_sick_47 ?_
        obtain ⟨u9, hc10, h⟩ := qbind h
        refine q_cVv hX (c_Lines_judge X.l G hX.ad f _  hc10) cw_C_199 rfl kc_42 rfl (Nat.le_of_ble_eq_true rfl) rfl (Nat.le_of_ble_eq_true rfl) d_C_sick_50 ?_
        refine q_iload hX d_C_sick_53 rfl ?_
        exact q_iretW hX h hT d_C_sick_55
      · refine q_ldc hX w_609 d_C_sick_31 ?_
        exact q_iretW hX h hT d_C_sick_33
    · refine q_ldc hX w_383 d_C_sick_18 ?_
      exact q_iretW hX h hT d_C_sick_20
set_option maxHeartbeats 4000000 in
theorem c_C_noLine (l : Launch) (G : qG) (hA : qAd G) (f : Nat) (σ : qMem) (x1 : Int32) (x2 : Int32) (x3 : Int32) {u : Int32} (h : p_C_noLine f σ x1 x2 x3 = some u) : qCt l y_C_noLine prog_1_method_47_code 4 (some .boolean) 3 G qKS qRF σ [(.ref 0), (.int x1), (.int x2), (.int x3)] (some (.int u)) qKS qRF σ 0 0 := by
  refine qCt.of (lv := [some (.ref 0), some (.int x1), some (.int x2), some (.int x3)]) (by decide) hA (Nat.le_of_ble_eq_true rfl) rfl ?_
  intro X hl _ _ _ hX hT
  subst hl
  unfold p_C_noLine at h
  refine q_aload_n hX d_C_noLine_0 rfl ?_
  refine q_getR hX fl_C_19 kc_0 (rfl : qRF 0 1 = some 13) d_C_noLine_1 ?_
  refine q_iload_n hX d_C_noLine_4 rfl ?_
  obtain ⟨u1, hc2, h⟩ := qbind h
  refine q_cVr hX (c_Promises_has X.l G hX.ad f _ _ hc2) cw_C_171 rfl kc_13 rfl (Nat.le_of_ble_eq_true rfl) rfl (Nat.le_of_ble_eq_true rfl) d_C_noLine_5 ?_
  refine q_if_eq hX d_C_noLine_8 rfl h (fun _ h => ?_) (fun _ h => ?_)
  · refine q_iconst hX d_C_noLine_27 ic_1 ?_
    refine q_goto hX d_C_noLine_28 rfl ?_
    exact q_zretR hX zn_1 h hT d_C_noLine_32
  · refine q_iload_n hX d_C_noLine_11 rfl ?_
    obtain ⟨u3, hc4, h⟩ := qbind h
    refine q_cSr hX (c_C_noDay X.l G hX.ad f _ _ hc4) cw_C_178 rfl (Nat.le_of_ble_eq_true rfl) rfl (Nat.le_of_ble_eq_true rfl) d_C_noLine_12 ?_
    refine q_if_ne hX d_C_noLine_15 rfl h (fun _ h => ?_) (fun _ h => ?_)
    · refine q_iconst hX d_C_noLine_27 ic_1 ?_
      refine q_goto hX d_C_noLine_28 rfl ?_
      exact q_zretR hX zn_1 h hT d_C_noLine_32
    · refine q_iload_n hX d_C_noLine_18 rfl ?_
      refine q_iconst hX d_C_noLine_19 ic_0 ?_
      refine q_iconst hX d_C_noLine_20 ic_4 ?_
      obtain ⟨u5, hc6, h⟩ := qbind h
      refine q_cSr hX (c_C_outside X.l G hX.ad f _ _ _ _ hc6) cw_C_122 rfl (Nat.le_of_ble_eq_true rfl) rfl (Nat.le_of_ble_eq_true rfl) d_C_noLine_21 ?_
      refine q_if_eq hX d_C_noLine_24 rfl h (fun _ h => ?_) (fun _ h => ?_)
      · refine q_iconst hX d_C_noLine_31 ic_0 ?_
        exact q_zretR hX zn_0 h hT d_C_noLine_32
      · refine q_iconst hX d_C_noLine_27 ic_1 ?_
        refine q_goto hX d_C_noLine_28 rfl ?_
        exact q_zretR hX zn_1 h hT d_C_noLine_32
set_option maxHeartbeats 4000000 in
theorem c_Lines_full (l : Launch) (G : qG) (hA : qAd G) (f : Nat) (σ : qMem) {u : Int32} (h : p_Lines_full f σ  = some u) : qCt l y_Lines_full prog_8_method_3_code 1 (some .boolean) 1 G qKS qRF σ [(.ref 42)] (some (.int u)) qKS qRF σ 0 0 := by
  refine qCt.of (lv := [some (.ref 42)]) (by decide) hA (Nat.le_of_ble_eq_true rfl) rfl ?_
  intro X hl _ _ _ hX hT
  subst hl
  unfold p_Lines_full at h
  refine q_aload_n hX d_Lines_full_0 rfl ?_
  refine q_getI hX fl_Lines_28 kc_42 d_Lines_full_1 ?_
  refine q_bipush hX d_Lines_full_4 bp_60 ?_
  refine q_icmp_lt hX d_Lines_full_6 rfl h (fun _ h => ?_) (fun _ h => ?_)
  · refine q_iconst hX d_Lines_full_13 ic_0 ?_
    exact q_zretR hX zn_0 h hT d_Lines_full_14
  · refine q_iconst hX d_Lines_full_9 ic_1 ?_
    refine q_goto hX d_Lines_full_10 rfl ?_
    exact q_zretR hX zn_1 h hT d_Lines_full_14
set_option maxHeartbeats 4000000 in
theorem c_Lines_isBehind (l : Launch) (G : qG) (hA : qAd G) (f : Nat) (σ : qMem) (x1 : Int32) (x2 : Int32) (x3 : Int32) {u : Int32} (h : p_Lines_isBehind f σ x1 x2 x3 = some u) : qCt l y_Lines_isBehind prog_8_method_6_code 4 (some .boolean) 1 G qKS qRF σ [(.ref 42), (.int x1), (.int x2), (.int x3)] (some (.int u)) qKS qRF σ 0 0 := by
  refine qCt.of (lv := [some (.ref 42), some (.int x1), some (.int x2), some (.int x3)]) (by decide) hA (Nat.le_of_ble_eq_true rfl) rfl ?_
  intro X hl _ _ _ hX hT
  subst hl
  unfold p_Lines_isBehind at h
  refine q_aload_n hX d_Lines_isBehind_0 rfl ?_
  refine q_getR hX fl_Lines_15 kc_42 (rfl : qRF 42 5 = some 44) d_Lines_isBehind_1 ?_
  refine q_iload_n hX d_Lines_isBehind_4 rfl ?_
  refine q_iald hX kc_44 d_Lines_isBehind_5 h (fun hi1 h => ?_)
  refine q_iload_n hX d_Lines_isBehind_6 rfl ?_
  refine q_icmp_gt hX d_Lines_isBehind_7 rfl h (fun _ h => ?_) (fun _ h => ?_)
  · refine q_iconst hX d_Lines_isBehind_30 ic_1 ?_
    refine q_goto hX d_Lines_isBehind_31 rfl ?_
    exact q_zretR hX zn_1 h hT d_Lines_isBehind_35
  · refine q_aload_n hX d_Lines_isBehind_10 rfl ?_
    refine q_getR hX fl_Lines_15 kc_42 (rfl : qRF 42 5 = some 44) d_Lines_isBehind_11 ?_
    refine q_iload_n hX d_Lines_isBehind_14 rfl ?_
    refine q_iald hX kc_44 d_Lines_isBehind_15 h (fun hi2 h => ?_)
    refine q_iload_n hX d_Lines_isBehind_16 rfl ?_
    refine q_icmp_ne hX d_Lines_isBehind_17 rfl h (fun _ h => ?_) (fun _ h => ?_)
    · refine q_iconst hX d_Lines_isBehind_34 ic_0 ?_
      exact q_zretR hX zn_0 h hT d_Lines_isBehind_35
    · refine q_aload_n hX d_Lines_isBehind_20 rfl ?_
      refine q_getR hX fl_Lines_18 kc_42 (rfl : qRF 42 6 = some 45) d_Lines_isBehind_21 ?_
      refine q_iload_n hX d_Lines_isBehind_24 rfl ?_
      refine q_iald hX kc_45 d_Lines_isBehind_25 h (fun hi3 h => ?_)
      refine q_iload_n hX d_Lines_isBehind_26 rfl ?_
      refine q_icmp_le hX d_Lines_isBehind_27 rfl h (fun _ h => ?_) (fun _ h => ?_)
      · refine q_iconst hX d_Lines_isBehind_34 ic_0 ?_
        exact q_zretR hX zn_0 h hT d_Lines_isBehind_35
      · refine q_iconst hX d_Lines_isBehind_30 ic_1 ?_
        refine q_goto hX d_Lines_isBehind_31 rfl ?_
        exact q_zretR hX zn_1 h hT d_Lines_isBehind_35
set_option maxHeartbeats 4000000 in
theorem t_Lines_add_b79 {G : qG} {X : qX} (hX : qOk G X "ChantryRolls$Lines" prog_8_method_5_code 6 (some .int) 2) {u : Int32 × qMem} {f : Nat} {σ : qMem} {x4 : Int32} {x5 : Int32} (hT : qTg G X 0 0 qKS qRF u.2 (some (.int u.1))) (h : p_Lines_add_b79 f    σ x4 x5 = some u) : qV G X 0 0 qKS qRF σ 79 [some (.ref 42), none, none, none, some (.int x4), some (.int x5)] [] := by
  unfold p_Lines_add_b79 at h
  refine q_aload_n hX d_Lines_add_79 rfl ?_
  refine q_getR hX fl_Lines_25 kc_42 (rfl : qRF 42 8 = some 47) d_Lines_add_80 ?_
  refine q_iload hX d_Lines_add_83 rfl ?_
  refine q_iload hX d_Lines_add_85 rfl ?_
  refine q_iast hX kc_47 qKS_len d_Lines_add_87 h (fun hi1 h => ?_)
  refine q_aload_n hX d_Lines_add_88 rfl ?_
  refine q_dup hX rfl d_Lines_add_89 ?_
  refine q_getI hX fl_Lines_28 kc_42 d_Lines_add_90 ?_
  refine q_iconst hX d_Lines_add_93 ic_1 ?_
  refine q_iadd hX d_Lines_add_94 ?_
  refine q_putI hX fl_Lines_28 kc_42 rfl qKS_len d_Lines_add_95 ?_
  refine q_iload hX d_Lines_add_98 rfl ?_
  exact q_iretW hX h hT d_Lines_add_100
set_option maxHeartbeats 4000000 in
theorem t_Lines_add_lb34 {G : qG} {X : qX} (hX : qOk G X "ChantryRolls$Lines" prog_8_method_5_code 6 (some .int) 2) {u : Int32 × qMem} {f : Nat} {x2 : Int32} {x3 : Int32} {x4 : Int32} (hT : qTg G X 0 0 qKS qRF u.2 (some (.int u.1))) {k34 : qMem → Int32 → Option (Int32 × qMem)} (hk34 : ∀ (σ : qMem) (x5 : Int32), k34 σ x5 = some u → qV G X 0 0 qKS qRF σ 34 [some (.ref 42), none, some (.int x2), some (.int x3), some (.int x4), some (.int x5)] []) {σ : qMem} {x5 : Int32} (h : p_Lines_add_l34 f  x2 x3 x4  k34 σ x5 = some u) : qV G X 0 0 qKS qRF σ 34 [some (.ref 42), none, some (.int x2), some (.int x3), some (.int x4), some (.int x5)] [] := by
  unfold p_Lines_add_l34 at h
  refine q_iload hX d_Lines_add_34 rfl ?_
  refine q_if_le hX d_Lines_add_36 rfl h (fun _ h => ?_) (fun _ h => ?_)
  · exact q_mask [true, false, false, false, true, true] rfl (t_Lines_add_b79 hX hT h)
  · refine q_aload_n hX d_Lines_add_39 rfl ?_
    refine q_aload_n hX d_Lines_add_40 rfl ?_
    refine q_getR hX fl_Lines_25 kc_42 (rfl : qRF 42 8 = some 47) d_Lines_add_41 ?_
    refine q_iload hX d_Lines_add_44 rfl ?_
    refine q_iconst hX d_Lines_add_46 ic_1 ?_
    refine q_isub hX d_Lines_add_47 ?_
    refine q_iald hX kc_47 d_Lines_add_48 h (fun hi2 h => ?_)
    refine q_iload_n hX d_Lines_add_49 rfl ?_
    refine q_iload_n hX d_Lines_add_50 rfl ?_
    obtain ⟨u3, hc4, h⟩ := qbind h
    refine q_cVr hX (c_Lines_isBehind X.l G hX.ad f _ _ _ _ hc4) cw_Lines_47 rfl kc_42 rfl (Nat.le_of_ble_eq_true rfl) rfl (Nat.le_of_ble_eq_true rfl) d_Lines_add_51 ?_
    refine q_if_eq hX d_Lines_add_54 rfl h (fun _ h => ?_) (fun _ h => ?_)
    · exact q_mask [true, false, false, false, true, true] rfl (t_Lines_add_b79 hX hT h)
    · refine q_aload_n hX d_Lines_add_57 rfl ?_
      refine q_getR hX fl_Lines_25 kc_42 (rfl : qRF 42 8 = some 47) d_Lines_add_58 ?_
      refine q_iload hX d_Lines_add_61 rfl ?_
      refine q_aload_n hX d_Lines_add_63 rfl ?_
      refine q_getR hX fl_Lines_25 kc_42 (rfl : qRF 42 8 = some 47) d_Lines_add_64 ?_
      refine q_iload hX d_Lines_add_67 rfl ?_
      refine q_iconst hX d_Lines_add_69 ic_1 ?_
      refine q_isub hX d_Lines_add_70 ?_
      refine q_iald hX kc_47 d_Lines_add_71 h (fun hi5 h => ?_)
      refine q_iast hX kc_47 qKS_len d_Lines_add_72 h (fun hi6 h => ?_)
      refine q_iinc hX d_Lines_add_73 rfl (ii_m1 _) (by decide) rfl rfl ?_
      refine q_goto hX d_Lines_add_76 rfl ?_
      exact q_mask [true, false, true, true, true, true] rfl (hk34 _ _ h)
theorem t_Lines_add_l34 {G : qG} {X : qX} (hX : qOk G X "ChantryRolls$Lines" prog_8_method_5_code 6 (some .int) 2) {u : Int32 × qMem} {f : Nat} {x2 : Int32} {x3 : Int32} {x4 : Int32} (hT : qTg G X 0 0 qKS qRF u.2 (some (.int u.1))) : ∀ (n : Nat) (σ : qMem) (x5 : Int32), qfix2 (p_Lines_add_l34 f  x2 x3 x4 ) n σ x5 = some u → qV G X 0 0 qKS qRF σ 34 [some (.ref 42), none, some (.int x2), some (.int x3), some (.int x4), some (.int x5)] [] :=
  qfix2_ind (fun k hk _ _ h => t_Lines_add_lb34 hX   hT  hk h)
set_option maxHeartbeats 4000000 in
theorem c_Lines_add (l : Launch) (G : qG) (hA : qAd G) (f : Nat) (σ : qMem) (x1 : Int32) (x2 : Int32) (x3 : Int32) {u : Int32 × qMem} (h : p_Lines_add f σ x1 x2 x3 = some u) : qCt l y_Lines_add prog_8_method_5_code 6 (some .int) 2 G qKS qRF σ [(.ref 42), (.int x1), (.int x2), (.int x3)] (some (.int u.1)) qKS qRF u.2 0 0 := by
  refine qCt.of (lv := [some (.ref 42), some (.int x1), some (.int x2), some (.int x3), none, none]) (by decide) hA (Nat.le_of_ble_eq_true rfl) rfl ?_
  intro X hl _ _ _ hX hT
  subst hl
  unfold p_Lines_add at h
  refine q_aload_n hX d_Lines_add_0 rfl ?_
  refine q_getI hX fl_Lines_28 kc_42 d_Lines_add_1 ?_
  refine q_istore hX d_Lines_add_4 (by decide) rfl rfl ?_
  refine q_aload_n hX d_Lines_add_6 rfl ?_
  refine q_getR hX fl_Lines_11 kc_42 (rfl : qRF 42 4 = some 43) d_Lines_add_7 ?_
  refine q_iload hX d_Lines_add_10 rfl ?_
  refine q_iload_n hX d_Lines_add_12 rfl ?_
  refine q_iast hX kc_43 qKS_len d_Lines_add_13 h (fun hi7 h => ?_)
  refine q_aload_n hX d_Lines_add_14 rfl ?_
  refine q_getR hX fl_Lines_15 kc_42 (rfl : qRF 42 5 = some 44) d_Lines_add_15 ?_
  refine q_iload hX d_Lines_add_18 rfl ?_
  refine q_iload_n hX d_Lines_add_20 rfl ?_
  refine q_iast hX kc_44 qKS_len d_Lines_add_21 h (fun hi8 h => ?_)
  refine q_aload_n hX d_Lines_add_22 rfl ?_
  refine q_getR hX fl_Lines_18 kc_42 (rfl : qRF 42 6 = some 45) d_Lines_add_23 ?_
  refine q_iload hX d_Lines_add_26 rfl ?_
  refine q_iload_n hX d_Lines_add_28 rfl ?_
  refine q_iast hX kc_45 qKS_len d_Lines_add_29 h (fun hi9 h => ?_)
  refine q_iload hX d_Lines_add_30 rfl ?_
  refine q_istore hX d_Lines_add_32 (by decide) rfl rfl ?_
  exact q_mask [true, false, true, true, true, true] rfl (t_Lines_add_l34 hX hT f _ _ h)
set_option maxHeartbeats 4000000 in
theorem c_C_say (l : Launch) (G : qG) (hA : qAd G) (f : Nat) (σ : qMem) (x1 : Int32) (x2 : Int32) (x3 : Int32) {u : Int32 × qMem} (h : p_C_say f σ x1 x2 x3 = some u) : qCt l y_C_say prog_1_method_14_code 5 (some .int) 7 G qKS qRF σ [(.ref 0), (.int x1), (.int x2), (.int x3)] (some (.int u.1)) qKS qRF u.2 0 0 := by
  refine qCt.of (lv := [some (.ref 0), some (.int x1), some (.int x2), some (.int x3), none]) (by decide) hA (Nat.le_of_ble_eq_true rfl) rfl ?_
  intro X hl _ _ _ hX hT
  subst hl
  unfold p_C_say at h
  refine q_aload_n hX d_C_say_0 rfl ?_
  refine q_iload_n hX d_C_say_1 rfl ?_
  refine q_iload_n hX d_C_say_2 rfl ?_
  refine q_iload_n hX d_C_say_3 rfl ?_
  obtain ⟨u1, hc2, h⟩ := qbind h
  refine q_cVr hX (c_C_noLine X.l G hX.ad f _ _ _ _ hc2) cw_C_208 rfl kc_0 rfl (Nat.le_of_ble_eq_true rfl) rfl (Nat.le_of_ble_eq_true rfl) d_C_say_4 ?_
  refine q_if_eq hX d_C_say_7 rfl h (fun _ h => ?_) (fun _ h => ?_)
  · refine q_aload_n hX d_C_say_13 rfl ?_
    refine q_getR hX fl_C_62 kc_0 (rfl : qRF 0 7 = some 42) d_C_say_14 ?_
    obtain ⟨u3, hc4, h⟩ := qbind h
    refine q_cVr hX (c_Lines_full X.l G hX.ad f _  hc4) cw_C_211 rfl kc_42 rfl (Nat.le_of_ble_eq_true rfl) rfl (Nat.le_of_ble_eq_true rfl) d_C_say_17 ?_
    refine q_if_eq hX d_C_say_20 rfl h (fun _ h => ?_) (fun _ h => ?_)
    · refine q_aload_n hX d_C_say_26 rfl ?_
      refine q_getR hX fl_C_62 kc_0 (rfl : qRF 0 7 = some 42) d_C_say_27 ?_
      refine q_iload_n hX d_C_say_30 rfl ?_
      refine q_iload_n hX d_C_say_31 rfl ?_
      refine q_iload_n hX d_C_say_32 rfl ?_
      obtain ⟨u5, hc6, h⟩ := qbind h
      refine q_cVr hX (c_Lines_add X.l G hX.ad f _ _ _ _ hc6) cw_C_212 rfl kc_42 rfl (Nat.le_of_ble_eq_true rfl) rfl (Nat.le_of_ble_eq_true rfl) d_C_say_33 ?_
      refine q_istore hX d_C_say_36 (by decide) rfl rfl ?_
      refine q_aload_n hX d_C_say_38 rfl ?_
      refine q_getR hX fl_C_62 kc_0 (rfl : qRF 0 7 = some 42) d_C_say_39 ?_
      obtain ⟨u7, hc8, h⟩ := qbind h
      refine q_cVv hX (c_Lines_judge X.l G hX.ad f _  hc8) cw_C_199 rfl kc_42 rfl (Nat.le_of_ble_eq_true rfl) rfl (Nat.le_of_ble_eq_true rfl) d_C_say_42 ?_
      refine q_iload hX d_C_say_45 rfl ?_
      exact q_iretW hX h hT d_C_say_47
    · refine q_ldc hX w_609 d_C_say_23 ?_
      exact q_iretW hX h hT d_C_say_25
  · refine q_ldc hX w_383 d_C_say_10 ?_
    exact q_iretW hX h hT d_C_say_12
set_option maxHeartbeats 4000000 in
theorem c_Sheets_item (l : Launch) (G : qG) (hA : qAd G) (f : Nat) (σ : qMem) (x1 : Int32) (x2 : Int32) {u : Int32} (h : p_Sheets_item f σ x1 x2 = some u) : qCt l y_Sheets_item prog_11_method_7_code 3 (some .int) 1 G qKS qRF σ [(.ref 1), (.int x1), (.int x2)] (some (.int u)) qKS qRF σ 0 0 := by
  refine qCt.of (lv := [some (.ref 1), some (.int x1), some (.int x2)]) (by decide) hA (Nat.le_of_ble_eq_true rfl) rfl ?_
  intro X hl _ _ _ hX hT
  subst hl
  unfold p_Sheets_item at h
  refine q_aload_n hX d_Sheets_item_0 rfl ?_
  refine q_getR hX fl_Sheets_18 kc_1 (rfl : qRF 1 2 = some 4) d_Sheets_item_1 ?_
  refine q_iload_n hX d_Sheets_item_4 rfl ?_
  refine q_aald hX kc_4 d_Sheets_item_5 h (fun _ => rfl) (fun hi1 h => ?_)
  refine q_iload_n hX d_Sheets_item_6 rfl ?_
  refine q_iald hX (kr_4 hi1) d_Sheets_item_7 h (fun hi2 h => ?_)
  exact q_iretR hX h hT d_Sheets_item_8
set_option maxHeartbeats 4000000 in
theorem t_C_lines_lb64 {G : qG} {X : qX} (hX : qOk G X "ChantryRolls" prog_1_method_15_code 9 (some .int) 7) {u : Int32 × qMem} {f : Nat} {x1 : Int32} {x2 : Int32} {x3 : Int32} (hT : qTg G X 0 0 qKS qRF u.2 (some (.int u.1))) {k64 : qMem → Int32 → Int32 → Option (Int32 × qMem)} (hk64 : ∀ (σ : qMem) (x4 : Int32) (x5 : Int32), k64 σ x4 x5 = some u → qV G X 0 0 qKS qRF σ 64 [some (.ref 0), some (.int x1), some (.int x2), some (.int x3), some (.int x4), some (.int x5), none, none, none] []) {σ : qMem} {x4 : Int32} {x5 : Int32} (h : p_C_lines_l64 f  x1 x2 x3  k64 σ x4 x5 = some u) : qV G X 0 0 qKS qRF σ 64 [some (.ref 0), some (.int x1), some (.int x2), some (.int x3), some (.int x4), some (.int x5), none, none, none] [] := by
  unfold p_C_lines_l64 at h
  refine q_iload hX d_C_lines_64 rfl ?_
  refine q_iload_n hX d_C_lines_66 rfl ?_
  refine q_iconst hX d_C_lines_67 ic_3 ?_
  refine q_iload_n hX d_C_lines_68 rfl ?_
  refine q_imul hX d_C_lines_69 ?_
  refine q_iadd hX d_C_lines_70 ?_
  refine q_icmp_ge hX d_C_lines_71 rfl h (fun _ h => ?_) (fun _ h => ?_)
  · refine q_aload_n hX d_C_lines_160 rfl ?_
    refine q_getR hX fl_C_62 kc_0 (rfl : qRF 0 7 = some 42) d_C_lines_161 ?_
    obtain ⟨u1, hc2, h⟩ := qbind h
    refine q_cVv hX (c_Lines_judge X.l G hX.ad f _  hc2) cw_C_199 rfl kc_42 rfl (Nat.le_of_ble_eq_true rfl) rfl (Nat.le_of_ble_eq_true rfl) d_C_lines_164 ?_
    refine q_aload_n hX d_C_lines_167 rfl ?_
    refine q_iload hX d_C_lines_168 rfl ?_
    obtain ⟨u3, hc4, h⟩ := qbind h
    refine q_cVr hX (c_C_foundNothing X.l G hX.ad f _ _ hc4) cw_C_135 rfl kc_0 rfl (Nat.le_of_ble_eq_true rfl) rfl (Nat.le_of_ble_eq_true rfl) d_C_lines_170 ?_
    exact q_iretW hX h hT d_C_lines_173
  · refine q_aload_n hX d_C_lines_74 rfl ?_
    refine q_getR hX fl_C_10 kc_0 (rfl : qRF 0 0 = some 1) d_C_lines_75 ?_
    refine q_iload_n hX d_C_lines_78 rfl ?_
    refine q_iload hX d_C_lines_79 rfl ?_
    obtain ⟨u5, hc6, h⟩ := qbind h
    refine q_cVr hX (c_Sheets_item X.l G hX.ad f _ _ _ hc6) cw_C_213 rfl kc_1 rfl (Nat.le_of_ble_eq_true rfl) rfl (Nat.le_of_ble_eq_true rfl) d_C_lines_81 ?_
    refine q_istore hX d_C_lines_84 (by decide) rfl rfl ?_
    refine q_aload_n hX d_C_lines_86 rfl ?_
    refine q_getR hX fl_C_10 kc_0 (rfl : qRF 0 0 = some 1) d_C_lines_87 ?_
    refine q_iload_n hX d_C_lines_90 rfl ?_
    refine q_iload hX d_C_lines_91 rfl ?_
    refine q_iconst hX d_C_lines_93 ic_1 ?_
    refine q_iadd hX d_C_lines_94 ?_
    obtain ⟨u7, hc8, h⟩ := qbind h
    refine q_cVr hX (c_Sheets_item X.l G hX.ad f _ _ _ hc8) cw_C_213 rfl kc_1 rfl (Nat.le_of_ble_eq_true rfl) rfl (Nat.le_of_ble_eq_true rfl) d_C_lines_95 ?_
    refine q_istore hX d_C_lines_98 (by decide) rfl rfl ?_
    refine q_aload_n hX d_C_lines_100 rfl ?_
    refine q_getR hX fl_C_10 kc_0 (rfl : qRF 0 0 = some 1) d_C_lines_101 ?_
    refine q_iload_n hX d_C_lines_104 rfl ?_
    refine q_iload hX d_C_lines_105 rfl ?_
    refine q_iconst hX d_C_lines_107 ic_2 ?_
    refine q_iadd hX d_C_lines_108 ?_
    obtain ⟨u9, hc10, h⟩ := qbind h
    refine q_cVr hX (c_Sheets_item X.l G hX.ad f _ _ _ hc10) cw_C_213 rfl kc_1 rfl (Nat.le_of_ble_eq_true rfl) rfl (Nat.le_of_ble_eq_true rfl) d_C_lines_109 ?_
    refine q_istore hX d_C_lines_112 (by decide) rfl rfl ?_
    refine q_aload_n hX d_C_lines_114 rfl ?_
    refine q_iload hX d_C_lines_115 rfl ?_
    refine q_iload hX d_C_lines_117 rfl ?_
    refine q_iload hX d_C_lines_119 rfl ?_
    obtain ⟨u11, hc12, h⟩ := qbind h
    refine q_cVr hX (c_C_noLine X.l G hX.ad f _ _ _ _ hc12) cw_C_208 rfl kc_0 rfl (Nat.le_of_ble_eq_true rfl) rfl (Nat.le_of_ble_eq_true rfl) d_C_lines_121 ?_
    refine q_if_ne hX d_C_lines_124 rfl h (fun _ h => ?_) (fun _ h => ?_)
    · refine q_iinc hX d_C_lines_154 rfl (ii_3 _) (by decide) rfl rfl ?_
      refine q_goto hX d_C_lines_157 rfl ?_
      exact q_mask [true, true, true, true, true, true, false, false, false] rfl (hk64 _ _ _ h)
    · refine q_aload_n hX d_C_lines_127 rfl ?_
      refine q_getR hX fl_C_62 kc_0 (rfl : qRF 0 7 = some 42) d_C_lines_128 ?_
      obtain ⟨u13, hc14, h⟩ := qbind h
      refine q_cVr hX (c_Lines_full X.l G hX.ad f _  hc14) cw_C_211 rfl kc_42 rfl (Nat.le_of_ble_eq_true rfl) rfl (Nat.le_of_ble_eq_true rfl) d_C_lines_131 ?_
      refine q_if_ne hX d_C_lines_134 rfl h (fun _ h => ?_) (fun _ h => ?_)
      · refine q_iinc hX d_C_lines_154 rfl (ii_3 _) (by decide) rfl rfl ?_
        refine q_goto hX d_C_lines_157 rfl ?_
        exact q_mask [true, true, true, true, true, true, false, false, false] rfl (hk64 _ _ _ h)
      · refine q_aload_n hX d_C_lines_137 rfl ?_
        refine q_getR hX fl_C_62 kc_0 (rfl : qRF 0 7 = some 42) d_C_lines_138 ?_
        refine q_iload hX d_C_lines_141 rfl ?_
        refine q_iload hX d_C_lines_143 rfl ?_
        refine q_iload hX d_C_lines_145 rfl ?_
        obtain ⟨u15, hc16, h⟩ := qbind h
        refine q_cVr hX (c_Lines_add X.l G hX.ad f _ _ _ _ hc16) cw_C_212 rfl kc_42 rfl (Nat.le_of_ble_eq_true rfl) rfl (Nat.le_of_ble_eq_true rfl) d_C_lines_147 ?_
        refine q_pop hX rfl d_C_lines_150 ?_
        refine q_iinc hX d_C_lines_151 rfl (ii_1 _) (by decide) rfl rfl ?_
        refine q_iinc hX d_C_lines_154 rfl (ii_3 _) (by decide) rfl rfl ?_
        refine q_goto hX d_C_lines_157 rfl ?_
        exact q_mask [true, true, true, true, true, true, false, false, false] rfl (hk64 _ _ _ h)
theorem t_C_lines_l64 {G : qG} {X : qX} (hX : qOk G X "ChantryRolls" prog_1_method_15_code 9 (some .int) 7) {u : Int32 × qMem} {f : Nat} {x1 : Int32} {x2 : Int32} {x3 : Int32} (hT : qTg G X 0 0 qKS qRF u.2 (some (.int u.1))) : ∀ (n : Nat) (σ : qMem) (x4 : Int32) (x5 : Int32), qfix3 (p_C_lines_l64 f  x1 x2 x3 ) n σ x4 x5 = some u → qV G X 0 0 qKS qRF σ 64 [some (.ref 0), some (.int x1), some (.int x2), some (.int x3), some (.int x4), some (.int x5), none, none, none] [] :=
  qfix3_ind (fun k hk _ _ _ h => t_C_lines_lb64 hX   hT  hk h)
set_option maxHeartbeats 4000000 in
theorem c_C_lines (l : Launch) (G : qG) (hA : qAd G) (f : Nat) (σ : qMem) (x1 : Int32) (x2 : Int32) (x3 : Int32) {u : Int32 × qMem} (h : p_C_lines f σ x1 x2 x3 = some u) : qCt l y_C_lines prog_1_method_15_code 9 (some .int) 7 G qKS qRF σ [(.ref 0), (.int x1), (.int x2), (.int x3)] (some (.int u.1)) qKS qRF u.2 0 0 := by
  refine qCt.of (lv := [some (.ref 0), some (.int x1), some (.int x2), some (.int x3), none, none, none, none, none]) (by decide) hA (Nat.le_of_ble_eq_true rfl) rfl ?_
  intro X hl _ _ _ hX hT
  subst hl
  unfold p_C_lines at h
  refine q_iload_n hX d_C_lines_0 rfl ?_
  obtain ⟨u17, hc18, h⟩ := qbind h
  refine q_cSr hX (c_Sheets_noSuch X.l G hX.ad f _ _ hc18) cw_C_118 rfl (Nat.le_of_ble_eq_true rfl) rfl (Nat.le_of_ble_eq_true rfl) d_C_lines_1 ?_
  refine q_if_ne hX d_C_lines_4 rfl h (fun _ h => ?_) (fun _ h => ?_)
  · refine q_ldc hX w_383 d_C_lines_17 ?_
    exact q_iretW hX h hT d_C_lines_19
  · refine q_iload_n hX d_C_lines_7 rfl ?_
    refine q_iconst hX d_C_lines_8 ic_1 ?_
    refine q_bipush hX d_C_lines_9 bp_20 ?_
    obtain ⟨u19, hc20, h⟩ := qbind h
    refine q_cSr hX (c_C_outside X.l G hX.ad f _ _ _ _ hc20) cw_C_122 rfl (Nat.le_of_ble_eq_true rfl) rfl (Nat.le_of_ble_eq_true rfl) d_C_lines_11 ?_
    refine q_if_eq hX d_C_lines_14 rfl h (fun _ h => ?_) (fun _ h => ?_)
    · refine q_aload_n hX d_C_lines_20 rfl ?_
      refine q_getR hX fl_C_10 kc_0 (rfl : qRF 0 0 = some 1) d_C_lines_21 ?_
      refine q_iload_n hX d_C_lines_24 rfl ?_
      obtain ⟨u21, hc22, h⟩ := qbind h
      refine q_cVr hX (c_Sheets_missing X.l G hX.ad f _ _ hc22) cw_C_138 rfl kc_1 rfl (Nat.le_of_ble_eq_true rfl) rfl (Nat.le_of_ble_eq_true rfl) d_C_lines_25 ?_
      refine q_if_eq hX d_C_lines_28 rfl h (fun _ h => ?_) (fun _ h => ?_)
      · refine q_aload_n hX d_C_lines_37 rfl ?_
        refine q_getR hX fl_C_10 kc_0 (rfl : qRF 0 0 = some 1) d_C_lines_38 ?_
        refine q_iload_n hX d_C_lines_41 rfl ?_
        refine q_iload_n hX d_C_lines_42 rfl ?_
        refine q_iconst hX d_C_lines_43 ic_3 ?_
        refine q_iload_n hX d_C_lines_44 rfl ?_
        refine q_imul hX d_C_lines_45 ?_
        obtain ⟨u23, hc24, h⟩ := qbind h
        refine q_cVr hX (c_Sheets_holds X.l G hX.ad f _ _ _ _ hc24) cw_C_141 rfl kc_1 rfl (Nat.le_of_ble_eq_true rfl) rfl (Nat.le_of_ble_eq_true rfl) d_C_lines_46 ?_
        refine q_if_ne hX d_C_lines_49 rfl h (fun _ h => ?_) (fun _ h => ?_)
        · refine q_iconst hX d_C_lines_58 ic_0 ?_
          refine q_istore hX d_C_lines_59 (by decide) rfl rfl ?_
          refine q_iload_n hX d_C_lines_61 rfl ?_
          refine q_istore hX d_C_lines_62 (by decide) rfl rfl ?_
          exact q_mask [true, true, true, true, true, true, false, false, false] rfl (t_C_lines_l64 hX hT f _ _ _ h)
        · refine q_aload_n hX d_C_lines_52 rfl ?_
          refine q_iconst hX d_C_lines_53 ic_2 ?_
          obtain ⟨u25, hc26, h⟩ := qbind h
          refine q_cVr hX (c_C_found X.l G hX.ad f _ _ hc26) cw_C_127 rfl kc_0 rfl (Nat.le_of_ble_eq_true rfl) rfl (Nat.le_of_ble_eq_true rfl) d_C_lines_54 ?_
          exact q_iretW hX h hT d_C_lines_57
      · refine q_aload_n hX d_C_lines_31 rfl ?_
        refine q_iconst hX d_C_lines_32 ic_1 ?_
        obtain ⟨u27, hc28, h⟩ := qbind h
        refine q_cVr hX (c_C_found X.l G hX.ad f _ _ hc28) cw_C_127 rfl kc_0 rfl (Nat.le_of_ble_eq_true rfl) rfl (Nat.le_of_ble_eq_true rfl) d_C_lines_33 ?_
        exact q_iretW hX h hT d_C_lines_36
    · refine q_ldc hX w_383 d_C_lines_17 ?_
      exact q_iretW hX h hT d_C_lines_19
set_option maxHeartbeats 4000000 in
theorem c_Lines_size (l : Launch) (G : qG) (hA : qAd G) (f : Nat) (σ : qMem) {u : Int32} (h : p_Lines_size f σ  = some u) : qCt l y_Lines_size prog_8_method_2_code 1 (some .int) 1 G qKS qRF σ [(.ref 42)] (some (.int u)) qKS qRF σ 0 0 := by
  refine qCt.of (lv := [some (.ref 42)]) (by decide) hA (Nat.le_of_ble_eq_true rfl) rfl ?_
  intro X hl _ _ _ hX hT
  subst hl
  unfold p_Lines_size at h
  refine q_aload_n hX d_Lines_size_0 rfl ?_
  refine q_getI hX fl_Lines_28 kc_42 d_Lines_size_1 ?_
  exact q_iretR hX h hT d_Lines_size_4
set_option maxHeartbeats 4000000 in
theorem c_Lines_isGood (l : Launch) (G : qG) (hA : qAd G) (f : Nat) (σ : qMem) (x1 : Int32) {u : Int32} (h : p_Lines_isGood f σ x1 = some u) : qCt l y_Lines_isGood prog_8_method_4_code 2 (some .boolean) 1 G qKS qRF σ [(.ref 42), (.int x1)] (some (.int u)) qKS qRF σ 0 0 := by
  refine qCt.of (lv := [some (.ref 42), some (.int x1)]) (by decide) hA (Nat.le_of_ble_eq_true rfl) rfl ?_
  intro X hl _ _ _ hX hT
  subst hl
  unfold p_Lines_isGood at h
  refine q_aload_n hX d_Lines_isGood_0 rfl ?_
  refine q_getR hX fl_Lines_21 kc_42 (rfl : qRF 42 7 = some 46) d_Lines_isGood_1 ?_
  refine q_iload_n hX d_Lines_isGood_4 rfl ?_
  refine q_zald hX kc_46 d_Lines_isGood_5 h (fun hi1 h => ?_)
  exact q_zretR hX rfl h hT d_Lines_isGood_6
set_option maxHeartbeats 4000000 in
theorem c_C_good (l : Launch) (G : qG) (hA : qAd G) (f : Nat) (σ : qMem) (x1 : Int32) {u : Int32} (h : p_C_good f σ x1 = some u) : qCt l y_C_good prog_1_method_16_code 2 (some .int) 2 G qKS qRF σ [(.ref 0), (.int x1)] (some (.int u)) qKS qRF σ 0 0 := by
  refine qCt.of (lv := [some (.ref 0), some (.int x1)]) (by decide) hA (Nat.le_of_ble_eq_true rfl) rfl ?_
  intro X hl _ _ _ hX hT
  subst hl
  unfold p_C_good at h
  refine q_iload_n hX d_C_good_0 rfl ?_
  refine q_iconst hX d_C_good_1 ic_0 ?_
  refine q_aload_n hX d_C_good_2 rfl ?_
  refine q_getR hX fl_C_62 kc_0 (rfl : qRF 0 7 = some 42) d_C_good_3 ?_
  obtain ⟨u1, hc2, h⟩ := qbind h
  refine q_cVr hX (c_Lines_size X.l G hX.ad f _  hc2) cw_C_216 rfl kc_42 rfl (Nat.le_of_ble_eq_true rfl) rfl (Nat.le_of_ble_eq_true rfl) d_C_good_6 ?_
  refine q_iconst hX d_C_good_9 ic_1 ?_
  refine q_isub hX d_C_good_10 ?_
  obtain ⟨u3, hc4, h⟩ := qbind h
  refine q_cSr hX (c_C_outside X.l G hX.ad f _ _ _ _ hc4) cw_C_122 rfl (Nat.le_of_ble_eq_true rfl) rfl (Nat.le_of_ble_eq_true rfl) d_C_good_11 ?_
  refine q_if_eq hX d_C_good_14 rfl h (fun _ h => ?_) (fun _ h => ?_)
  · refine q_aload_n hX d_C_good_20 rfl ?_
    refine q_getR hX fl_C_62 kc_0 (rfl : qRF 0 7 = some 42) d_C_good_21 ?_
    refine q_iload_n hX d_C_good_24 rfl ?_
    obtain ⟨u5, hc6, h⟩ := qbind h
    refine q_cVr hX (c_Lines_isGood X.l G hX.ad f _ _ hc6) cw_C_219 rfl kc_42 rfl (Nat.le_of_ble_eq_true rfl) rfl (Nat.le_of_ble_eq_true rfl) d_C_good_25 ?_
    refine q_if_eq hX d_C_good_28 rfl h (fun _ h => ?_) (fun _ h => ?_)
    · refine q_iconst hX d_C_good_35 ic_0 ?_
      exact q_iretR hX h hT d_C_good_36
    · refine q_iconst hX d_C_good_31 ic_1 ?_
      refine q_goto hX d_C_good_32 rfl ?_
      exact q_iretR hX h hT d_C_good_36
  · refine q_ldc hX w_383 d_C_good_17 ?_
    exact q_iretR hX h hT d_C_good_19
set_option maxHeartbeats 4000000 in
theorem t_Joins_holdsFrom_lb2 {G : qG} {X : qX} (hX : qOk G X "ChantryRolls$Joins" prog_7_method_5_code 4 (some .boolean) 2) {u : Int32} {f : Nat} {σ : qMem} {x1 : Int32} {x2 : Int32} (hT : qTg G X 0 0 qKS qRF σ (some (.int u))) {k2 : Int32 → Option (Int32)} (hk2 : ∀ (x3 : Int32), k2 x3 = some u → qV G X 0 0 qKS qRF σ 2 [some (.ref 48), some (.int x1), some (.int x2), some (.int x3)] []) {x3 : Int32} (h : p_Joins_holdsFrom_l2 f  σ x1 x2  k2 x3 = some u) : qV G X 0 0 qKS qRF σ 2 [some (.ref 48), some (.int x1), some (.int x2), some (.int x3)] [] := by
  unfold p_Joins_holdsFrom_l2 at h
  refine q_iload_n hX d_Joins_holdsFrom_2 rfl ?_
  refine q_aload_n hX d_Joins_holdsFrom_3 rfl ?_
  refine q_getI hX fl_Joins_24 kc_48 d_Joins_holdsFrom_4 ?_
  refine q_icmp_ge hX d_Joins_holdsFrom_7 rfl h (fun _ h => ?_) (fun _ h => ?_)
  · refine q_iconst hX d_Joins_holdsFrom_37 ic_0 ?_
    exact q_zretR hX zn_0 h hT d_Joins_holdsFrom_38
  · refine q_aload_n hX d_Joins_holdsFrom_10 rfl ?_
    refine q_iload_n hX d_Joins_holdsFrom_11 rfl ?_
    refine q_iload_n hX d_Joins_holdsFrom_12 rfl ?_
    obtain ⟨u1, hc2, h⟩ := qbind h
    refine q_cVr hX (c_Joins_has X.l G hX.ad f _ _ _ hc2) cw_Joins_28 rfl kc_48 rfl (Nat.le_of_ble_eq_true rfl) rfl (Nat.le_of_ble_eq_true rfl) d_Joins_holdsFrom_13 ?_
    refine q_if_eq hX d_Joins_holdsFrom_16 rfl h (fun _ h => ?_) (fun _ h => ?_)
    · refine q_iinc hX d_Joins_holdsFrom_31 rfl (ii_1 _) (by decide) rfl rfl ?_
      refine q_goto hX d_Joins_holdsFrom_34 rfl ?_
      exact q_mask [true, true, true, true] rfl (hk2 _ h)
    · refine q_aload_n hX d_Joins_holdsFrom_19 rfl ?_
      refine q_getR hX fl_Joins_21 kc_48 (rfl : qRF 48 3 = some 52) d_Joins_holdsFrom_20 ?_
      refine q_iload_n hX d_Joins_holdsFrom_23 rfl ?_
      refine q_iald hX kc_52 d_Joins_holdsFrom_24 h (fun hi3 h => ?_)
      refine q_iload_n hX d_Joins_holdsFrom_25 rfl ?_
      refine q_icmp_le hX d_Joins_holdsFrom_26 rfl h (fun _ h => ?_) (fun _ h => ?_)
      · refine q_iinc hX d_Joins_holdsFrom_31 rfl (ii_1 _) (by decide) rfl rfl ?_
        refine q_goto hX d_Joins_holdsFrom_34 rfl ?_
        exact q_mask [true, true, true, true] rfl (hk2 _ h)
      · refine q_iconst hX d_Joins_holdsFrom_29 ic_1 ?_
        exact q_zretR hX zn_1 h hT d_Joins_holdsFrom_30
theorem t_Joins_holdsFrom_l2 {G : qG} {X : qX} (hX : qOk G X "ChantryRolls$Joins" prog_7_method_5_code 4 (some .boolean) 2) {u : Int32} {f : Nat} {σ : qMem} {x1 : Int32} {x2 : Int32} (hT : qTg G X 0 0 qKS qRF σ (some (.int u))) : ∀ (n : Nat) (x3 : Int32), qfix1 (p_Joins_holdsFrom_l2 f  σ x1 x2 ) n x3 = some u → qV G X 0 0 qKS qRF σ 2 [some (.ref 48), some (.int x1), some (.int x2), some (.int x3)] [] :=
  qfix1_ind (fun k hk _ h => t_Joins_holdsFrom_lb2 hX   hT  hk h)
set_option maxHeartbeats 4000000 in
theorem c_Joins_holdsFrom (l : Launch) (G : qG) (hA : qAd G) (f : Nat) (σ : qMem) (x1 : Int32) (x2 : Int32) {u : Int32} (h : p_Joins_holdsFrom f σ x1 x2 = some u) : qCt l y_Joins_holdsFrom prog_7_method_5_code 4 (some .boolean) 2 G qKS qRF σ [(.ref 48), (.int x1), (.int x2)] (some (.int u)) qKS qRF σ 0 0 := by
  refine qCt.of (lv := [some (.ref 48), some (.int x1), some (.int x2), none]) (by decide) hA (Nat.le_of_ble_eq_true rfl) rfl ?_
  intro X hl _ _ _ hX hT
  subst hl
  unfold p_Joins_holdsFrom at h
  refine q_iconst hX d_Joins_holdsFrom_0 ic_0 ?_
  refine q_istore_n hX d_Joins_holdsFrom_1 (by decide) rfl rfl ?_
  exact q_mask [true, true, true, true] rfl (t_Joins_holdsFrom_l2 hX hT f _ h)
set_option maxHeartbeats 4000000 in
theorem c_Joins_full (l : Launch) (G : qG) (hA : qAd G) (f : Nat) (σ : qMem) {u : Int32} (h : p_Joins_full f σ  = some u) : qCt l y_Joins_full prog_7_method_2_code 1 (some .boolean) 1 G qKS qRF σ [(.ref 48)] (some (.int u)) qKS qRF σ 0 0 := by
  refine qCt.of (lv := [some (.ref 48)]) (by decide) hA (Nat.le_of_ble_eq_true rfl) rfl ?_
  intro X hl _ _ _ hX hT
  subst hl
  unfold p_Joins_full at h
  refine q_aload_n hX d_Joins_full_0 rfl ?_
  refine q_getI hX fl_Joins_24 kc_48 d_Joins_full_1 ?_
  refine q_bipush hX d_Joins_full_4 bp_10 ?_
  refine q_icmp_lt hX d_Joins_full_6 rfl h (fun _ h => ?_) (fun _ h => ?_)
  · refine q_iconst hX d_Joins_full_13 ic_0 ?_
    exact q_zretR hX zn_0 h hT d_Joins_full_14
  · refine q_iconst hX d_Joins_full_9 ic_1 ?_
    refine q_goto hX d_Joins_full_10 rfl ?_
    exact q_zretR hX zn_1 h hT d_Joins_full_14
set_option maxHeartbeats 4000000 in
theorem c_Joins_add (l : Launch) (G : qG) (hA : qAd G) (f : Nat) (σ : qMem) (x1 : Int32) (x2 : Int32) (x3 : Int32) {u : qMem} (h : p_Joins_add f σ x1 x2 x3 = some u) : qCt l y_Joins_add prog_7_method_3_code 4 none 1 G qKS qRF σ [(.ref 48), (.int x1), (.int x2), (.int x3)] none qKS qRF u 0 0 := by
  refine qCt.of (lv := [some (.ref 48), some (.int x1), some (.int x2), some (.int x3)]) (by decide) hA (Nat.le_of_ble_eq_true rfl) rfl ?_
  intro X hl _ _ _ hX hT
  subst hl
  unfold p_Joins_add at h
  refine q_aload_n hX d_Joins_add_0 rfl ?_
  refine q_getR hX fl_Joins_11 kc_48 (rfl : qRF 48 0 = some 49) d_Joins_add_1 ?_
  refine q_aload_n hX d_Joins_add_4 rfl ?_
  refine q_getI hX fl_Joins_24 kc_48 d_Joins_add_5 ?_
  refine q_iload_n hX d_Joins_add_8 rfl ?_
  refine q_iast hX kc_49 qKS_len d_Joins_add_9 h (fun hi1 h => ?_)
  refine q_aload_n hX d_Joins_add_10 rfl ?_
  refine q_getR hX fl_Joins_15 kc_48 (rfl : qRF 48 1 = some 50) d_Joins_add_11 ?_
  refine q_aload_n hX d_Joins_add_14 rfl ?_
  refine q_getI hX fl_Joins_24 kc_48 d_Joins_add_15 ?_
  refine q_iload_n hX d_Joins_add_18 rfl ?_
  refine q_iast hX kc_50 qKS_len d_Joins_add_19 h (fun hi2 h => ?_)
  refine q_aload_n hX d_Joins_add_20 rfl ?_
  refine q_getR hX fl_Joins_18 kc_48 (rfl : qRF 48 2 = some 51) d_Joins_add_21 ?_
  refine q_aload_n hX d_Joins_add_24 rfl ?_
  refine q_getI hX fl_Joins_24 kc_48 d_Joins_add_25 ?_
  refine q_iload_n hX d_Joins_add_28 rfl ?_
  refine q_iast hX kc_51 qKS_len d_Joins_add_29 h (fun hi3 h => ?_)
  refine q_aload_n hX d_Joins_add_30 rfl ?_
  refine q_getR hX fl_Joins_21 kc_48 (rfl : qRF 48 3 = some 52) d_Joins_add_31 ?_
  refine q_aload_n hX d_Joins_add_34 rfl ?_
  refine q_getI hX fl_Joins_24 kc_48 d_Joins_add_35 ?_
  refine q_sipush hX d_Joins_add_38 sp_10000 ?_
  refine q_iast hX kc_52 qKS_len d_Joins_add_41 h (fun hi4 h => ?_)
  refine q_aload_n hX d_Joins_add_42 rfl ?_
  refine q_dup hX rfl d_Joins_add_43 ?_
  refine q_getI hX fl_Joins_24 kc_48 d_Joins_add_44 ?_
  refine q_iconst hX d_Joins_add_47 ic_1 ?_
  refine q_iadd hX d_Joins_add_48 ?_
  refine q_putI hX fl_Joins_24 kc_48 rfl qKS_len d_Joins_add_49 ?_
  exact q_vretW hX h hT d_Joins_add_52
