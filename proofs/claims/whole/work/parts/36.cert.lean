set_option maxHeartbeats 4000000 in
theorem c_M_isYear (l : Launch) (G : qG) (hA : qAd G) (f : Nat) (σ : qMem) (x0 : Int32) {u : Int32} (h : p_M_isYear f σ x0 = some u) : qCt l y_M_isYear prog_14_method_50_code 1 (some .boolean) 2 G qKS qRF σ [(.int x0)] (some (.int u)) qKS qRF σ 0 0 := by
  refine qCt.of (lv := [some (.int x0)]) (by decide) hA (Nat.le_of_ble_eq_true rfl) rfl ?_
  intro X hl _ _ _ hX hT
  subst hl
  unfold p_M_isYear at h
  refine q_iload_n hX d_M_isYear_0 rfl ?_
  refine q_i2l hX d_M_isYear_1 ?_
  refine q_lconst hX d_M_isYear_2 lc_0 ?_
  refine q_ldc2 hX w_1519 d_M_isYear_3 ?_
  obtain ⟨u1, hc2, h⟩ := qbind h
  refine q_cSr hX (c_M_in X.l G hX.ad f _ _ _ _ hc2) cw_M_147 rfl (Nat.le_of_ble_eq_true rfl) rfl (Nat.le_of_ble_eq_true rfl) d_M_isYear_6 ?_
  exact q_zretR hX rfl h hT d_M_isYear_9
set_option maxHeartbeats 4000000 in
theorem c_M_repair (l : Launch) (G : qG) (hA : qAd G) (f : Nat) (σ : qMem) (x1 : Int32) (x2 : Int32) (x3 : Int32) {u : Int32 × qMem} (h : p_M_repair f σ x1 x2 x3 = some u) : qCt l y_M_repair prog_14_method_52_code 4 (some .int) 3 G qKS qRF σ [(.ref 104), (.int x1), (.int x2), (.int x3)] (some (.int u.1)) qKS qRF u.2 0 0 := by
  refine qCt.of (lv := [some (.ref 104), some (.int x1), some (.int x2), some (.int x3)]) (by decide) hA (Nat.le_of_ble_eq_true rfl) rfl ?_
  intro X hl _ _ _ hX hT
  subst hl
  unfold p_M_repair at h
  refine q_aload_n hX d_M_repair_0 rfl ?_
  refine q_iconst hX d_M_repair_1 ic_0 ?_
  refine q_putI hX fl_M_137 kc_104 rfl qKS_len d_M_repair_2 ?_
  refine q_iload_n hX d_M_repair_5 rfl ?_
  obtain ⟨u1, hc2, h⟩ := qbind h
  refine q_cSr hX (c_M_isHouse X.l G hX.ad f _ _ hc2) cw_M_341 rfl (Nat.le_of_ble_eq_true rfl) rfl (Nat.le_of_ble_eq_true rfl) d_M_repair_6 ?_
  refine q_if_eq hX d_M_repair_9 rfl h (fun _ h => ?_) (fun _ h => ?_)
  · refine q_ldc hX w_1298 d_M_repair_31 ?_
    exact q_iretW hX h hT d_M_repair_33
  · refine q_iload_n hX d_M_repair_12 rfl ?_
    obtain ⟨u3, hc4, h⟩ := qbind h
    refine q_cSr hX (c_M_isYear X.l G hX.ad f _ _ hc4) cw_M_348 rfl (Nat.le_of_ble_eq_true rfl) rfl (Nat.le_of_ble_eq_true rfl) d_M_repair_13 ?_
    refine q_if_eq hX d_M_repair_16 rfl h (fun _ h => ?_) (fun _ h => ?_)
    · refine q_ldc hX w_1298 d_M_repair_31 ?_
      exact q_iretW hX h hT d_M_repair_33
    · refine q_iload_n hX d_M_repair_19 rfl ?_
      refine q_i2l hX d_M_repair_20 ?_
      refine q_lconst hX d_M_repair_21 lc_1 ?_
      refine q_ldc2 hX w_1510 d_M_repair_22 ?_
      obtain ⟨u5, hc6, h⟩ := qbind h
      refine q_cSr hX (c_M_in X.l G hX.ad f _ _ _ _ hc6) cw_M_147 rfl (Nat.le_of_ble_eq_true rfl) rfl (Nat.le_of_ble_eq_true rfl) d_M_repair_25 ?_
      refine q_if_ne hX d_M_repair_28 rfl h (fun _ h => ?_) (fun _ h => ?_)
      · refine q_aload_n hX d_M_repair_34 rfl ?_
        refine q_getI hX fl_M_351 kc_104 d_M_repair_35 ?_
        refine q_bipush hX d_M_repair_38 bp_20 ?_
        refine q_icmp_ne hX d_M_repair_40 rfl h (fun _ h => ?_) (fun _ h => ?_)
        · refine q_aload_n hX d_M_repair_46 rfl ?_
          refine q_getR hX fl_M_74 kc_104 (rfl : qRF 104 39 = some 126) d_M_repair_47 ?_
          refine q_aload_n hX d_M_repair_50 rfl ?_
          refine q_getI hX fl_M_351 kc_104 d_M_repair_51 ?_
          refine q_iload_n hX d_M_repair_54 rfl ?_
          refine q_iast hX kc_126 qKS_len d_M_repair_55 h (fun hi7 h => ?_)
          refine q_aload_n hX d_M_repair_56 rfl ?_
          refine q_getR hX fl_M_77 kc_104 (rfl : qRF 104 40 = some 127) d_M_repair_57 ?_
          refine q_aload_n hX d_M_repair_60 rfl ?_
          refine q_getI hX fl_M_351 kc_104 d_M_repair_61 ?_
          refine q_iload_n hX d_M_repair_64 rfl ?_
          refine q_iast hX kc_127 qKS_len d_M_repair_65 h (fun hi8 h => ?_)
          refine q_aload_n hX d_M_repair_66 rfl ?_
          refine q_getR hX fl_M_80 kc_104 (rfl : qRF 104 41 = some 128) d_M_repair_67 ?_
          refine q_aload_n hX d_M_repair_70 rfl ?_
          refine q_getI hX fl_M_351 kc_104 d_M_repair_71 ?_
          refine q_iload_n hX d_M_repair_74 rfl ?_
          refine q_iast hX kc_128 qKS_len d_M_repair_75 h (fun hi9 h => ?_)
          refine q_aload_n hX d_M_repair_76 rfl ?_
          refine q_dup hX rfl d_M_repair_77 ?_
          refine q_getI hX fl_M_351 kc_104 d_M_repair_78 ?_
          refine q_iconst hX d_M_repair_81 ic_1 ?_
          refine q_iadd hX d_M_repair_82 ?_
          refine q_putI hX fl_M_351 kc_104 rfl qKS_len d_M_repair_83 ?_
          refine q_aload_n hX d_M_repair_86 rfl ?_
          refine q_getI hX fl_M_351 kc_104 d_M_repair_87 ?_
          exact q_iretW hX h hT d_M_repair_90
        · refine q_ldc hX w_1321 d_M_repair_43 ?_
          exact q_iretW hX h hT d_M_repair_45
      · refine q_ldc hX w_1298 d_M_repair_31 ?_
        exact q_iretW hX h hT d_M_repair_33
set_option maxHeartbeats 4000000 in
theorem c_M_empty (l : Launch) (G : qG) (hA : qAd G) (f : Nat) (σ : qMem) (x1 : Int32) (x2 : Int32) (x3 : Int32) {u : Int32 × qMem} (h : p_M_empty f σ x1 x2 x3 = some u) : qCt l y_M_empty prog_14_method_53_code 4 (some .int) 3 G qKS qRF σ [(.ref 104), (.int x1), (.int x2), (.int x3)] (some (.int u.1)) qKS qRF u.2 0 0 := by
  refine qCt.of (lv := [some (.ref 104), some (.int x1), some (.int x2), some (.int x3)]) (by decide) hA (Nat.le_of_ble_eq_true rfl) rfl ?_
  intro X hl _ _ _ hX hT
  subst hl
  unfold p_M_empty at h
  refine q_aload_n hX d_M_empty_0 rfl ?_
  refine q_iconst hX d_M_empty_1 ic_0 ?_
  refine q_putI hX fl_M_137 kc_104 rfl qKS_len d_M_empty_2 ?_
  refine q_iload_n hX d_M_empty_5 rfl ?_
  obtain ⟨u1, hc2, h⟩ := qbind h
  refine q_cSr hX (c_M_isHouse X.l G hX.ad f _ _ hc2) cw_M_341 rfl (Nat.le_of_ble_eq_true rfl) rfl (Nat.le_of_ble_eq_true rfl) d_M_empty_6 ?_
  refine q_if_eq hX d_M_empty_9 rfl h (fun _ h => ?_) (fun _ h => ?_)
  · refine q_ldc hX w_1298 d_M_empty_32 ?_
    exact q_iretW hX h hT d_M_empty_34
  · refine q_iload_n hX d_M_empty_12 rfl ?_
    obtain ⟨u3, hc4, h⟩ := qbind h
    refine q_cSr hX (c_M_isDay X.l G hX.ad f _ _ hc4) cw_M_274 rfl (Nat.le_of_ble_eq_true rfl) rfl (Nat.le_of_ble_eq_true rfl) d_M_empty_13 ?_
    refine q_if_eq hX d_M_empty_16 rfl h (fun _ h => ?_) (fun _ h => ?_)
    · refine q_ldc hX w_1298 d_M_empty_32 ?_
      exact q_iretW hX h hT d_M_empty_34
    · refine q_iload_n hX d_M_empty_19 rfl ?_
      refine q_i2l hX d_M_empty_20 ?_
      refine q_iload_n hX d_M_empty_21 rfl ?_
      refine q_i2l hX d_M_empty_22 ?_
      refine q_ldc2 hX w_1406 d_M_empty_23 ?_
      obtain ⟨u5, hc6, h⟩ := qbind h
      refine q_cSr hX (c_M_in X.l G hX.ad f _ _ _ _ hc6) cw_M_147 rfl (Nat.le_of_ble_eq_true rfl) rfl (Nat.le_of_ble_eq_true rfl) d_M_empty_26 ?_
      refine q_if_ne hX d_M_empty_29 rfl h (fun _ h => ?_) (fun _ h => ?_)
      · refine q_aload_n hX d_M_empty_35 rfl ?_
        refine q_getI hX fl_M_354 kc_104 d_M_empty_36 ?_
        refine q_bipush hX d_M_empty_39 bp_20 ?_
        refine q_icmp_ne hX d_M_empty_41 rfl h (fun _ h => ?_) (fun _ h => ?_)
        · refine q_aload_n hX d_M_empty_47 rfl ?_
          refine q_getR hX fl_M_83 kc_104 (rfl : qRF 104 43 = some 129) d_M_empty_48 ?_
          refine q_aload_n hX d_M_empty_51 rfl ?_
          refine q_getI hX fl_M_354 kc_104 d_M_empty_52 ?_
          refine q_iload_n hX d_M_empty_55 rfl ?_
          refine q_iast hX kc_129 qKS_len d_M_empty_56 h (fun hi7 h => ?_)
          refine q_aload_n hX d_M_empty_57 rfl ?_
          refine q_getR hX fl_M_86 kc_104 (rfl : qRF 104 44 = some 130) d_M_empty_58 ?_
          refine q_aload_n hX d_M_empty_61 rfl ?_
          refine q_getI hX fl_M_354 kc_104 d_M_empty_62 ?_
          refine q_iload_n hX d_M_empty_65 rfl ?_
          refine q_iast hX kc_130 qKS_len d_M_empty_66 h (fun hi8 h => ?_)
          refine q_aload_n hX d_M_empty_67 rfl ?_
          refine q_getR hX fl_M_89 kc_104 (rfl : qRF 104 45 = some 131) d_M_empty_68 ?_
          refine q_aload_n hX d_M_empty_71 rfl ?_
          refine q_getI hX fl_M_354 kc_104 d_M_empty_72 ?_
          refine q_iload_n hX d_M_empty_75 rfl ?_
          refine q_iast hX kc_131 qKS_len d_M_empty_76 h (fun hi9 h => ?_)
          refine q_aload_n hX d_M_empty_77 rfl ?_
          refine q_dup hX rfl d_M_empty_78 ?_
          refine q_getI hX fl_M_354 kc_104 d_M_empty_79 ?_
          refine q_iconst hX d_M_empty_82 ic_1 ?_
          refine q_iadd hX d_M_empty_83 ?_
          refine q_putI hX fl_M_354 kc_104 rfl qKS_len d_M_empty_84 ?_
          refine q_aload_n hX d_M_empty_87 rfl ?_
          refine q_getI hX fl_M_354 kc_104 d_M_empty_88 ?_
          exact q_iretW hX h hT d_M_empty_91
        · refine q_ldc hX w_1321 d_M_empty_44 ?_
          exact q_iretW hX h hT d_M_empty_46
      · refine q_ldc hX w_1298 d_M_empty_32 ?_
        exact q_iretW hX h hT d_M_empty_34
set_option maxHeartbeats 4000000 in
theorem t_M_rentOf_lb66 {G : qG} {X : qX} (hX : qOk G X "ChantryRollsModel" prog_14_method_54_code 8 (some .int) 1) {u : Int32} {f : Nat} {k46 : Int32 → Int32 → Option (Int32)} {σ : qMem} {x1 : Int32} {x2 : Int32} {x3 : Int32} {x4 : Int32} {x5 : Int32} (hT : qTg G X 0 0 qKS qRF σ (some (.int u))) {k66 : Int32 → Int32 → Option (Int32)} (hk46 : ∀ (x4 : Int32) (x5 : Int32), k46 x4 x5 = some u → qV G X 0 0 qKS qRF σ 46 [some (.ref 104), some (.int x1), some (.int x2), some (.int x3), some (.int x4), some (.int x5), none, none] []) (hk66 : ∀ (x6 : Int32) (x7 : Int32), k66 x6 x7 = some u → qV G X 0 0 qKS qRF σ 66 [some (.ref 104), some (.int x1), some (.int x2), some (.int x3), some (.int x4), some (.int x5), some (.int x6), some (.int x7)] []) {x6 : Int32} {x7 : Int32} (h : p_M_rentOf_l66 f  σ x1 x2 x3 x4 x5 k46 k66 x6 x7 = some u) : qV G X 0 0 qKS qRF σ 66 [some (.ref 104), some (.int x1), some (.int x2), some (.int x3), some (.int x4), some (.int x5), some (.int x6), some (.int x7)] [] := by
  unfold p_M_rentOf_l66 at h
  refine q_iload hX d_M_rentOf_66 rfl ?_
  refine q_aload_n hX d_M_rentOf_68 rfl ?_
  refine q_getI hX fl_M_354 kc_104 d_M_rentOf_69 ?_
  refine q_icmp_ge hX d_M_rentOf_72 rfl h (fun _ h => ?_) (fun _ h => ?_)
  · refine q_iload hX d_M_rentOf_128 rfl ?_
    refine q_iload hX d_M_rentOf_130 rfl ?_
    refine q_if_eq hX d_M_rentOf_132 rfl h (fun _ h => ?_) (fun _ h => ?_)
    · refine q_iconst hX d_M_rentOf_139 ic_0 ?_
      refine q_iadd hX d_M_rentOf_140 ?_
      refine q_istore hX d_M_rentOf_141 (by decide) rfl rfl ?_
      refine q_iinc hX d_M_rentOf_143 rfl (ii_1 _) (by decide) rfl rfl ?_
      refine q_goto hX d_M_rentOf_146 rfl ?_
      exact q_mask [true, true, true, true, true, true, false, false] rfl (hk46 _ _ h)
    · refine q_iconst hX d_M_rentOf_135 ic_1 ?_
      refine q_goto hX d_M_rentOf_136 rfl ?_
      refine q_iadd hX d_M_rentOf_140 ?_
      refine q_istore hX d_M_rentOf_141 (by decide) rfl rfl ?_
      refine q_iinc hX d_M_rentOf_143 rfl (ii_1 _) (by decide) rfl rfl ?_
      refine q_goto hX d_M_rentOf_146 rfl ?_
      exact q_mask [true, true, true, true, true, true, false, false] rfl (hk46 _ _ h)
  · refine q_iload hX d_M_rentOf_75 rfl ?_
    refine q_if_ne hX d_M_rentOf_77 rfl h (fun _ h => ?_) (fun _ h => ?_)
    · refine q_iconst hX d_M_rentOf_115 ic_1 ?_
      refine q_goto hX d_M_rentOf_116 rfl ?_
      refine q_istore hX d_M_rentOf_120 (by decide) rfl rfl ?_
      refine q_iinc hX d_M_rentOf_122 rfl (ii_1 _) (by decide) rfl rfl ?_
      refine q_goto hX d_M_rentOf_125 rfl ?_
      exact q_mask [true, true, true, true, true, true, true, true] rfl (hk66 _ _ h)
    · refine q_aload_n hX d_M_rentOf_80 rfl ?_
      refine q_getR hX fl_M_83 kc_104 (rfl : qRF 104 43 = some 129) d_M_rentOf_81 ?_
      refine q_iload hX d_M_rentOf_84 rfl ?_
      refine q_iald hX kc_129 d_M_rentOf_86 h (fun hi1 h => ?_)
      refine q_iload_n hX d_M_rentOf_87 rfl ?_
      refine q_icmp_ne hX d_M_rentOf_88 rfl h (fun _ h => ?_) (fun _ h => ?_)
      · refine q_iconst hX d_M_rentOf_119 ic_0 ?_
        refine q_istore hX d_M_rentOf_120 (by decide) rfl rfl ?_
        refine q_iinc hX d_M_rentOf_122 rfl (ii_1 _) (by decide) rfl rfl ?_
        refine q_goto hX d_M_rentOf_125 rfl ?_
        exact q_mask [true, true, true, true, true, true, true, true] rfl (hk66 _ _ h)
      · refine q_iload hX d_M_rentOf_91 rfl ?_
        refine q_aload_n hX d_M_rentOf_93 rfl ?_
        refine q_getR hX fl_M_86 kc_104 (rfl : qRF 104 44 = some 130) d_M_rentOf_94 ?_
        refine q_iload hX d_M_rentOf_97 rfl ?_
        refine q_iald hX kc_130 d_M_rentOf_99 h (fun hi2 h => ?_)
        refine q_icmp_lt hX d_M_rentOf_100 rfl h (fun _ h => ?_) (fun _ h => ?_)
        · refine q_iconst hX d_M_rentOf_119 ic_0 ?_
          refine q_istore hX d_M_rentOf_120 (by decide) rfl rfl ?_
          refine q_iinc hX d_M_rentOf_122 rfl (ii_1 _) (by decide) rfl rfl ?_
          refine q_goto hX d_M_rentOf_125 rfl ?_
          exact q_mask [true, true, true, true, true, true, true, true] rfl (hk66 _ _ h)
        · refine q_iload hX d_M_rentOf_103 rfl ?_
          refine q_aload_n hX d_M_rentOf_105 rfl ?_
          refine q_getR hX fl_M_89 kc_104 (rfl : qRF 104 45 = some 131) d_M_rentOf_106 ?_
          refine q_iload hX d_M_rentOf_109 rfl ?_
          refine q_iald hX kc_131 d_M_rentOf_111 h (fun hi3 h => ?_)
          refine q_icmp_gt hX d_M_rentOf_112 rfl h (fun _ h => ?_) (fun _ h => ?_)
          · refine q_iconst hX d_M_rentOf_119 ic_0 ?_
            refine q_istore hX d_M_rentOf_120 (by decide) rfl rfl ?_
            refine q_iinc hX d_M_rentOf_122 rfl (ii_1 _) (by decide) rfl rfl ?_
            refine q_goto hX d_M_rentOf_125 rfl ?_
            exact q_mask [true, true, true, true, true, true, true, true] rfl (hk66 _ _ h)
          · refine q_iconst hX d_M_rentOf_115 ic_1 ?_
            refine q_goto hX d_M_rentOf_116 rfl ?_
            refine q_istore hX d_M_rentOf_120 (by decide) rfl rfl ?_
            refine q_iinc hX d_M_rentOf_122 rfl (ii_1 _) (by decide) rfl rfl ?_
            refine q_goto hX d_M_rentOf_125 rfl ?_
            exact q_mask [true, true, true, true, true, true, true, true] rfl (hk66 _ _ h)
theorem t_M_rentOf_l66 {G : qG} {X : qX} (hX : qOk G X "ChantryRollsModel" prog_14_method_54_code 8 (some .int) 1) {u : Int32} {f : Nat} {k46 : Int32 → Int32 → Option (Int32)} {σ : qMem} {x1 : Int32} {x2 : Int32} {x3 : Int32} {x4 : Int32} {x5 : Int32} (hT : qTg G X 0 0 qKS qRF σ (some (.int u))) (hk46 : ∀ (x4 : Int32) (x5 : Int32), k46 x4 x5 = some u → qV G X 0 0 qKS qRF σ 46 [some (.ref 104), some (.int x1), some (.int x2), some (.int x3), some (.int x4), some (.int x5), none, none] []) : ∀ (n : Nat) (x6 : Int32) (x7 : Int32), qfix2 (p_M_rentOf_l66 f  σ x1 x2 x3 x4 x5 k46) n x6 x7 = some u → qV G X 0 0 qKS qRF σ 66 [some (.ref 104), some (.int x1), some (.int x2), some (.int x3), some (.int x4), some (.int x5), some (.int x6), some (.int x7)] [] :=
  qfix2_ind (fun k hk _ _ h => t_M_rentOf_lb66 hX   hT hk46 hk h)
set_option maxHeartbeats 4000000 in
theorem t_M_rentOf_lb164 {G : qG} {X : qX} (hX : qOk G X "ChantryRollsModel" prog_14_method_54_code 8 (some .int) 1) {u : Int32} {f : Nat} {σ : qMem} {x1 : Int32} {x2 : Int32} (hT : qTg G X 0 0 qKS qRF σ (some (.int u))) {k164 : Int32 → Int32 → Option (Int32)} (hk164 : ∀ (x5 : Int32) (x6 : Int32), k164 x5 x6 = some u → qV G X 0 0 qKS qRF σ 164 [some (.ref 104), some (.int x1), some (.int x2), none, none, some (.int x5), some (.int x6), none] []) {x5 : Int32} {x6 : Int32} (h : p_M_rentOf_l164 f  σ x1 x2  k164 x5 x6 = some u) : qV G X 0 0 qKS qRF σ 164 [some (.ref 104), some (.int x1), some (.int x2), none, none, some (.int x5), some (.int x6), none] [] := by
  unfold p_M_rentOf_l164 at h
  refine q_iload hX d_M_rentOf_164 rfl ?_
  refine q_aload_n hX d_M_rentOf_166 rfl ?_
  refine q_getI hX fl_M_351 kc_104 d_M_rentOf_167 ?_
  refine q_icmp_ge hX d_M_rentOf_170 rfl h (fun _ h => ?_) (fun _ h => ?_)
  · refine q_iload hX d_M_rentOf_217 rfl ?_
    refine q_if_ge hX d_M_rentOf_219 rfl h (fun _ h => ?_) (fun _ h => ?_)
    · refine q_iload hX d_M_rentOf_226 rfl ?_
      exact q_iretR hX h hT d_M_rentOf_228
    · refine q_iconst hX d_M_rentOf_222 ic_0 ?_
      refine q_goto hX d_M_rentOf_223 rfl ?_
      exact q_iretR hX h hT d_M_rentOf_228
  · refine q_iload hX d_M_rentOf_173 rfl ?_
    refine q_aload_n hX d_M_rentOf_175 rfl ?_
    refine q_getR hX fl_M_74 kc_104 (rfl : qRF 104 39 = some 126) d_M_rentOf_176 ?_
    refine q_iload hX d_M_rentOf_179 rfl ?_
    refine q_iald hX kc_126 d_M_rentOf_181 h (fun hi4 h => ?_)
    refine q_iload_n hX d_M_rentOf_182 rfl ?_
    refine q_icmp_ne hX d_M_rentOf_183 rfl h (fun _ h => ?_) (fun _ h => ?_)
    · refine q_iconst hX d_M_rentOf_207 ic_0 ?_
      refine q_isub hX d_M_rentOf_208 ?_
      refine q_istore hX d_M_rentOf_209 (by decide) rfl rfl ?_
      refine q_iinc hX d_M_rentOf_211 rfl (ii_1 _) (by decide) rfl rfl ?_
      refine q_goto hX d_M_rentOf_214 rfl ?_
      exact q_mask [true, true, true, false, false, true, true, false] rfl (hk164 _ _ h)
    · refine q_aload_n hX d_M_rentOf_186 rfl ?_
      refine q_getR hX fl_M_77 kc_104 (rfl : qRF 104 40 = some 127) d_M_rentOf_187 ?_
      refine q_iload hX d_M_rentOf_190 rfl ?_
      refine q_iald hX kc_127 d_M_rentOf_192 h (fun hi5 h => ?_)
      refine q_iload_n hX d_M_rentOf_193 rfl ?_
      refine q_icmp_ne hX d_M_rentOf_194 rfl h (fun _ h => ?_) (fun _ h => ?_)
      · refine q_iconst hX d_M_rentOf_207 ic_0 ?_
        refine q_isub hX d_M_rentOf_208 ?_
        refine q_istore hX d_M_rentOf_209 (by decide) rfl rfl ?_
        refine q_iinc hX d_M_rentOf_211 rfl (ii_1 _) (by decide) rfl rfl ?_
        refine q_goto hX d_M_rentOf_214 rfl ?_
        exact q_mask [true, true, true, false, false, true, true, false] rfl (hk164 _ _ h)
      · refine q_aload_n hX d_M_rentOf_197 rfl ?_
        refine q_getR hX fl_M_80 kc_104 (rfl : qRF 104 41 = some 128) d_M_rentOf_198 ?_
        refine q_iload hX d_M_rentOf_201 rfl ?_
        refine q_iald hX kc_128 d_M_rentOf_203 h (fun hi6 h => ?_)
        refine q_goto hX d_M_rentOf_204 rfl ?_
        refine q_isub hX d_M_rentOf_208 ?_
        refine q_istore hX d_M_rentOf_209 (by decide) rfl rfl ?_
        refine q_iinc hX d_M_rentOf_211 rfl (ii_1 _) (by decide) rfl rfl ?_
        refine q_goto hX d_M_rentOf_214 rfl ?_
        exact q_mask [true, true, true, false, false, true, true, false] rfl (hk164 _ _ h)
theorem t_M_rentOf_l164 {G : qG} {X : qX} (hX : qOk G X "ChantryRollsModel" prog_14_method_54_code 8 (some .int) 1) {u : Int32} {f : Nat} {σ : qMem} {x1 : Int32} {x2 : Int32} (hT : qTg G X 0 0 qKS qRF σ (some (.int u))) : ∀ (n : Nat) (x5 : Int32) (x6 : Int32), qfix2 (p_M_rentOf_l164 f  σ x1 x2 ) n x5 x6 = some u → qV G X 0 0 qKS qRF σ 164 [some (.ref 104), some (.int x1), some (.int x2), none, none, some (.int x5), some (.int x6), none] [] :=
  qfix2_ind (fun k hk _ _ h => t_M_rentOf_lb164 hX   hT  hk h)
set_option maxHeartbeats 4000000 in
theorem t_M_rentOf_lb46 {G : qG} {X : qX} (hX : qOk G X "ChantryRollsModel" prog_14_method_54_code 8 (some .int) 1) {u : Int32} {f : Nat} {σ : qMem} {x1 : Int32} {x2 : Int32} {x3 : Int32} (hT : qTg G X 0 0 qKS qRF σ (some (.int u))) {k46 : Int32 → Int32 → Option (Int32)} (hk46 : ∀ (x4 : Int32) (x5 : Int32), k46 x4 x5 = some u → qV G X 0 0 qKS qRF σ 46 [some (.ref 104), some (.int x1), some (.int x2), some (.int x3), some (.int x4), some (.int x5), none, none] []) {x4 : Int32} {x5 : Int32} (h : p_M_rentOf_l46 f  σ x1 x2 x3  k46 x4 x5 = some u) : qV G X 0 0 qKS qRF σ 46 [some (.ref 104), some (.int x1), some (.int x2), some (.int x3), some (.int x4), some (.int x5), none, none] [] := by
  unfold p_M_rentOf_l46 at h
  refine q_iload hX d_M_rentOf_46 rfl ?_
  refine q_sipush hX d_M_rentOf_48 sp_360 ?_
  refine q_iload_n hX d_M_rentOf_51 rfl ?_
  refine q_imul hX d_M_rentOf_52 ?_
  refine q_sipush hX d_M_rentOf_53 sp_360 ?_
  refine q_iadd hX d_M_rentOf_56 ?_
  refine q_icmp_ge hX d_M_rentOf_57 rfl h (fun _ h => ?_) (fun _ h => ?_)
  · refine q_iload_n hX d_M_rentOf_149 rfl ?_
    refine q_iload_n hX d_M_rentOf_150 rfl ?_
    refine q_iload hX d_M_rentOf_151 rfl ?_
    refine q_imul hX d_M_rentOf_153 ?_
    refine q_sipush hX d_M_rentOf_154 sp_360 ?_
    refine q_idiv hX d_M_rentOf_157 (by decide) ?_
    refine q_isub hX d_M_rentOf_158 ?_
    refine q_istore hX d_M_rentOf_159 (by decide) rfl rfl ?_
    refine q_iconst hX d_M_rentOf_161 ic_0 ?_
    refine q_istore hX d_M_rentOf_162 (by decide) rfl rfl ?_
    exact q_mask [true, true, true, false, false, true, true, false] rfl (t_M_rentOf_l164 hX hT f _ _ h)
  · refine q_iconst hX d_M_rentOf_60 ic_0 ?_
    refine q_istore hX d_M_rentOf_61 (by decide) rfl rfl ?_
    refine q_iconst hX d_M_rentOf_63 ic_0 ?_
    refine q_istore hX d_M_rentOf_64 (by decide) rfl rfl ?_
    exact q_mask [true, true, true, true, true, true, true, true] rfl (t_M_rentOf_l66 hX hT hk46 f _ _ h)
theorem t_M_rentOf_l46 {G : qG} {X : qX} (hX : qOk G X "ChantryRollsModel" prog_14_method_54_code 8 (some .int) 1) {u : Int32} {f : Nat} {σ : qMem} {x1 : Int32} {x2 : Int32} {x3 : Int32} (hT : qTg G X 0 0 qKS qRF σ (some (.int u))) : ∀ (n : Nat) (x4 : Int32) (x5 : Int32), qfix2 (p_M_rentOf_l46 f  σ x1 x2 x3 ) n x4 x5 = some u → qV G X 0 0 qKS qRF σ 46 [some (.ref 104), some (.int x1), some (.int x2), some (.int x3), some (.int x4), some (.int x5), none, none] [] :=
  qfix2_ind (fun k hk _ _ h => t_M_rentOf_lb46 hX   hT  hk h)
set_option maxHeartbeats 4000000 in
theorem t_M_rentOf_lb10 {G : qG} {X : qX} (hX : qOk G X "ChantryRollsModel" prog_14_method_54_code 8 (some .int) 1) {u : Int32} {f : Nat} {σ : qMem} {x1 : Int32} {x2 : Int32} (hT : qTg G X 0 0 qKS qRF σ (some (.int u))) {k10 : Int32 → Int32 → Option (Int32)} (hk10 : ∀ (x3 : Int32) (x4 : Int32), k10 x3 x4 = some u → qV G X 0 0 qKS qRF σ 10 [some (.ref 104), some (.int x1), some (.int x2), some (.int x3), some (.int x4), none, none, none] []) {x3 : Int32} {x4 : Int32} (h : p_M_rentOf_l10 f  σ x1 x2  k10 x3 x4 = some u) : qV G X 0 0 qKS qRF σ 10 [some (.ref 104), some (.int x1), some (.int x2), some (.int x3), some (.int x4), none, none, none] [] := by
  unfold p_M_rentOf_l10 at h
  refine q_iload hX d_M_rentOf_10 rfl ?_
  refine q_iload_n hX d_M_rentOf_12 rfl ?_
  refine q_icmp_ge hX d_M_rentOf_13 rfl h (fun _ h => ?_) (fun _ h => ?_)
  · refine q_iconst hX d_M_rentOf_36 ic_0 ?_
    refine q_istore hX d_M_rentOf_37 (by decide) rfl rfl ?_
    refine q_sipush hX d_M_rentOf_39 sp_360 ?_
    refine q_iload_n hX d_M_rentOf_42 rfl ?_
    refine q_imul hX d_M_rentOf_43 ?_
    refine q_istore hX d_M_rentOf_44 (by decide) rfl rfl ?_
    exact q_mask [true, true, true, true, true, true, false, false] rfl (t_M_rentOf_l46 hX hT f _ _ h)
  · refine q_iload_n hX d_M_rentOf_16 rfl ?_
    refine q_iload_n hX d_M_rentOf_17 rfl ?_
    refine q_aload_n hX d_M_rentOf_18 rfl ?_
    refine q_getR hX fl_M_71 kc_104 (rfl : qRF 104 37 = some 125) d_M_rentOf_19 ?_
    refine q_iload_n hX d_M_rentOf_22 rfl ?_
    refine q_iald hX kc_125 d_M_rentOf_23 h (fun hi7 h => ?_)
    refine q_imul hX d_M_rentOf_24 ?_
    refine q_bipush hX d_M_rentOf_25 bp_100 ?_
    refine q_idiv hX d_M_rentOf_27 (by decide) ?_
    refine q_isub hX d_M_rentOf_28 ?_
    refine q_istore_n hX d_M_rentOf_29 (by decide) rfl rfl ?_
    refine q_iinc hX d_M_rentOf_30 rfl (ii_1 _) (by decide) rfl rfl ?_
    refine q_goto hX d_M_rentOf_33 rfl ?_
    exact q_mask [true, true, true, true, true, false, false, false] rfl (hk10 _ _ h)
theorem t_M_rentOf_l10 {G : qG} {X : qX} (hX : qOk G X "ChantryRollsModel" prog_14_method_54_code 8 (some .int) 1) {u : Int32} {f : Nat} {σ : qMem} {x1 : Int32} {x2 : Int32} (hT : qTg G X 0 0 qKS qRF σ (some (.int u))) : ∀ (n : Nat) (x3 : Int32) (x4 : Int32), qfix2 (p_M_rentOf_l10 f  σ x1 x2 ) n x3 x4 = some u → qV G X 0 0 qKS qRF σ 10 [some (.ref 104), some (.int x1), some (.int x2), some (.int x3), some (.int x4), none, none, none] [] :=
  qfix2_ind (fun k hk _ _ h => t_M_rentOf_lb10 hX   hT  hk h)
set_option maxHeartbeats 4000000 in
theorem c_M_rentOf (l : Launch) (G : qG) (hA : qAd G) (f : Nat) (σ : qMem) (x1 : Int32) (x2 : Int32) {u : Int32} (h : p_M_rentOf f σ x1 x2 = some u) : qCt l y_M_rentOf prog_14_method_54_code 8 (some .int) 1 G qKS qRF σ [(.ref 104), (.int x1), (.int x2)] (some (.int u)) qKS qRF σ 0 0 := by
  refine qCt.of (lv := [some (.ref 104), some (.int x1), some (.int x2), none, none, none, none, none]) (by decide) hA (Nat.le_of_ble_eq_true rfl) rfl ?_
  intro X hl _ _ _ hX hT
  subst hl
  unfold p_M_rentOf at h
  refine q_aload_n hX d_M_rentOf_0 rfl ?_
  refine q_getR hX fl_M_68 kc_104 (rfl : qRF 104 36 = some 124) d_M_rentOf_1 ?_
  refine q_iload_n hX d_M_rentOf_4 rfl ?_
  refine q_iald hX kc_124 d_M_rentOf_5 h (fun hi8 h => ?_)
  refine q_istore_n hX d_M_rentOf_6 (by decide) rfl rfl ?_
  refine q_iconst hX d_M_rentOf_7 ic_0 ?_
  refine q_istore hX d_M_rentOf_8 (by decide) rfl rfl ?_
  exact q_mask [true, true, true, true, true, false, false, false] rfl (t_M_rentOf_l10 hX hT f _ _ h)
set_option maxHeartbeats 4000000 in
theorem c_M_rent (l : Launch) (G : qG) (hA : qAd G) (f : Nat) (σ : qMem) (x1 : Int32) (x2 : Int32) {u : Int32 × qMem} (h : p_M_rent f σ x1 x2 = some u) : qCt l y_M_rent prog_14_method_55_code 3 (some .int) 3 G qKS qRF σ [(.ref 104), (.int x1), (.int x2)] (some (.int u.1)) qKS qRF u.2 0 0 := by
  refine qCt.of (lv := [some (.ref 104), some (.int x1), some (.int x2)]) (by decide) hA (Nat.le_of_ble_eq_true rfl) rfl ?_
  intro X hl _ _ _ hX hT
  subst hl
  unfold p_M_rent at h
  refine q_aload_n hX d_M_rent_0 rfl ?_
  refine q_iconst hX d_M_rent_1 ic_0 ?_
  refine q_putI hX fl_M_137 kc_104 rfl qKS_len d_M_rent_2 ?_
  refine q_iload_n hX d_M_rent_5 rfl ?_
  obtain ⟨u1, hc2, h⟩ := qbind h
  refine q_cSr hX (c_M_isHouse X.l G hX.ad f _ _ hc2) cw_M_341 rfl (Nat.le_of_ble_eq_true rfl) rfl (Nat.le_of_ble_eq_true rfl) d_M_rent_6 ?_
  refine q_if_eq hX d_M_rent_9 rfl h (fun _ h => ?_) (fun _ h => ?_)
  · refine q_ldc hX w_1298 d_M_rent_19 ?_
    refine q_goto hX d_M_rent_21 rfl ?_
    exact q_iretW hX h hT d_M_rent_30
  · refine q_iload_n hX d_M_rent_12 rfl ?_
    obtain ⟨u3, hc4, h⟩ := qbind h
    refine q_cSr hX (c_M_isYear X.l G hX.ad f _ _ hc4) cw_M_348 rfl (Nat.le_of_ble_eq_true rfl) rfl (Nat.le_of_ble_eq_true rfl) d_M_rent_13 ?_
    refine q_if_ne hX d_M_rent_16 rfl h (fun _ h => ?_) (fun _ h => ?_)
    · refine q_aload_n hX d_M_rent_24 rfl ?_
      refine q_iload_n hX d_M_rent_25 rfl ?_
      refine q_iload_n hX d_M_rent_26 rfl ?_
      obtain ⟨u5, hc6, h⟩ := qbind h
      refine q_cVr hX (c_M_rentOf X.l G hX.ad f _ _ _ hc6) cw_M_357 rfl kc_104 rfl (Nat.le_of_ble_eq_true rfl) rfl (Nat.le_of_ble_eq_true rfl) d_M_rent_27 ?_
      exact q_iretW hX h hT d_M_rent_30
    · refine q_ldc hX w_1298 d_M_rent_19 ?_
      refine q_goto hX d_M_rent_21 rfl ?_
      exact q_iretW hX h hT d_M_rent_30
set_option maxHeartbeats 4000000 in
theorem c_M_comesTo (l : Launch) (G : qG) (hA : qAd G) (f : Nat) (σ : qMem) (x1 : Int32) (x2 : Int32) {u : Int32} (h : p_M_comesTo f σ x1 x2 = some u) : qCt l y_M_comesTo prog_14_method_56_code 5 (some .int) 3 G qKS qRF σ [(.ref 104), (.int x1), (.int x2)] (some (.int u)) qKS qRF σ 0 0 := by
  refine qCt.of (lv := [some (.ref 104), some (.int x1), some (.int x2), none, none]) (by decide) hA (Nat.le_of_ble_eq_true rfl) rfl ?_
  intro X hl _ _ _ hX hT
  subst hl
  unfold p_M_comesTo at h
  refine q_aload_n hX d_M_comesTo_0 rfl ?_
  refine q_aload_n hX d_M_comesTo_1 rfl ?_
  refine q_iload_n hX d_M_comesTo_2 rfl ?_
  refine q_bipush hX d_M_comesTo_3 bp_7 ?_
  obtain ⟨u1, hc2, h⟩ := qbind h
  refine q_cVr hX (c_M_of X.l G hX.ad f _ _ _ hc2) cw_M_270 rfl kc_104 rfl (Nat.le_of_ble_eq_true rfl) rfl (Nat.le_of_ble_eq_true rfl) d_M_comesTo_5 ?_
  refine q_iload_n hX d_M_comesTo_8 rfl ?_
  obtain ⟨u3, hc4, h⟩ := qbind h
  refine q_cVr hX (c_M_rentOf X.l G hX.ad f _ _ _ hc4) cw_M_357 rfl kc_104 rfl (Nat.le_of_ble_eq_true rfl) rfl (Nat.le_of_ble_eq_true rfl) d_M_comesTo_9 ?_
  refine q_aload_n hX d_M_comesTo_12 rfl ?_
  refine q_iload_n hX d_M_comesTo_13 rfl ?_
  refine q_bipush hX d_M_comesTo_14 bp_8 ?_
  obtain ⟨u5, hc6, h⟩ := qbind h
  refine q_cVr hX (c_M_of X.l G hX.ad f _ _ _ hc6) cw_M_270 rfl kc_104 rfl (Nat.le_of_ble_eq_true rfl) rfl (Nat.le_of_ble_eq_true rfl) d_M_comesTo_16 ?_
  refine q_imul hX d_M_comesTo_19 ?_
  refine q_bipush hX d_M_comesTo_20 bp_100 ?_
  refine q_idiv hX d_M_comesTo_22 (by decide) ?_
  refine q_istore_n hX d_M_comesTo_23 (by decide) rfl rfl ?_
  refine q_aload_n hX d_M_comesTo_24 rfl ?_
  refine q_iload_n hX d_M_comesTo_25 rfl ?_
  refine q_sipush hX d_M_comesTo_26 sp_360 ?_
  refine q_iload_n hX d_M_comesTo_29 rfl ?_
  refine q_imul hX d_M_comesTo_30 ?_
  obtain ⟨u7, hc8, h⟩ := qbind h
  refine q_cVr hX (c_M_otherOf X.l G hX.ad f _ _ _ hc8) cw_M_325 rfl kc_104 rfl (Nat.le_of_ble_eq_true rfl) rfl (Nat.le_of_ble_eq_true rfl) d_M_comesTo_31 ?_
  refine q_istore hX d_M_comesTo_34 (by decide) rfl rfl ?_
  refine q_iload hX d_M_comesTo_36 rfl ?_
  refine q_ldc hX w_1335 d_M_comesTo_38 ?_
  refine q_icmp_ne hX d_M_comesTo_40 rfl h (fun _ h => ?_) (fun _ h => ?_)
  · refine q_iload_n hX d_M_comesTo_47 rfl ?_
    refine q_aload_n hX d_M_comesTo_48 rfl ?_
    refine q_aload_n hX d_M_comesTo_49 rfl ?_
    refine q_iload hX d_M_comesTo_50 rfl ?_
    refine q_bipush hX d_M_comesTo_52 bp_7 ?_
    obtain ⟨u9, hc10, h⟩ := qbind h
    refine q_cVr hX (c_M_of X.l G hX.ad f _ _ _ hc10) cw_M_270 rfl kc_104 rfl (Nat.le_of_ble_eq_true rfl) rfl (Nat.le_of_ble_eq_true rfl) d_M_comesTo_54 ?_
    refine q_iload_n hX d_M_comesTo_57 rfl ?_
    obtain ⟨u11, hc12, h⟩ := qbind h
    refine q_cVr hX (c_M_rentOf X.l G hX.ad f _ _ _ hc12) cw_M_357 rfl kc_104 rfl (Nat.le_of_ble_eq_true rfl) rfl (Nat.le_of_ble_eq_true rfl) d_M_comesTo_58 ?_
    refine q_aload_n hX d_M_comesTo_61 rfl ?_
    refine q_iload hX d_M_comesTo_62 rfl ?_
    refine q_bipush hX d_M_comesTo_64 bp_8 ?_
    obtain ⟨u13, hc14, h⟩ := qbind h
    refine q_cVr hX (c_M_of X.l G hX.ad f _ _ _ hc14) cw_M_270 rfl kc_104 rfl (Nat.le_of_ble_eq_true rfl) rfl (Nat.le_of_ble_eq_true rfl) d_M_comesTo_66 ?_
    refine q_imul hX d_M_comesTo_69 ?_
    refine q_bipush hX d_M_comesTo_70 bp_100 ?_
    refine q_idiv hX d_M_comesTo_72 (by decide) ?_
    refine q_iadd hX d_M_comesTo_73 ?_
    exact q_iretR hX h hT d_M_comesTo_74
  · refine q_iload_n hX d_M_comesTo_43 rfl ?_
    refine q_goto hX d_M_comesTo_44 rfl ?_
    exact q_iretR hX h hT d_M_comesTo_74
set_option maxHeartbeats 4000000 in
theorem c_M_comes (l : Launch) (G : qG) (hA : qAd G) (f : Nat) (σ : qMem) (x1 : Int32) (x2 : Int32) (x3 : Int32) {u : Int32 × qMem} (h : p_M_comes f σ x1 x2 x3 = some u) : qCt l y_M_comes prog_14_method_57_code 5 (some .int) 4 G qKS qRF σ [(.ref 104), (.int x1), (.int x2), (.int x3)] (some (.int u.1)) qKS qRF u.2 0 0 := by
  refine qCt.of (lv := [some (.ref 104), some (.int x1), some (.int x2), some (.int x3), none]) (by decide) hA (Nat.le_of_ble_eq_true rfl) rfl ?_
  intro X hl _ _ _ hX hT
  subst hl
  unfold p_M_comes at h
  refine q_aload_n hX d_M_comes_0 rfl ?_
  refine q_iconst hX d_M_comes_1 ic_0 ?_
  refine q_putI hX fl_M_137 kc_104 rfl qKS_len d_M_comes_2 ?_
  refine q_aload_n hX d_M_comes_5 rfl ?_
  refine q_iload_n hX d_M_comes_6 rfl ?_
  obtain ⟨u1, hc2, h⟩ := qbind h
  refine q_cVr hX (c_M_isPromise X.l G hX.ad f _ _ hc2) cw_M_265 rfl kc_104 rfl (Nat.le_of_ble_eq_true rfl) rfl (Nat.le_of_ble_eq_true rfl) d_M_comes_7 ?_
  refine q_if_eq hX d_M_comes_10 rfl h (fun _ h => ?_) (fun _ h => ?_)
  · refine q_ldc hX w_1298 d_M_comes_30 ?_
    exact q_iretW hX h hT d_M_comes_32
  · refine q_iload_n hX d_M_comes_13 rfl ?_
    obtain ⟨u3, hc4, h⟩ := qbind h
    refine q_cSr hX (c_M_isYear X.l G hX.ad f _ _ hc4) cw_M_348 rfl (Nat.le_of_ble_eq_true rfl) rfl (Nat.le_of_ble_eq_true rfl) d_M_comes_14 ?_
    refine q_if_eq hX d_M_comes_17 rfl h (fun _ h => ?_) (fun _ h => ?_)
    · refine q_ldc hX w_1298 d_M_comes_30 ?_
      exact q_iretW hX h hT d_M_comes_32
    · refine q_iload_n hX d_M_comes_20 rfl ?_
      refine q_i2l hX d_M_comes_21 ?_
      refine q_lconst hX d_M_comes_22 lc_0 ?_
      refine q_lconst hX d_M_comes_23 lc_1 ?_
      obtain ⟨u5, hc6, h⟩ := qbind h
      refine q_cSr hX (c_M_in X.l G hX.ad f _ _ _ _ hc6) cw_M_147 rfl (Nat.le_of_ble_eq_true rfl) rfl (Nat.le_of_ble_eq_true rfl) d_M_comes_24 ?_
      refine q_if_ne hX d_M_comes_27 rfl h (fun _ h => ?_) (fun _ h => ?_)
      · refine q_aload_n hX d_M_comes_33 rfl ?_
        refine q_iload_n hX d_M_comes_34 rfl ?_
        refine q_iload_n hX d_M_comes_35 rfl ?_
        obtain ⟨u7, hc8, h⟩ := qbind h
        refine q_cVr hX (c_M_comesTo X.l G hX.ad f _ _ _ hc8) cw_M_360 rfl kc_104 rfl (Nat.le_of_ble_eq_true rfl) rfl (Nat.le_of_ble_eq_true rfl) d_M_comes_36 ?_
        refine q_istore hX d_M_comes_39 (by decide) rfl rfl ?_
        refine q_iload_n hX d_M_comes_41 rfl ?_
        refine q_if_ne hX d_M_comes_42 rfl h (fun _ h => ?_) (fun _ h => ?_)
        · refine q_iload hX d_M_comes_50 rfl ?_
          refine q_aload_n hX d_M_comes_52 rfl ?_
          refine q_getR hX fl_M_92 kc_104 (rfl : qRF 104 46 = some 132) d_M_comes_53 ?_
          refine q_iconst hX d_M_comes_56 ic_0 ?_
          refine q_iald hX kc_132 d_M_comes_57 h (fun hi9 h => ?_)
          refine q_icmp_lt hX d_M_comes_58 rfl h (fun _ h => ?_) (fun _ h => ?_)
          · refine q_iconst hX d_M_comes_65 ic_0 ?_
            exact q_iretW hX h hT d_M_comes_66
          · refine q_iconst hX d_M_comes_61 ic_1 ?_
            refine q_goto hX d_M_comes_62 rfl ?_
            exact q_iretW hX h hT d_M_comes_66
        · refine q_iload hX d_M_comes_45 rfl ?_
          refine q_goto hX d_M_comes_47 rfl ?_
          exact q_iretW hX h hT d_M_comes_66
      · refine q_ldc hX w_1298 d_M_comes_30 ?_
        exact q_iretW hX h hT d_M_comes_32
set_option maxHeartbeats 4000000 in
theorem t_M_fails_lb27 {G : qG} {X : qX} (hX : qOk G X "ChantryRollsModel" prog_14_method_58_code 3 (some .int) 4) {u : Int32 × qMem} {f : Nat} {σ : qMem} {x1 : Int32} (hT : qTg G X 0 0 qKS qRF u.2 (some (.int u.1))) {k27 : Int32 → Option (Int32 × qMem)} (hk27 : ∀ (x2 : Int32), k27 x2 = some u → qV G X 0 0 qKS qRF σ 27 [some (.ref 104), some (.int x1), some (.int x2)] []) {x2 : Int32} (h : p_M_fails_l27 f  σ x1  k27 x2 = some u) : qV G X 0 0 qKS qRF σ 27 [some (.ref 104), some (.int x1), some (.int x2)] [] := by
  unfold p_M_fails_l27 at h
  refine q_iload_n hX d_M_fails_27 rfl ?_
  refine q_bipush hX d_M_fails_28 bp_28 ?_
  refine q_icmp_ge hX d_M_fails_30 rfl h (fun _ h => ?_) (fun _ h => ?_)
  · refine q_ldc hX w_1335 d_M_fails_65 ?_
    exact q_iretW hX h hT d_M_fails_67
  · refine q_aload_n hX d_M_fails_33 rfl ?_
    refine q_iload_n hX d_M_fails_34 rfl ?_
    refine q_iconst hX d_M_fails_35 ic_0 ?_
    obtain ⟨u1, hc2, h⟩ := qbind h
    refine q_cVr hX (c_M_of X.l G hX.ad f _ _ _ hc2) cw_M_270 rfl kc_104 rfl (Nat.le_of_ble_eq_true rfl) rfl (Nat.le_of_ble_eq_true rfl) d_M_fails_36 ?_
    refine q_if_ne hX d_M_fails_39 rfl h (fun _ h => ?_) (fun _ h => ?_)
    · refine q_ldc hX w_1335 d_M_fails_65 ?_
      exact q_iretW hX h hT d_M_fails_67
    · refine q_aload_n hX d_M_fails_42 rfl ?_
      refine q_iload_n hX d_M_fails_43 rfl ?_
      refine q_iload_n hX d_M_fails_44 rfl ?_
      obtain ⟨u3, hc4, h⟩ := qbind h
      refine q_cVr hX (c_M_comesTo X.l G hX.ad f _ _ _ hc4) cw_M_360 rfl kc_104 rfl (Nat.le_of_ble_eq_true rfl) rfl (Nat.le_of_ble_eq_true rfl) d_M_fails_45 ?_
      refine q_aload_n hX d_M_fails_48 rfl ?_
      refine q_getR hX fl_M_92 kc_104 (rfl : qRF 104 46 = some 132) d_M_fails_49 ?_
      refine q_iconst hX d_M_fails_52 ic_0 ?_
      refine q_iald hX kc_132 d_M_fails_53 h (fun hi5 h => ?_)
      refine q_icmp_ge hX d_M_fails_54 rfl h (fun _ h => ?_) (fun _ h => ?_)
      · refine q_iinc hX d_M_fails_59 rfl (ii_1 _) (by decide) rfl rfl ?_
        refine q_goto hX d_M_fails_62 rfl ?_
        exact q_mask [true, true, true] rfl (hk27 _ h)
      · refine q_iload_n hX d_M_fails_57 rfl ?_
        exact q_iretW hX h hT d_M_fails_58
theorem t_M_fails_l27 {G : qG} {X : qX} (hX : qOk G X "ChantryRollsModel" prog_14_method_58_code 3 (some .int) 4) {u : Int32 × qMem} {f : Nat} {σ : qMem} {x1 : Int32} (hT : qTg G X 0 0 qKS qRF u.2 (some (.int u.1))) : ∀ (n : Nat) (x2 : Int32), qfix1 (p_M_fails_l27 f  σ x1 ) n x2 = some u → qV G X 0 0 qKS qRF σ 27 [some (.ref 104), some (.int x1), some (.int x2)] [] :=
  qfix1_ind (fun k hk _ h => t_M_fails_lb27 hX   hT  hk h)
set_option maxHeartbeats 4000000 in
theorem c_M_fails (l : Launch) (G : qG) (hA : qAd G) (f : Nat) (σ : qMem) (x1 : Int32) {u : Int32 × qMem} (h : p_M_fails f σ x1 = some u) : qCt l y_M_fails prog_14_method_58_code 3 (some .int) 4 G qKS qRF σ [(.ref 104), (.int x1)] (some (.int u.1)) qKS qRF u.2 0 0 := by
  refine qCt.of (lv := [some (.ref 104), some (.int x1), none]) (by decide) hA (Nat.le_of_ble_eq_true rfl) rfl ?_
  intro X hl _ _ _ hX hT
  subst hl
  unfold p_M_fails at h
  refine q_aload_n hX d_M_fails_0 rfl ?_
  refine q_iconst hX d_M_fails_1 ic_0 ?_
  refine q_putI hX fl_M_137 kc_104 rfl qKS_len d_M_fails_2 ?_
  refine q_aload_n hX d_M_fails_5 rfl ?_
  refine q_iload_n hX d_M_fails_6 rfl ?_
  obtain ⟨u6, hc7, h⟩ := qbind h
  refine q_cVr hX (c_M_isPromise X.l G hX.ad f _ _ hc7) cw_M_265 rfl kc_104 rfl (Nat.le_of_ble_eq_true rfl) rfl (Nat.le_of_ble_eq_true rfl) d_M_fails_7 ?_
  refine q_if_ne hX d_M_fails_10 rfl h (fun _ h => ?_) (fun _ h => ?_)
  · refine q_aload_n hX d_M_fails_16 rfl ?_
    refine q_iload_n hX d_M_fails_17 rfl ?_
    refine q_iconst hX d_M_fails_18 ic_5 ?_
    obtain ⟨u8, hc9, h⟩ := qbind h
    refine q_cVr hX (c_M_of X.l G hX.ad f _ _ _ hc9) cw_M_270 rfl kc_104 rfl (Nat.le_of_ble_eq_true rfl) rfl (Nat.le_of_ble_eq_true rfl) d_M_fails_19 ?_
    refine q_sipush hX d_M_fails_22 sp_360 ?_
    refine q_idiv hX d_M_fails_25 (by decide) ?_
    refine q_istore_n hX d_M_fails_26 (by decide) rfl rfl ?_
    exact q_mask [true, true, true] rfl (t_M_fails_l27 hX hT f _ h)
  · refine q_ldc hX w_1298 d_M_fails_13 ?_
    exact q_iretW hX h hT d_M_fails_15
set_option maxHeartbeats 4000000 in
theorem t_M_price_b33 {G : qG} {X : qX} (hX : qOk G X "ChantryRollsModel" prog_14_method_59_code 4 (some .int) 2) {u : Int32 × qMem} {f : Nat} {σ : qMem} {x1 : Int32} {x2 : Int32} {s0 : Int64} {s1 : Int64} {s2 : Int64} (hT : qTg G X 0 0 qKS qRF u.2 (some (.int u.1))) (h : p_M_price_b33 f    σ x1 x2 s0 s1 s2 = some u) : qV G X 0 0 qKS qRF σ 33 [some (.ref 104), some (.int x1), some (.int x2), none] [(.long s2), (.long s1), (.long s0)] := by
  unfold p_M_price_b33 at h
  obtain ⟨u1, hc2, h⟩ := qbind h
  refine q_cSr hX (c_M_in X.l G hX.ad f _ _ _ _ hc2) cw_M_147 rfl (Nat.le_of_ble_eq_true rfl) rfl (Nat.le_of_ble_eq_true rfl) d_M_price_33 ?_
  refine q_if_ne hX d_M_price_36 rfl h (fun _ h => ?_) (fun _ h => ?_)
  · refine q_aload_n hX d_M_price_42 rfl ?_
    refine q_getR hX fl_M_92 kc_104 (rfl : qRF 104 46 = some 132) d_M_price_43 ?_
    refine q_iload_n hX d_M_price_46 rfl ?_
    refine q_iald hX kc_132 d_M_price_47 h (fun hi3 h => ?_)
    refine q_istore_n hX d_M_price_48 (by decide) rfl rfl ?_
    refine q_aload_n hX d_M_price_49 rfl ?_
    refine q_getR hX fl_M_92 kc_104 (rfl : qRF 104 46 = some 132) d_M_price_50 ?_
    refine q_iload_n hX d_M_price_53 rfl ?_
    refine q_iload_n hX d_M_price_54 rfl ?_
    refine q_iast hX kc_132 qKS_len d_M_price_55 h (fun hi4 h => ?_)
    refine q_iload_n hX d_M_price_56 rfl ?_
    exact q_iretW hX h hT d_M_price_57
  · refine q_ldc hX w_1298 d_M_price_39 ?_
    exact q_iretW hX h hT d_M_price_41
set_option maxHeartbeats 4000000 in
theorem c_M_price (l : Launch) (G : qG) (hA : qAd G) (f : Nat) (σ : qMem) (x1 : Int32) (x2 : Int32) {u : Int32 × qMem} (h : p_M_price f σ x1 x2 = some u) : qCt l y_M_price prog_14_method_59_code 4 (some .int) 2 G qKS qRF σ [(.ref 104), (.int x1), (.int x2)] (some (.int u.1)) qKS qRF u.2 0 0 := by
  refine qCt.of (lv := [some (.ref 104), some (.int x1), some (.int x2), none]) (by decide) hA (Nat.le_of_ble_eq_true rfl) rfl ?_
  intro X hl _ _ _ hX hT
  subst hl
  unfold p_M_price at h
  refine q_aload_n hX d_M_price_0 rfl ?_
  refine q_iconst hX d_M_price_1 ic_0 ?_
  refine q_putI hX fl_M_137 kc_104 rfl qKS_len d_M_price_2 ?_
  refine q_iload_n hX d_M_price_5 rfl ?_
  refine q_i2l hX d_M_price_6 ?_
  refine q_lconst hX d_M_price_7 lc_0 ?_
  refine q_ldc2 hX w_1297 d_M_price_8 ?_
  obtain ⟨u5, hc6, h⟩ := qbind h
  refine q_cSr hX (c_M_in X.l G hX.ad f _ _ _ _ hc6) cw_M_147 rfl (Nat.le_of_ble_eq_true rfl) rfl (Nat.le_of_ble_eq_true rfl) d_M_price_11 ?_
  refine q_if_eq hX d_M_price_14 rfl h (fun _ h => ?_) (fun _ h => ?_)
  · refine q_ldc hX w_1298 d_M_price_39 ?_
    exact q_iretW hX h hT d_M_price_41
  · refine q_iload_n hX d_M_price_17 rfl ?_
    refine q_i2l hX d_M_price_18 ?_
    refine q_lconst hX d_M_price_19 lc_0 ?_
    refine q_iload_n hX d_M_price_20 rfl ?_
    refine q_if_ne hX d_M_price_21 rfl h (fun _ h => ?_) (fun _ h => ?_)
    · refine q_ldc2 hX w_1548 d_M_price_30 ?_
      exact q_mask [true, true, true, false] rfl (t_M_price_b33 hX hT h)
    · refine q_ldc2 hX w_1510 d_M_price_24 ?_
      refine q_goto hX d_M_price_27 rfl ?_
      exact q_mask [true, true, true, false] rfl (t_M_price_b33 hX hT h)
set_option maxHeartbeats 4000000 in
theorem t_M_spent_lb19 {G : qG} {X : qX} (hX : qOk G X "ChantryRollsModel" prog_14_method_60_code 4 (some .int) 4) {u : Int32 × qMem} {f : Nat} {σ : qMem} {x1 : Int32} (hT : qTg G X 0 0 qKS qRF u.2 (some (.int u.1))) {k19 : Int32 → Int32 → Option (Int32 × qMem)} (hk19 : ∀ (x2 : Int32) (x3 : Int32), k19 x2 x3 = some u → qV G X 0 0 qKS qRF σ 19 [some (.ref 104), some (.int x1), some (.int x2), some (.int x3)] []) {x2 : Int32} {x3 : Int32} (h : p_M_spent_l19 f  σ x1  k19 x2 x3 = some u) : qV G X 0 0 qKS qRF σ 19 [some (.ref 104), some (.int x1), some (.int x2), some (.int x3)] [] := by
  unfold p_M_spent_l19 at h
  refine q_iload_n hX d_M_spent_19 rfl ?_
  refine q_aload_n hX d_M_spent_20 rfl ?_
  refine q_getI hX fl_M_162 kc_104 d_M_spent_21 ?_
  refine q_icmp_ge hX d_M_spent_24 rfl h (fun _ h => ?_) (fun _ h => ?_)
  · refine q_iload_n hX d_M_spent_98 rfl ?_
    exact q_iretW hX h hT d_M_spent_99
  · refine q_iload_n hX d_M_spent_27 rfl ?_
    refine q_aload_n hX d_M_spent_28 rfl ?_
    refine q_iload_n hX d_M_spent_29 rfl ?_
    refine q_iconst hX d_M_spent_30 ic_0 ?_
    obtain ⟨u1, hc2, h⟩ := qbind h
    refine q_cVr hX (c_M_of X.l G hX.ad f _ _ _ hc2) cw_M_270 rfl kc_104 rfl (Nat.le_of_ble_eq_true rfl) rfl (Nat.le_of_ble_eq_true rfl) d_M_spent_31 ?_
    refine q_if_ne hX d_M_spent_34 rfl h (fun _ h => ?_) (fun _ h => ?_)
    · refine q_aload_n hX d_M_spent_41 rfl ?_
      refine q_iload_n hX d_M_spent_42 rfl ?_
      refine q_sipush hX d_M_spent_43 sp_360 ?_
      refine q_iload_n hX d_M_spent_46 rfl ?_
      refine q_imul hX d_M_spent_47 ?_
      refine q_sipush hX d_M_spent_48 sp_360 ?_
      refine q_iload_n hX d_M_spent_51 rfl ?_
      refine q_imul hX d_M_spent_52 ?_
      refine q_sipush hX d_M_spent_53 sp_359 ?_
      refine q_iadd hX d_M_spent_56 ?_
      obtain ⟨u3, hc4, h⟩ := qbind h
      refine q_cVr hX (c_M_wantsIn X.l G hX.ad f _ _ _ _ hc4) cw_M_328 rfl kc_104 rfl (Nat.le_of_ble_eq_true rfl) rfl (Nat.le_of_ble_eq_true rfl) d_M_spent_57 ?_
      refine q_aload_n hX d_M_spent_60 rfl ?_
      refine q_iload_n hX d_M_spent_61 rfl ?_
      refine q_bipush hX d_M_spent_62 bp_9 ?_
      obtain ⟨u5, hc6, h⟩ := qbind h
      refine q_cVr hX (c_M_of X.l G hX.ad f _ _ _ hc6) cw_M_270 rfl kc_104 rfl (Nat.le_of_ble_eq_true rfl) rfl (Nat.le_of_ble_eq_true rfl) d_M_spent_64 ?_
      refine q_aload_n hX d_M_spent_67 rfl ?_
      refine q_getR hX fl_M_92 kc_104 (rfl : qRF 104 46 = some 132) d_M_spent_68 ?_
      refine q_iconst hX d_M_spent_71 ic_1 ?_
      refine q_iald hX kc_132 d_M_spent_72 h (fun hi7 h => ?_)
      refine q_imul hX d_M_spent_73 ?_
      refine q_aload_n hX d_M_spent_74 rfl ?_
      refine q_iload_n hX d_M_spent_75 rfl ?_
      refine q_bipush hX d_M_spent_76 bp_10 ?_
      obtain ⟨u8, hc9, h⟩ := qbind h
      refine q_cVr hX (c_M_of X.l G hX.ad f _ _ _ hc9) cw_M_270 rfl kc_104 rfl (Nat.le_of_ble_eq_true rfl) rfl (Nat.le_of_ble_eq_true rfl) d_M_spent_78 ?_
      refine q_aload_n hX d_M_spent_81 rfl ?_
      refine q_getR hX fl_M_92 kc_104 (rfl : qRF 104 46 = some 132) d_M_spent_82 ?_
      refine q_iconst hX d_M_spent_85 ic_2 ?_
      refine q_iald hX kc_132 d_M_spent_86 h (fun hi10 h => ?_)
      refine q_imul hX d_M_spent_87 ?_
      refine q_iadd hX d_M_spent_88 ?_
      refine q_imul hX d_M_spent_89 ?_
      refine q_iadd hX d_M_spent_90 ?_
      refine q_istore_n hX d_M_spent_91 (by decide) rfl rfl ?_
      refine q_iinc hX d_M_spent_92 rfl (ii_1 _) (by decide) rfl rfl ?_
      refine q_goto hX d_M_spent_95 rfl ?_
      exact q_mask [true, true, true, true] rfl (hk19 _ _ h)
    · refine q_iconst hX d_M_spent_37 ic_0 ?_
      refine q_goto hX d_M_spent_38 rfl ?_
      refine q_iadd hX d_M_spent_90 ?_
      refine q_istore_n hX d_M_spent_91 (by decide) rfl rfl ?_
      refine q_iinc hX d_M_spent_92 rfl (ii_1 _) (by decide) rfl rfl ?_
      refine q_goto hX d_M_spent_95 rfl ?_
      exact q_mask [true, true, true, true] rfl (hk19 _ _ h)
theorem t_M_spent_l19 {G : qG} {X : qX} (hX : qOk G X "ChantryRollsModel" prog_14_method_60_code 4 (some .int) 4) {u : Int32 × qMem} {f : Nat} {σ : qMem} {x1 : Int32} (hT : qTg G X 0 0 qKS qRF u.2 (some (.int u.1))) : ∀ (n : Nat) (x2 : Int32) (x3 : Int32), qfix2 (p_M_spent_l19 f  σ x1 ) n x2 x3 = some u → qV G X 0 0 qKS qRF σ 19 [some (.ref 104), some (.int x1), some (.int x2), some (.int x3)] [] :=
  qfix2_ind (fun k hk _ _ h => t_M_spent_lb19 hX   hT  hk h)
set_option maxHeartbeats 4000000 in
theorem c_M_spent (l : Launch) (G : qG) (hA : qAd G) (f : Nat) (σ : qMem) (x1 : Int32) {u : Int32 × qMem} (h : p_M_spent f σ x1 = some u) : qCt l y_M_spent prog_14_method_60_code 4 (some .int) 4 G qKS qRF σ [(.ref 104), (.int x1)] (some (.int u.1)) qKS qRF u.2 0 0 := by
  refine qCt.of (lv := [some (.ref 104), some (.int x1), none, none]) (by decide) hA (Nat.le_of_ble_eq_true rfl) rfl ?_
  intro X hl _ _ _ hX hT
  subst hl
  unfold p_M_spent at h
  refine q_aload_n hX d_M_spent_0 rfl ?_
  refine q_iconst hX d_M_spent_1 ic_0 ?_
  refine q_putI hX fl_M_137 kc_104 rfl qKS_len d_M_spent_2 ?_
  refine q_iload_n hX d_M_spent_5 rfl ?_
  obtain ⟨u11, hc12, h⟩ := qbind h
  refine q_cSr hX (c_M_isYear X.l G hX.ad f _ _ hc12) cw_M_348 rfl (Nat.le_of_ble_eq_true rfl) rfl (Nat.le_of_ble_eq_true rfl) d_M_spent_6 ?_
  refine q_if_ne hX d_M_spent_9 rfl h (fun _ h => ?_) (fun _ h => ?_)
  · refine q_iconst hX d_M_spent_15 ic_0 ?_
    refine q_istore_n hX d_M_spent_16 (by decide) rfl rfl ?_
    refine q_iconst hX d_M_spent_17 ic_0 ?_
    refine q_istore_n hX d_M_spent_18 (by decide) rfl rfl ?_
    exact q_mask [true, true, true, true] rfl (t_M_spent_l19 hX hT f _ _ h)
  · refine q_ldc hX w_1298 d_M_spent_12 ?_
    exact q_iretW hX h hT d_M_spent_14
set_option maxHeartbeats 4000000 in
theorem t_M_vacant_lb163 {G : qG} {X : qX} (hX : qOk G X "ChantryRollsModel" prog_14_method_61_code 9 (some .int) 3) {u : Int32 × qMem} {f : Nat} {x1 : Int32} {x5 : Int32} {x7 : Int32} (hT : qTg G X 0 0 qKS qRF u.2 (some (.int u.1))) {k163 : qMem → Int32 → Option (Int32 × qMem)} (hk163 : ∀ (σ : qMem) (x8 : Int32), k163 σ x8 = some u → qV G X 0 0 qKS qRF σ 163 [some (.ref 104), some (.int x1), none, none, none, some (.int x5), none, some (.int x7), some (.int x8)] []) {σ : qMem} {x8 : Int32} (h : p_M_vacant_l163 f  x1 x5 x7  k163 σ x8 = some u) : qV G X 0 0 qKS qRF σ 163 [some (.ref 104), some (.int x1), none, none, none, some (.int x5), none, some (.int x7), some (.int x8)] [] := by
  unfold p_M_vacant_l163 at h
  refine q_iload hX d_M_vacant_163 rfl ?_
  refine q_iconst hX d_M_vacant_165 ic_2 ?_
  refine q_iload hX d_M_vacant_166 rfl ?_
  refine q_imul hX d_M_vacant_168 ?_
  refine q_icmp_ge hX d_M_vacant_169 rfl h (fun _ h => ?_) (fun _ h => ?_)
  · refine q_iload hX d_M_vacant_200 rfl ?_
    exact q_iretW hX h hT d_M_vacant_202
  · refine q_aload_n hX d_M_vacant_172 rfl ?_
    refine q_getR hX fl_M_101 kc_104 (rfl : qRF 104 49 = some 135) d_M_vacant_173 ?_
    refine q_bipush hX d_M_vacant_176 bp_8 ?_
    refine q_iload_n hX d_M_vacant_178 rfl ?_
    refine q_imul hX d_M_vacant_179 ?_
    refine q_iload hX d_M_vacant_180 rfl ?_
    refine q_iadd hX d_M_vacant_182 ?_
    refine q_aload_n hX d_M_vacant_183 rfl ?_
    refine q_getR hX fl_M_16 kc_104 (rfl : qRF 104 4 = some 107) d_M_vacant_184 ?_
    refine q_iload hX d_M_vacant_187 rfl ?_
    refine q_iload hX d_M_vacant_189 rfl ?_
    refine q_iadd hX d_M_vacant_191 ?_
    refine q_iald hX kc_107 d_M_vacant_192 h (fun hi1 h => ?_)
    refine q_iast hX kc_135 qKS_len d_M_vacant_193 h (fun hi2 h => ?_)
    refine q_iinc hX d_M_vacant_194 rfl (ii_1 _) (by decide) rfl rfl ?_
    refine q_goto hX d_M_vacant_197 rfl ?_
    exact q_mask [true, true, false, false, false, true, false, true, true] rfl (hk163 _ _ h)
theorem t_M_vacant_l163 {G : qG} {X : qX} (hX : qOk G X "ChantryRollsModel" prog_14_method_61_code 9 (some .int) 3) {u : Int32 × qMem} {f : Nat} {x1 : Int32} {x5 : Int32} {x7 : Int32} (hT : qTg G X 0 0 qKS qRF u.2 (some (.int u.1))) : ∀ (n : Nat) (σ : qMem) (x8 : Int32), qfix2 (p_M_vacant_l163 f  x1 x5 x7 ) n σ x8 = some u → qV G X 0 0 qKS qRF σ 163 [some (.ref 104), some (.int x1), none, none, none, some (.int x5), none, some (.int x7), some (.int x8)] [] :=
  qfix2_ind (fun k hk _ _ h => t_M_vacant_lb163 hX   hT  hk h)
set_option maxHeartbeats 4000000 in
theorem t_M_vacant_lb76 {G : qG} {X : qX} (hX : qOk G X "ChantryRollsModel" prog_14_method_61_code 9 (some .int) 3) {u : Int32 × qMem} {f : Nat} {σ : qMem} {x1 : Int32} {x2 : Int32} {x5 : Int32} {x7 : Int32} (hT : qTg G X 0 0 qKS qRF u.2 (some (.int u.1))) {k76 : Int32 → Option (Int32 × qMem)} (hk76 : ∀ (x8 : Int32), k76 x8 = some u → qV G X 0 0 qKS qRF σ 76 [some (.ref 104), some (.int x1), some (.int x2), none, none, some (.int x5), none, some (.int x7), some (.int x8)] []) {x8 : Int32} (h : p_M_vacant_l76 f  σ x1 x2 x5 x7  k76 x8 = some u) : qV G X 0 0 qKS qRF σ 76 [some (.ref 104), some (.int x1), some (.int x2), none, none, some (.int x5), none, some (.int x7), some (.int x8)] [] := by
  unfold p_M_vacant_l76 at h
  refine q_iload hX d_M_vacant_76 rfl ?_
  refine q_iload hX d_M_vacant_78 rfl ?_
  refine q_icmp_ge hX d_M_vacant_80 rfl h (fun _ h => ?_) (fun _ h => ?_)
  · refine q_aload_n hX d_M_vacant_140 rfl ?_
    refine q_iconst hX d_M_vacant_141 ic_0 ?_
    refine q_putI hX fl_M_141 kc_104 rfl qKS_len d_M_vacant_142 ?_
    refine q_aload_n hX d_M_vacant_145 rfl ?_
    refine q_getR hX fl_M_95 kc_104 (rfl : qRF 104 47 = some 133) d_M_vacant_146 ?_
    refine q_iload_n hX d_M_vacant_149 rfl ?_
    refine q_iload_n hX d_M_vacant_150 rfl ?_
    refine q_iast hX kc_133 qKS_len d_M_vacant_151 h (fun hi3 h => ?_)
    refine q_aload_n hX d_M_vacant_152 rfl ?_
    refine q_getR hX fl_M_98 kc_104 (rfl : qRF 104 48 = some 134) d_M_vacant_153 ?_
    refine q_iload_n hX d_M_vacant_156 rfl ?_
    refine q_iload hX d_M_vacant_157 rfl ?_
    refine q_iast hX kc_134 qKS_len d_M_vacant_159 h (fun hi4 h => ?_)
    refine q_iconst hX d_M_vacant_160 ic_0 ?_
    refine q_istore hX d_M_vacant_161 (by decide) rfl rfl ?_
    exact q_mask [true, true, false, false, false, true, false, true, true] rfl (t_M_vacant_l163 hX hT f _ _ h)
  · refine q_aload_n hX d_M_vacant_83 rfl ?_
    refine q_getR hX fl_M_16 kc_104 (rfl : qRF 104 4 = some 107) d_M_vacant_84 ?_
    refine q_iload hX d_M_vacant_87 rfl ?_
    refine q_iconst hX d_M_vacant_89 ic_2 ?_
    refine q_iload hX d_M_vacant_90 rfl ?_
    refine q_imul hX d_M_vacant_92 ?_
    refine q_iadd hX d_M_vacant_93 ?_
    refine q_iald hX kc_107 d_M_vacant_94 h (fun hi5 h => ?_)
    refine q_i2l hX d_M_vacant_95 ?_
    refine q_lconst hX d_M_vacant_96 lc_0 ?_
    refine q_ldc2 hX w_1557 d_M_vacant_97 ?_
    obtain ⟨u6, hc7, h⟩ := qbind h
    refine q_cSr hX (c_M_in X.l G hX.ad f _ _ _ _ hc7) cw_M_147 rfl (Nat.le_of_ble_eq_true rfl) rfl (Nat.le_of_ble_eq_true rfl) d_M_vacant_100 ?_
    refine q_if_eq hX d_M_vacant_103 rfl h (fun _ h => ?_) (fun _ h => ?_)
    · refine q_ldc hX w_1298 d_M_vacant_131 ?_
      exact q_iretW hX h hT d_M_vacant_133
    · refine q_aload_n hX d_M_vacant_106 rfl ?_
      refine q_getR hX fl_M_16 kc_104 (rfl : qRF 104 4 = some 107) d_M_vacant_107 ?_
      refine q_iload hX d_M_vacant_110 rfl ?_
      refine q_iconst hX d_M_vacant_112 ic_2 ?_
      refine q_iload hX d_M_vacant_113 rfl ?_
      refine q_imul hX d_M_vacant_115 ?_
      refine q_iadd hX d_M_vacant_116 ?_
      refine q_iconst hX d_M_vacant_117 ic_1 ?_
      refine q_iadd hX d_M_vacant_118 ?_
      refine q_iald hX kc_107 d_M_vacant_119 h (fun hi8 h => ?_)
      refine q_i2l hX d_M_vacant_120 ?_
      refine q_lconst hX d_M_vacant_121 lc_1 ?_
      refine q_ldc2 hX w_1558 d_M_vacant_122 ?_
      obtain ⟨u9, hc10, h⟩ := qbind h
      refine q_cSr hX (c_M_in X.l G hX.ad f _ _ _ _ hc10) cw_M_147 rfl (Nat.le_of_ble_eq_true rfl) rfl (Nat.le_of_ble_eq_true rfl) d_M_vacant_125 ?_
      refine q_if_ne hX d_M_vacant_128 rfl h (fun _ h => ?_) (fun _ h => ?_)
      · refine q_iinc hX d_M_vacant_134 rfl (ii_1 _) (by decide) rfl rfl ?_
        refine q_goto hX d_M_vacant_137 rfl ?_
        exact q_mask [true, true, true, false, false, true, false, true, true] rfl (hk76 _ h)
      · refine q_ldc hX w_1298 d_M_vacant_131 ?_
        exact q_iretW hX h hT d_M_vacant_133
theorem t_M_vacant_l76 {G : qG} {X : qX} (hX : qOk G X "ChantryRollsModel" prog_14_method_61_code 9 (some .int) 3) {u : Int32 × qMem} {f : Nat} {σ : qMem} {x1 : Int32} {x2 : Int32} {x5 : Int32} {x7 : Int32} (hT : qTg G X 0 0 qKS qRF u.2 (some (.int u.1))) : ∀ (n : Nat) (x8 : Int32), qfix1 (p_M_vacant_l76 f  σ x1 x2 x5 x7 ) n x8 = some u → qV G X 0 0 qKS qRF σ 76 [some (.ref 104), some (.int x1), some (.int x2), none, none, some (.int x5), none, some (.int x7), some (.int x8)] [] :=
  qfix1_ind (fun k hk _ h => t_M_vacant_lb76 hX   hT  hk h)
set_option maxHeartbeats 4000000 in
theorem c_M_vacant (l : Launch) (G : qG) (hA : qAd G) (f : Nat) (σ : qMem) (x1 : Int32) (x2 : Int32) (x3 : Int32) (x4 : Int32) (x5 : Int32) {u : Int32 × qMem} (h : p_M_vacant f σ x1 x2 x3 x4 x5 = some u) : qCt l y_M_vacant prog_14_method_61_code 9 (some .int) 3 G qKS qRF σ [(.ref 104), (.int x1), (.int x2), (.int x3), (.int x4), (.int x5)] (some (.int u.1)) qKS qRF u.2 0 0 := by
  refine qCt.of (lv := [some (.ref 104), some (.int x1), some (.int x2), some (.int x3), some (.int x4), some (.int x5), none, none, none]) (by decide) hA (Nat.le_of_ble_eq_true rfl) rfl ?_
  intro X hl _ _ _ hX hT
  subst hl
  unfold p_M_vacant at h
  refine q_aload_n hX d_M_vacant_0 rfl ?_
  refine q_iconst hX d_M_vacant_1 ic_0 ?_
  refine q_putI hX fl_M_137 kc_104 rfl qKS_len d_M_vacant_2 ?_
  refine q_aload_n hX d_M_vacant_5 rfl ?_
  refine q_iload_n hX d_M_vacant_6 rfl ?_
  obtain ⟨u11, hc12, h⟩ := qbind h
  refine q_cVr hX (c_M_isPromise X.l G hX.ad f _ _ hc12) cw_M_265 rfl kc_104 rfl (Nat.le_of_ble_eq_true rfl) rfl (Nat.le_of_ble_eq_true rfl) d_M_vacant_7 ?_
  refine q_if_eq hX d_M_vacant_10 rfl h (fun _ h => ?_) (fun _ h => ?_)
  · refine q_ldc hX w_1298 d_M_vacant_40 ?_
    exact q_iretW hX h hT d_M_vacant_42
  · refine q_iload_n hX d_M_vacant_13 rfl ?_
    obtain ⟨u13, hc14, h⟩ := qbind h
    refine q_cSr hX (c_M_isDay X.l G hX.ad f _ _ hc14) cw_M_274 rfl (Nat.le_of_ble_eq_true rfl) rfl (Nat.le_of_ble_eq_true rfl) d_M_vacant_14 ?_
    refine q_if_eq hX d_M_vacant_17 rfl h (fun _ h => ?_) (fun _ h => ?_)
    · refine q_ldc hX w_1298 d_M_vacant_40 ?_
      exact q_iretW hX h hT d_M_vacant_42
    · refine q_iload_n hX d_M_vacant_20 rfl ?_
      obtain ⟨u15, hc16, h⟩ := qbind h
      refine q_cSr hX (c_M_isSheet X.l G hX.ad f _ _ hc16) cw_M_151 rfl (Nat.le_of_ble_eq_true rfl) rfl (Nat.le_of_ble_eq_true rfl) d_M_vacant_21 ?_
      refine q_if_eq hX d_M_vacant_24 rfl h (fun _ h => ?_) (fun _ h => ?_)
      · refine q_ldc hX w_1298 d_M_vacant_40 ?_
        exact q_iretW hX h hT d_M_vacant_42
      · refine q_iload hX d_M_vacant_27 rfl ?_
        refine q_i2l hX d_M_vacant_29 ?_
        refine q_lconst hX d_M_vacant_30 lc_0 ?_
        refine q_ldc2 hX w_1427 d_M_vacant_31 ?_
        obtain ⟨u17, hc18, h⟩ := qbind h
        refine q_cSr hX (c_M_in X.l G hX.ad f _ _ _ _ hc18) cw_M_147 rfl (Nat.le_of_ble_eq_true rfl) rfl (Nat.le_of_ble_eq_true rfl) d_M_vacant_34 ?_
        refine q_if_ne hX d_M_vacant_37 rfl h (fun _ h => ?_) (fun _ h => ?_)
        · refine q_aload_n hX d_M_vacant_43 rfl ?_
          refine q_iload_n hX d_M_vacant_44 rfl ?_
          refine q_iload hX d_M_vacant_45 rfl ?_
          refine q_iconst hX d_M_vacant_47 ic_2 ?_
          refine q_iload hX d_M_vacant_48 rfl ?_
          refine q_imul hX d_M_vacant_50 ?_
          obtain ⟨u19, hc20, h⟩ := qbind h
          refine q_cVr hX (c_M_lookItems X.l G hX.ad f _ _ _ _ hc20) cw_M_305 rfl kc_104 rfl (Nat.le_of_ble_eq_true rfl) rfl (Nat.le_of_ble_eq_true rfl) d_M_vacant_51 ?_
          refine q_istore hX d_M_vacant_54 (by decide) rfl rfl ?_
          refine q_iload hX d_M_vacant_56 rfl ?_
          refine q_if_ge hX d_M_vacant_58 rfl h (fun _ h => ?_) (fun _ h => ?_)
          · refine q_bipush hX d_M_vacant_64 bp_60 ?_
            refine q_iload_n hX d_M_vacant_66 rfl ?_
            refine q_imul hX d_M_vacant_67 ?_
            refine q_iload hX d_M_vacant_68 rfl ?_
            refine q_iadd hX d_M_vacant_70 ?_
            refine q_istore hX d_M_vacant_71 (by decide) rfl rfl ?_
            refine q_iconst hX d_M_vacant_73 ic_0 ?_
            refine q_istore hX d_M_vacant_74 (by decide) rfl rfl ?_
            exact q_mask [true, true, true, false, false, true, false, true, true] rfl (t_M_vacant_l76 hX hT f _ h)
          · refine q_iload hX d_M_vacant_61 rfl ?_
            exact q_iretW hX h hT d_M_vacant_63
        · refine q_ldc hX w_1298 d_M_vacant_40 ?_
          exact q_iretW hX h hT d_M_vacant_42
set_option maxHeartbeats 4000000 in
theorem t_M_turn_lb59 {G : qG} {X : qX} (hX : qOk G X "ChantryRollsModel" prog_14_method_62_code 5 (some .int) 3) {u : Int32 × qMem} {f : Nat} {σ : qMem} {x1 : Int32} (hT : qTg G X 0 0 qKS qRF u.2 (some (.int u.1))) {k59 : Int32 → Int32 → Option (Int32 × qMem)} (hk59 : ∀ (x3 : Int32) (x4 : Int32), k59 x3 x4 = some u → qV G X 0 0 qKS qRF σ 59 [some (.ref 104), some (.int x1), none, some (.int x3), some (.int x4)] []) {x3 : Int32} {x4 : Int32} (h : p_M_turn_l59 f  σ x1  k59 x3 x4 = some u) : qV G X 0 0 qKS qRF σ 59 [some (.ref 104), some (.int x1), none, some (.int x3), some (.int x4)] [] := by
  unfold p_M_turn_l59 at h
  refine q_iload hX d_M_turn_59 rfl ?_
  refine q_aload_n hX d_M_turn_61 rfl ?_
  refine q_getR hX fl_M_98 kc_104 (rfl : qRF 104 48 = some 134) d_M_turn_62 ?_
  refine q_iload_n hX d_M_turn_65 rfl ?_
  refine q_iald hX kc_134 d_M_turn_66 h (fun hi1 h => ?_)
  refine q_icmp_ge hX d_M_turn_67 rfl h (fun _ h => ?_) (fun _ h => ?_)
  · refine q_bipush hX d_M_turn_114 bp_10 ?_
    exact q_iretW hX h hT d_M_turn_116
  · refine q_iload_n hX d_M_turn_70 rfl ?_
    refine q_aload_n hX d_M_turn_71 rfl ?_
    refine q_getR hX fl_M_101 kc_104 (rfl : qRF 104 49 = some 135) d_M_turn_72 ?_
    refine q_bipush hX d_M_turn_75 bp_8 ?_
    refine q_iload_n hX d_M_turn_77 rfl ?_
    refine q_imul hX d_M_turn_78 ?_
    refine q_iconst hX d_M_turn_79 ic_2 ?_
    refine q_iload hX d_M_turn_80 rfl ?_
    refine q_imul hX d_M_turn_82 ?_
    refine q_iadd hX d_M_turn_83 ?_
    refine q_iconst hX d_M_turn_84 ic_1 ?_
    refine q_iadd hX d_M_turn_85 ?_
    refine q_iald hX kc_135 d_M_turn_86 h (fun hi2 h => ?_)
    refine q_isub hX d_M_turn_87 ?_
    refine q_istore_n hX d_M_turn_88 (by decide) rfl rfl ?_
    refine q_iload_n hX d_M_turn_89 rfl ?_
    refine q_if_ge hX d_M_turn_90 rfl h (fun _ h => ?_) (fun _ h => ?_)
    · refine q_iinc hX d_M_turn_108 rfl (ii_1 _) (by decide) rfl rfl ?_
      refine q_goto hX d_M_turn_111 rfl ?_
      exact q_mask [true, true, false, true, true] rfl (hk59 _ _ h)
    · refine q_aload_n hX d_M_turn_93 rfl ?_
      refine q_getR hX fl_M_101 kc_104 (rfl : qRF 104 49 = some 135) d_M_turn_94 ?_
      refine q_bipush hX d_M_turn_97 bp_8 ?_
      refine q_iload_n hX d_M_turn_99 rfl ?_
      refine q_imul hX d_M_turn_100 ?_
      refine q_iconst hX d_M_turn_101 ic_2 ?_
      refine q_iload hX d_M_turn_102 rfl ?_
      refine q_imul hX d_M_turn_104 ?_
      refine q_iadd hX d_M_turn_105 ?_
      refine q_iald hX kc_135 d_M_turn_106 h (fun hi3 h => ?_)
      exact q_iretW hX h hT d_M_turn_107
theorem t_M_turn_l59 {G : qG} {X : qX} (hX : qOk G X "ChantryRollsModel" prog_14_method_62_code 5 (some .int) 3) {u : Int32 × qMem} {f : Nat} {σ : qMem} {x1 : Int32} (hT : qTg G X 0 0 qKS qRF u.2 (some (.int u.1))) : ∀ (n : Nat) (x3 : Int32) (x4 : Int32), qfix2 (p_M_turn_l59 f  σ x1 ) n x3 x4 = some u → qV G X 0 0 qKS qRF σ 59 [some (.ref 104), some (.int x1), none, some (.int x3), some (.int x4)] [] :=
  qfix2_ind (fun k hk _ _ h => t_M_turn_lb59 hX   hT  hk h)
set_option maxHeartbeats 4000000 in
theorem c_M_turn (l : Launch) (G : qG) (hA : qAd G) (f : Nat) (σ : qMem) (x1 : Int32) (x2 : Int32) {u : Int32 × qMem} (h : p_M_turn f σ x1 x2 = some u) : qCt l y_M_turn prog_14_method_62_code 5 (some .int) 3 G qKS qRF σ [(.ref 104), (.int x1), (.int x2)] (some (.int u.1)) qKS qRF u.2 0 0 := by
  refine qCt.of (lv := [some (.ref 104), some (.int x1), some (.int x2), none, none]) (by decide) hA (Nat.le_of_ble_eq_true rfl) rfl ?_
  intro X hl _ _ _ hX hT
  subst hl
  unfold p_M_turn at h
  refine q_aload_n hX d_M_turn_0 rfl ?_
  refine q_iconst hX d_M_turn_1 ic_0 ?_
  refine q_putI hX fl_M_137 kc_104 rfl qKS_len d_M_turn_2 ?_
  refine q_aload_n hX d_M_turn_5 rfl ?_
  refine q_iload_n hX d_M_turn_6 rfl ?_
  obtain ⟨u4, hc5, h⟩ := qbind h
  refine q_cVr hX (c_M_isPromise X.l G hX.ad f _ _ hc5) cw_M_265 rfl kc_104 rfl (Nat.le_of_ble_eq_true rfl) rfl (Nat.le_of_ble_eq_true rfl) d_M_turn_7 ?_
  refine q_if_eq hX d_M_turn_10 rfl h (fun _ h => ?_) (fun _ h => ?_)
  · refine q_ldc hX w_1298 d_M_turn_20 ?_
    exact q_iretW hX h hT d_M_turn_22
  · refine q_iload_n hX d_M_turn_13 rfl ?_
    obtain ⟨u6, hc7, h⟩ := qbind h
    refine q_cSr hX (c_M_isDay X.l G hX.ad f _ _ hc7) cw_M_274 rfl (Nat.le_of_ble_eq_true rfl) rfl (Nat.le_of_ble_eq_true rfl) d_M_turn_14 ?_
    refine q_if_ne hX d_M_turn_17 rfl h (fun _ h => ?_) (fun _ h => ?_)
    · refine q_aload_n hX d_M_turn_23 rfl ?_
      refine q_getR hX fl_M_95 kc_104 (rfl : qRF 104 47 = some 133) d_M_turn_24 ?_
      refine q_iload_n hX d_M_turn_27 rfl ?_
      refine q_iald hX kc_133 d_M_turn_28 h (fun hi8 h => ?_)
      refine q_ldc hX w_1335 d_M_turn_29 ?_
      refine q_icmp_eq hX d_M_turn_31 rfl h (fun _ h => ?_) (fun _ h => ?_)
      · refine q_ldc hX w_1335 d_M_turn_44 ?_
        exact q_iretW hX h hT d_M_turn_46
      · refine q_iload_n hX d_M_turn_34 rfl ?_
        refine q_aload_n hX d_M_turn_35 rfl ?_
        refine q_getR hX fl_M_95 kc_104 (rfl : qRF 104 47 = some 133) d_M_turn_36 ?_
        refine q_iload_n hX d_M_turn_39 rfl ?_
        refine q_iald hX kc_133 d_M_turn_40 h (fun hi9 h => ?_)
        refine q_icmp_ge hX d_M_turn_41 rfl h (fun _ h => ?_) (fun _ h => ?_)
        · refine q_iload_n hX d_M_turn_47 rfl ?_
          refine q_aload_n hX d_M_turn_48 rfl ?_
          refine q_getR hX fl_M_95 kc_104 (rfl : qRF 104 47 = some 133) d_M_turn_49 ?_
          refine q_iload_n hX d_M_turn_52 rfl ?_
          refine q_iald hX kc_133 d_M_turn_53 h (fun hi10 h => ?_)
          refine q_isub hX d_M_turn_54 ?_
          refine q_istore_n hX d_M_turn_55 (by decide) rfl rfl ?_
          refine q_iconst hX d_M_turn_56 ic_0 ?_
          refine q_istore hX d_M_turn_57 (by decide) rfl rfl ?_
          exact q_mask [true, true, false, true, true] rfl (t_M_turn_l59 hX hT f _ _ h)
        · refine q_ldc hX w_1335 d_M_turn_44 ?_
          exact q_iretW hX h hT d_M_turn_46
    · refine q_ldc hX w_1298 d_M_turn_20 ?_
      exact q_iretW hX h hT d_M_turn_22
set_option maxHeartbeats 4000000 in
theorem c_M_act (l : Launch) (G : qG) (hA : qAd G) (f : Nat) (σ : qMem) (x1 : Int32) (x2 : Int32) (x3 : Int32) (x4 : Int32) {u : Int32 × qMem} (h : p_M_act f σ x1 x2 x3 x4 = some u) : qCt l y_M_act prog_14_method_63_code 5 (some .int) 3 G qKS qRF σ [(.ref 104), (.int x1), (.int x2), (.int x3), (.int x4)] (some (.int u.1)) qKS qRF u.2 0 0 := by
  refine qCt.of (lv := [some (.ref 104), some (.int x1), some (.int x2), some (.int x3), some (.int x4)]) (by decide) hA (Nat.le_of_ble_eq_true rfl) rfl ?_
  intro X hl _ _ _ hX hT
  subst hl
  unfold p_M_act at h
  refine q_aload_n hX d_M_act_0 rfl ?_
  refine q_iconst hX d_M_act_1 ic_0 ?_
  refine q_putI hX fl_M_137 kc_104 rfl qKS_len d_M_act_2 ?_
  refine q_iload_n hX d_M_act_5 rfl ?_
  obtain ⟨u1, hc2, h⟩ := qbind h
  refine q_cSr hX (c_M_isDay X.l G hX.ad f _ _ hc2) cw_M_274 rfl (Nat.le_of_ble_eq_true rfl) rfl (Nat.le_of_ble_eq_true rfl) d_M_act_6 ?_
  refine q_if_eq hX d_M_act_9 rfl h (fun _ h => ?_) (fun _ h => ?_)
  · refine q_ldc hX w_1298 d_M_act_48 ?_
    exact q_iretW hX h hT d_M_act_50
  · refine q_iload_n hX d_M_act_12 rfl ?_
    refine q_i2l hX d_M_act_13 ?_
    refine q_lconst hX d_M_act_14 lc_0 ?_
    refine q_ldc2 hX w_1548 d_M_act_15 ?_
    obtain ⟨u3, hc4, h⟩ := qbind h
    refine q_cSr hX (c_M_in X.l G hX.ad f _ _ _ _ hc4) cw_M_147 rfl (Nat.le_of_ble_eq_true rfl) rfl (Nat.le_of_ble_eq_true rfl) d_M_act_18 ?_
    refine q_if_eq hX d_M_act_21 rfl h (fun _ h => ?_) (fun _ h => ?_)
    · refine q_ldc hX w_1298 d_M_act_48 ?_
      exact q_iretW hX h hT d_M_act_50
    · refine q_iload_n hX d_M_act_24 rfl ?_
      refine q_i2l hX d_M_act_25 ?_
      refine q_iload_n hX d_M_act_26 rfl ?_
      refine q_i2l hX d_M_act_27 ?_
      refine q_ldc2 hX w_1548 d_M_act_28 ?_
      obtain ⟨u5, hc6, h⟩ := qbind h
      refine q_cSr hX (c_M_in X.l G hX.ad f _ _ _ _ hc6) cw_M_147 rfl (Nat.le_of_ble_eq_true rfl) rfl (Nat.le_of_ble_eq_true rfl) d_M_act_31 ?_
      refine q_if_eq hX d_M_act_34 rfl h (fun _ h => ?_) (fun _ h => ?_)
      · refine q_ldc hX w_1298 d_M_act_48 ?_
        exact q_iretW hX h hT d_M_act_50
      · refine q_iload hX d_M_act_37 rfl ?_
        refine q_i2l hX d_M_act_39 ?_
        refine q_lconst hX d_M_act_40 lc_0 ?_
        refine q_lconst hX d_M_act_41 lc_1 ?_
        obtain ⟨u7, hc8, h⟩ := qbind h
        refine q_cSr hX (c_M_in X.l G hX.ad f _ _ _ _ hc8) cw_M_147 rfl (Nat.le_of_ble_eq_true rfl) rfl (Nat.le_of_ble_eq_true rfl) d_M_act_42 ?_
        refine q_if_ne hX d_M_act_45 rfl h (fun _ h => ?_) (fun _ h => ?_)
        · refine q_aload_n hX d_M_act_51 rfl ?_
          refine q_getI hX fl_M_369 kc_104 d_M_act_52 ?_
          refine q_bipush hX d_M_act_55 bp_10 ?_
          refine q_icmp_ne hX d_M_act_57 rfl h (fun _ h => ?_) (fun _ h => ?_)
          · refine q_aload_n hX d_M_act_63 rfl ?_
            refine q_getR hX fl_M_104 kc_104 (rfl : qRF 104 51 = some 136) d_M_act_64 ?_
            refine q_aload_n hX d_M_act_67 rfl ?_
            refine q_getI hX fl_M_369 kc_104 d_M_act_68 ?_
            refine q_iload_n hX d_M_act_71 rfl ?_
            refine q_iast hX kc_136 qKS_len d_M_act_72 h (fun hi9 h => ?_)
            refine q_aload_n hX d_M_act_73 rfl ?_
            refine q_getR hX fl_M_107 kc_104 (rfl : qRF 104 52 = some 137) d_M_act_74 ?_
            refine q_aload_n hX d_M_act_77 rfl ?_
            refine q_getI hX fl_M_369 kc_104 d_M_act_78 ?_
            refine q_iload_n hX d_M_act_81 rfl ?_
            refine q_iast hX kc_137 qKS_len d_M_act_82 h (fun hi10 h => ?_)
            refine q_aload_n hX d_M_act_83 rfl ?_
            refine q_getR hX fl_M_110 kc_104 (rfl : qRF 104 53 = some 138) d_M_act_84 ?_
            refine q_aload_n hX d_M_act_87 rfl ?_
            refine q_getI hX fl_M_369 kc_104 d_M_act_88 ?_
            refine q_iload_n hX d_M_act_91 rfl ?_
            refine q_iast hX kc_138 qKS_len d_M_act_92 h (fun hi11 h => ?_)
            refine q_aload_n hX d_M_act_93 rfl ?_
            refine q_getR hX fl_M_113 kc_104 (rfl : qRF 104 54 = some 139) d_M_act_94 ?_
            refine q_aload_n hX d_M_act_97 rfl ?_
            refine q_getI hX fl_M_369 kc_104 d_M_act_98 ?_
            refine q_iload hX d_M_act_101 rfl ?_
            refine q_iast hX kc_139 qKS_len d_M_act_103 h (fun hi12 h => ?_)
            refine q_aload_n hX d_M_act_104 rfl ?_
            refine q_dup hX rfl d_M_act_105 ?_
            refine q_getI hX fl_M_369 kc_104 d_M_act_106 ?_
            refine q_iconst hX d_M_act_109 ic_1 ?_
            refine q_iadd hX d_M_act_110 ?_
            refine q_putI hX fl_M_369 kc_104 rfl qKS_len d_M_act_111 ?_
            refine q_aload_n hX d_M_act_114 rfl ?_
            refine q_getI hX fl_M_369 kc_104 d_M_act_115 ?_
            exact q_iretW hX h hT d_M_act_118
          · refine q_ldc hX w_1321 d_M_act_60 ?_
            exact q_iretW hX h hT d_M_act_62
        · refine q_ldc hX w_1298 d_M_act_48 ?_
          exact q_iretW hX h hT d_M_act_50
set_option maxHeartbeats 4000000 in
theorem c_M_taken (l : Launch) (G : qG) (hA : qAd G) (f : Nat) (σ : qMem) (x1 : Int32) {u : Int32 × qMem} (h : p_M_taken f σ x1 = some u) : qCt l y_M_taken prog_14_method_67_code 2 (some .int) 3 G qKS qRF σ [(.ref 104), (.int x1)] (some (.int u.1)) qKS qRF u.2 0 0 := by
  refine qCt.of (lv := [some (.ref 104), some (.int x1)]) (by decide) hA (Nat.le_of_ble_eq_true rfl) rfl ?_
  intro X hl _ _ _ hX hT
  subst hl
  unfold p_M_taken at h
  refine q_aload_n hX d_M_taken_0 rfl ?_
  refine q_iconst hX d_M_taken_1 ic_0 ?_
  refine q_putI hX fl_M_137 kc_104 rfl qKS_len d_M_taken_2 ?_
  refine q_aload_n hX d_M_taken_5 rfl ?_
  refine q_iload_n hX d_M_taken_6 rfl ?_
  obtain ⟨u1, hc2, h⟩ := qbind h
  refine q_cVr hX (c_M_isPromise X.l G hX.ad f _ _ hc2) cw_M_265 rfl kc_104 rfl (Nat.le_of_ble_eq_true rfl) rfl (Nat.le_of_ble_eq_true rfl) d_M_taken_7 ?_
  refine q_if_eq hX d_M_taken_10 rfl h (fun _ h => ?_) (fun _ h => ?_)
  · refine q_ldc hX w_1298 d_M_taken_21 ?_
    exact q_iretW hX h hT d_M_taken_23
  · refine q_aload_n hX d_M_taken_13 rfl ?_
    refine q_iload_n hX d_M_taken_14 rfl ?_
    obtain ⟨u3, hc4, h⟩ := qbind h
    refine q_cVr hX (c_M_takenOn X.l G hX.ad f _ _ hc4) cw_M_372 rfl kc_104 rfl (Nat.le_of_ble_eq_true rfl) rfl (Nat.le_of_ble_eq_true rfl) d_M_taken_15 ?_
    refine q_goto hX d_M_taken_18 rfl ?_
    exact q_iretW hX h hT d_M_taken_23
set_option maxHeartbeats 4000000 in
theorem t_M_pension_b86 {G : qG} {X : qX} (hX : qOk G X "ChantryRollsModel" prog_14_method_68_code 6 (some .int) 4) {u : Int32 × qMem} {f : Nat} {k27 : Int32 → Int32 → Option (Int32 × qMem)} {σ : qMem} {x1 : Int32} {x2 : Int32} {x4 : Int32} {s0 : Int32} {s2 : Int32} {s3 : Int32} (hT : qTg G X 0 0 qKS qRF u.2 (some (.int u.1))) (hk27 : ∀ (x3 : Int32) (x4 : Int32), k27 x3 x4 = some u → qV G X 0 0 qKS qRF σ 27 [some (.ref 104), some (.int x1), some (.int x2), some (.int x3), some (.int x4), none] []) (h : p_M_pension_b86 f   k27 σ x1 x2 x4 s0 s2 s3 = some u) : qV G X 0 0 qKS qRF σ 86 [some (.ref 104), some (.int x1), some (.int x2), none, some (.int x4), none] [(.int s3), (.int s2), (.ref 104), (.int s0)] := by
  unfold p_M_pension_b86 at h
  obtain ⟨u1, hc2, h⟩ := qbind h
  refine q_cVr hX (c_M_comesTo X.l G hX.ad f _ _ _ hc2) cw_M_360 rfl kc_104 rfl (Nat.le_of_ble_eq_true rfl) rfl (Nat.le_of_ble_eq_true rfl) d_M_pension_86 ?_
  refine q_iconst hX d_M_pension_89 ic_2 ?_
  refine q_idiv hX d_M_pension_90 (by decide) ?_
  refine q_iadd hX d_M_pension_91 ?_
  refine q_istore_n hX d_M_pension_92 (by decide) rfl rfl ?_
  refine q_iinc hX d_M_pension_93 rfl (ii_1 _) (by decide) rfl rfl ?_
  refine q_goto hX d_M_pension_96 rfl ?_
  exact q_mask [true, true, true, true, true, false] rfl (hk27 _ _ h)
set_option maxHeartbeats 4000000 in
theorem t_M_pension_lb27 {G : qG} {X : qX} (hX : qOk G X "ChantryRollsModel" prog_14_method_68_code 6 (some .int) 4) {u : Int32 × qMem} {f : Nat} {σ : qMem} {x1 : Int32} {x2 : Int32} (hT : qTg G X 0 0 qKS qRF u.2 (some (.int u.1))) {k27 : Int32 → Int32 → Option (Int32 × qMem)} (hk27 : ∀ (x3 : Int32) (x4 : Int32), k27 x3 x4 = some u → qV G X 0 0 qKS qRF σ 27 [some (.ref 104), some (.int x1), some (.int x2), some (.int x3), some (.int x4), none] []) {x3 : Int32} {x4 : Int32} (h : p_M_pension_l27 f  σ x1 x2  k27 x3 x4 = some u) : qV G X 0 0 qKS qRF σ 27 [some (.ref 104), some (.int x1), some (.int x2), some (.int x3), some (.int x4), none] [] := by
  unfold p_M_pension_l27 at h
  refine q_iload hX d_M_pension_27 rfl ?_
  refine q_aload_n hX d_M_pension_29 rfl ?_
  refine q_getI hX fl_M_162 kc_104 d_M_pension_30 ?_
  refine q_icmp_ge hX d_M_pension_33 rfl h (fun _ h => ?_) (fun _ h => ?_)
  · refine q_iload_n hX d_M_pension_99 rfl ?_
    refine q_sipush hX d_M_pension_100 sp_200 ?_
    refine q_icmp_le hX d_M_pension_103 rfl h (fun _ h => ?_) (fun _ h => ?_)
    · refine q_iload_n hX d_M_pension_112 rfl ?_
      exact q_iretW hX h hT d_M_pension_113
    · refine q_sipush hX d_M_pension_106 sp_200 ?_
      refine q_goto hX d_M_pension_109 rfl ?_
      exact q_iretW hX h hT d_M_pension_113
  · refine q_aload_n hX d_M_pension_36 rfl ?_
    refine q_iload hX d_M_pension_37 rfl ?_
    refine q_iconst hX d_M_pension_39 ic_3 ?_
    obtain ⟨u3, hc4, h⟩ := qbind h
    refine q_cVr hX (c_M_of X.l G hX.ad f _ _ _ hc4) cw_M_270 rfl kc_104 rfl (Nat.le_of_ble_eq_true rfl) rfl (Nat.le_of_ble_eq_true rfl) d_M_pension_40 ?_
    refine q_iload_n hX d_M_pension_43 rfl ?_
    refine q_icmp_ne hX d_M_pension_44 rfl h (fun _ h => ?_) (fun _ h => ?_)
    · refine q_iinc hX d_M_pension_93 rfl (ii_1 _) (by decide) rfl rfl ?_
      refine q_goto hX d_M_pension_96 rfl ?_
      exact q_mask [true, true, true, true, true, false] rfl (hk27 _ _ h)
    · refine q_aload_n hX d_M_pension_47 rfl ?_
      refine q_iload hX d_M_pension_48 rfl ?_
      refine q_iload_n hX d_M_pension_50 rfl ?_
      obtain ⟨u5, hc6, h⟩ := qbind h
      refine q_cVr hX (c_M_isTaken X.l G hX.ad f _ _ _ hc6) cw_M_375 rfl kc_104 rfl (Nat.le_of_ble_eq_true rfl) rfl (Nat.le_of_ble_eq_true rfl) d_M_pension_51 ?_
      refine q_if_eq hX d_M_pension_54 rfl h (fun _ h => ?_) (fun _ h => ?_)
      · refine q_iinc hX d_M_pension_93 rfl (ii_1 _) (by decide) rfl rfl ?_
        refine q_goto hX d_M_pension_96 rfl ?_
        exact q_mask [true, true, true, true, true, false] rfl (hk27 _ _ h)
      · refine q_aload_n hX d_M_pension_57 rfl ?_
        refine q_iload hX d_M_pension_58 rfl ?_
        obtain ⟨u7, hc8, h⟩ := qbind h
        refine q_cVr hX (c_M_takenOn X.l G hX.ad f _ _ hc8) cw_M_372 rfl kc_104 rfl (Nat.le_of_ble_eq_true rfl) rfl (Nat.le_of_ble_eq_true rfl) d_M_pension_60 ?_
        refine q_sipush hX d_M_pension_63 sp_360 ?_
        refine q_idiv hX d_M_pension_66 (by decide) ?_
        refine q_istore hX d_M_pension_67 (by decide) rfl rfl ?_
        refine q_iload_n hX d_M_pension_69 rfl ?_
        refine q_aload_n hX d_M_pension_70 rfl ?_
        refine q_iload hX d_M_pension_71 rfl ?_
        refine q_iload hX d_M_pension_73 rfl ?_
        refine q_if_ne hX d_M_pension_75 rfl h (fun _ h => ?_) (fun _ h => ?_)
        · refine q_iload hX d_M_pension_82 rfl ?_
          refine q_iconst hX d_M_pension_84 ic_1 ?_
          refine q_isub hX d_M_pension_85 ?_
          exact q_mask [true, true, true, false, true, false] rfl (t_M_pension_b86 hX hT hk27 h)
        · refine q_iconst hX d_M_pension_78 ic_0 ?_
          refine q_goto hX d_M_pension_79 rfl ?_
          exact q_mask [true, true, true, false, true, false] rfl (t_M_pension_b86 hX hT hk27 h)
theorem t_M_pension_l27 {G : qG} {X : qX} (hX : qOk G X "ChantryRollsModel" prog_14_method_68_code 6 (some .int) 4) {u : Int32 × qMem} {f : Nat} {σ : qMem} {x1 : Int32} {x2 : Int32} (hT : qTg G X 0 0 qKS qRF u.2 (some (.int u.1))) : ∀ (n : Nat) (x3 : Int32) (x4 : Int32), qfix2 (p_M_pension_l27 f  σ x1 x2 ) n x3 x4 = some u → qV G X 0 0 qKS qRF σ 27 [some (.ref 104), some (.int x1), some (.int x2), some (.int x3), some (.int x4), none] [] :=
  qfix2_ind (fun k hk _ _ h => t_M_pension_lb27 hX   hT  hk h)
set_option maxHeartbeats 4000000 in
theorem c_M_pension (l : Launch) (G : qG) (hA : qAd G) (f : Nat) (σ : qMem) (x1 : Int32) (x2 : Int32) {u : Int32 × qMem} (h : p_M_pension f σ x1 x2 = some u) : qCt l y_M_pension prog_14_method_68_code 6 (some .int) 4 G qKS qRF σ [(.ref 104), (.int x1), (.int x2)] (some (.int u.1)) qKS qRF u.2 0 0 := by
  refine qCt.of (lv := [some (.ref 104), some (.int x1), some (.int x2), none, none, none]) (by decide) hA (Nat.le_of_ble_eq_true rfl) rfl ?_
  intro X hl _ _ _ hX hT
  subst hl
  unfold p_M_pension at h
  refine q_aload_n hX d_M_pension_0 rfl ?_
  refine q_iconst hX d_M_pension_1 ic_0 ?_
  refine q_putI hX fl_M_137 kc_104 rfl qKS_len d_M_pension_2 ?_
  refine q_iload_n hX d_M_pension_5 rfl ?_
  obtain ⟨u9, hc10, h⟩ := qbind h
  refine q_cSr hX (c_M_isPriest X.l G hX.ad f _ _ hc10) cw_M_286 rfl (Nat.le_of_ble_eq_true rfl) rfl (Nat.le_of_ble_eq_true rfl) d_M_pension_6 ?_
  refine q_if_eq hX d_M_pension_9 rfl h (fun _ h => ?_) (fun _ h => ?_)
  · refine q_ldc hX w_1298 d_M_pension_19 ?_
    exact q_iretW hX h hT d_M_pension_21
  · refine q_iload_n hX d_M_pension_12 rfl ?_
    obtain ⟨u11, hc12, h⟩ := qbind h
    refine q_cSr hX (c_M_isDay X.l G hX.ad f _ _ hc12) cw_M_274 rfl (Nat.le_of_ble_eq_true rfl) rfl (Nat.le_of_ble_eq_true rfl) d_M_pension_13 ?_
    refine q_if_ne hX d_M_pension_16 rfl h (fun _ h => ?_) (fun _ h => ?_)
    · refine q_iconst hX d_M_pension_22 ic_0 ?_
      refine q_istore_n hX d_M_pension_23 (by decide) rfl rfl ?_
      refine q_iconst hX d_M_pension_24 ic_0 ?_
      refine q_istore hX d_M_pension_25 (by decide) rfl rfl ?_
      exact q_mask [true, true, true, true, true, false] rfl (t_M_pension_l27 hX hT f _ _ h)
    · refine q_ldc hX w_1298 d_M_pension_19 ?_
      exact q_iretW hX h hT d_M_pension_21
set_option maxHeartbeats 4000000 in
theorem c_M_bid (l : Launch) (G : qG) (hA : qAd G) (f : Nat) (σ : qMem) (x1 : Int32) (x2 : Int32) (x3 : Int32) {u : Int32 × qMem} (h : p_M_bid f σ x1 x2 x3 = some u) : qCt l y_M_bid prog_14_method_69_code 4 (some .int) 3 G qKS qRF σ [(.ref 104), (.int x1), (.int x2), (.int x3)] (some (.int u.1)) qKS qRF u.2 0 0 := by
  refine qCt.of (lv := [some (.ref 104), some (.int x1), some (.int x2), some (.int x3)]) (by decide) hA (Nat.le_of_ble_eq_true rfl) rfl ?_
  intro X hl _ _ _ hX hT
  subst hl
  unfold p_M_bid at h
  refine q_aload_n hX d_M_bid_0 rfl ?_
  refine q_iconst hX d_M_bid_1 ic_0 ?_
  refine q_putI hX fl_M_137 kc_104 rfl qKS_len d_M_bid_2 ?_
  refine q_iload_n hX d_M_bid_5 rfl ?_
  obtain ⟨u1, hc2, h⟩ := qbind h
  refine q_cSr hX (c_M_isHouse X.l G hX.ad f _ _ hc2) cw_M_341 rfl (Nat.le_of_ble_eq_true rfl) rfl (Nat.le_of_ble_eq_true rfl) d_M_bid_6 ?_
  refine q_if_eq hX d_M_bid_9 rfl h (fun _ h => ?_) (fun _ h => ?_)
  · refine q_ldc hX w_1298 d_M_bid_36 ?_
    exact q_iretW hX h hT d_M_bid_38
  · refine q_iload_n hX d_M_bid_12 rfl ?_
    refine q_i2l hX d_M_bid_13 ?_
    refine q_lconst hX d_M_bid_14 lc_0 ?_
    refine q_ldc2 hX w_1557 d_M_bid_15 ?_
    obtain ⟨u3, hc4, h⟩ := qbind h
    refine q_cSr hX (c_M_in X.l G hX.ad f _ _ _ _ hc4) cw_M_147 rfl (Nat.le_of_ble_eq_true rfl) rfl (Nat.le_of_ble_eq_true rfl) d_M_bid_18 ?_
    refine q_if_eq hX d_M_bid_21 rfl h (fun _ h => ?_) (fun _ h => ?_)
    · refine q_ldc hX w_1298 d_M_bid_36 ?_
      exact q_iretW hX h hT d_M_bid_38
    · refine q_iload_n hX d_M_bid_24 rfl ?_
      refine q_i2l hX d_M_bid_25 ?_
      refine q_lconst hX d_M_bid_26 lc_1 ?_
      refine q_ldc2 hX w_1579 d_M_bid_27 ?_
      obtain ⟨u5, hc6, h⟩ := qbind h
      refine q_cSr hX (c_M_in X.l G hX.ad f _ _ _ _ hc6) cw_M_147 rfl (Nat.le_of_ble_eq_true rfl) rfl (Nat.le_of_ble_eq_true rfl) d_M_bid_30 ?_
      refine q_if_ne hX d_M_bid_33 rfl h (fun _ h => ?_) (fun _ h => ?_)
      · refine q_aload_n hX d_M_bid_39 rfl ?_
        refine q_getI hX fl_M_380 kc_104 d_M_bid_40 ?_
        refine q_bipush hX d_M_bid_43 bp_20 ?_
        refine q_icmp_ne hX d_M_bid_45 rfl h (fun _ h => ?_) (fun _ h => ?_)
        · refine q_aload_n hX d_M_bid_51 rfl ?_
          refine q_getR hX fl_M_116 kc_104 (rfl : qRF 104 56 = some 140) d_M_bid_52 ?_
          refine q_aload_n hX d_M_bid_55 rfl ?_
          refine q_getI hX fl_M_380 kc_104 d_M_bid_56 ?_
          refine q_iload_n hX d_M_bid_59 rfl ?_
          refine q_iast hX kc_140 qKS_len d_M_bid_60 h (fun hi7 h => ?_)
          refine q_aload_n hX d_M_bid_61 rfl ?_
          refine q_getR hX fl_M_119 kc_104 (rfl : qRF 104 57 = some 141) d_M_bid_62 ?_
          refine q_aload_n hX d_M_bid_65 rfl ?_
          refine q_getI hX fl_M_380 kc_104 d_M_bid_66 ?_
          refine q_iload_n hX d_M_bid_69 rfl ?_
          refine q_iast hX kc_141 qKS_len d_M_bid_70 h (fun hi8 h => ?_)
          refine q_aload_n hX d_M_bid_71 rfl ?_
          refine q_getR hX fl_M_122 kc_104 (rfl : qRF 104 58 = some 142) d_M_bid_72 ?_
          refine q_aload_n hX d_M_bid_75 rfl ?_
          refine q_getI hX fl_M_380 kc_104 d_M_bid_76 ?_
          refine q_iload_n hX d_M_bid_79 rfl ?_
          refine q_iast hX kc_142 qKS_len d_M_bid_80 h (fun hi9 h => ?_)
          refine q_aload_n hX d_M_bid_81 rfl ?_
          refine q_dup hX rfl d_M_bid_82 ?_
          refine q_getI hX fl_M_380 kc_104 d_M_bid_83 ?_
          refine q_iconst hX d_M_bid_86 ic_1 ?_
          refine q_iadd hX d_M_bid_87 ?_
          refine q_putI hX fl_M_380 kc_104 rfl qKS_len d_M_bid_88 ?_
          refine q_aload_n hX d_M_bid_91 rfl ?_
          refine q_getI hX fl_M_380 kc_104 d_M_bid_92 ?_
          exact q_iretW hX h hT d_M_bid_95
        · refine q_ldc hX w_1321 d_M_bid_48 ?_
          exact q_iretW hX h hT d_M_bid_50
      · refine q_ldc hX w_1298 d_M_bid_36 ?_
        exact q_iretW hX h hT d_M_bid_38
set_option maxHeartbeats 4000000 in
theorem t_M_sold_b60 {G : qG} {X : qX} (hX : qOk G X "ChantryRollsModel" prog_14_method_70_code 7 (some .int) 4) {u : Int32 × qMem} {f : Nat} {k30 : Int32 → Int32 → Int32 → Option (Int32 × qMem)} {σ : qMem} {x1 : Int32} {x2 : Int32} {x4 : Int32} {x5 : Int32} {s0 : Int32} (hT : qTg G X 0 0 qKS qRF u.2 (some (.int u.1))) (hk30 : ∀ (x3 : Int32) (x4 : Int32) (x5 : Int32), k30 x3 x4 x5 = some u → qV G X 0 0 qKS qRF σ 30 [some (.ref 104), some (.int x1), some (.int x2), some (.int x3), some (.int x4), some (.int x5), none] []) (h : p_M_sold_b60 f   k30 σ x1 x2 x4 x5 s0 = some u) : qV G X 0 0 qKS qRF σ 60 [some (.ref 104), some (.int x1), some (.int x2), none, some (.int x4), some (.int x5), none] [(.int s0)] := by
  unfold p_M_sold_b60 at h
  refine q_istore_n hX d_M_sold_60 (by decide) rfl rfl ?_
  refine q_iload hX d_M_sold_61 rfl ?_
  refine q_if_eq hX d_M_sold_63 rfl h (fun _ h => ?_) (fun _ h => ?_)
  · refine q_iconst hX d_M_sold_92 ic_0 ?_
    refine q_istore hX d_M_sold_93 (by decide) rfl rfl ?_
    refine q_iinc hX d_M_sold_95 rfl (ii_1 _) (by decide) rfl rfl ?_
    refine q_goto hX d_M_sold_98 rfl ?_
    exact q_mask [true, true, true, true, true, true, false] rfl (hk30 _ _ _ h)
  · refine q_aload_n hX d_M_sold_66 rfl ?_
    refine q_iload hX d_M_sold_67 rfl ?_
    refine q_bipush hX d_M_sold_69 bp_7 ?_
    obtain ⟨u1, hc2, h⟩ := qbind h
    refine q_cVr hX (c_M_of X.l G hX.ad f _ _ _ hc2) cw_M_270 rfl kc_104 rfl (Nat.le_of_ble_eq_true rfl) rfl (Nat.le_of_ble_eq_true rfl) d_M_sold_71 ?_
    refine q_iload_n hX d_M_sold_74 rfl ?_
    refine q_icmp_ne hX d_M_sold_75 rfl h (fun _ h => ?_) (fun _ h => ?_)
    · refine q_iconst hX d_M_sold_88 ic_1 ?_
      refine q_goto hX d_M_sold_89 rfl ?_
      refine q_istore hX d_M_sold_93 (by decide) rfl rfl ?_
      refine q_iinc hX d_M_sold_95 rfl (ii_1 _) (by decide) rfl rfl ?_
      refine q_goto hX d_M_sold_98 rfl ?_
      exact q_mask [true, true, true, true, true, true, false] rfl (hk30 _ _ _ h)
    · refine q_aload_n hX d_M_sold_78 rfl ?_
      refine q_iload hX d_M_sold_79 rfl ?_
      refine q_iload_n hX d_M_sold_81 rfl ?_
      obtain ⟨u3, hc4, h⟩ := qbind h
      refine q_cVr hX (c_M_isTaken X.l G hX.ad f _ _ _ hc4) cw_M_375 rfl kc_104 rfl (Nat.le_of_ble_eq_true rfl) rfl (Nat.le_of_ble_eq_true rfl) d_M_sold_82 ?_
      refine q_if_eq hX d_M_sold_85 rfl h (fun _ h => ?_) (fun _ h => ?_)
      · refine q_iconst hX d_M_sold_92 ic_0 ?_
        refine q_istore hX d_M_sold_93 (by decide) rfl rfl ?_
        refine q_iinc hX d_M_sold_95 rfl (ii_1 _) (by decide) rfl rfl ?_
        refine q_goto hX d_M_sold_98 rfl ?_
        exact q_mask [true, true, true, true, true, true, false] rfl (hk30 _ _ _ h)
      · refine q_iconst hX d_M_sold_88 ic_1 ?_
        refine q_goto hX d_M_sold_89 rfl ?_
        refine q_istore hX d_M_sold_93 (by decide) rfl rfl ?_
        refine q_iinc hX d_M_sold_95 rfl (ii_1 _) (by decide) rfl rfl ?_
        refine q_goto hX d_M_sold_98 rfl ?_
        exact q_mask [true, true, true, true, true, true, false] rfl (hk30 _ _ _ h)
set_option maxHeartbeats 4000000 in
theorem t_M_sold_b176 {G : qG} {X : qX} (hX : qOk G X "ChantryRollsModel" prog_14_method_70_code 7 (some .int) 4) {u : Int32 × qMem} {f : Nat} {σ : qMem} {x5 : Int32} (hT : qTg G X 0 0 qKS qRF u.2 (some (.int u.1))) (h : p_M_sold_b176 f    σ x5 = some u) : qV G X 0 0 qKS qRF σ 176 [some (.ref 104), none, none, none, none, some (.int x5), none] [] := by
  unfold p_M_sold_b176 at h
  refine q_iload hX d_M_sold_176 rfl ?_
  refine q_ldc hX w_1335 d_M_sold_178 ?_
  refine q_icmp_ne hX d_M_sold_180 rfl h (fun _ h => ?_) (fun _ h => ?_)
  · refine q_aload_n hX d_M_sold_188 rfl ?_
    refine q_getR hX fl_M_119 kc_104 (rfl : qRF 104 57 = some 141) d_M_sold_189 ?_
    refine q_iload hX d_M_sold_192 rfl ?_
    refine q_iald hX kc_141 d_M_sold_194 h (fun hi5 h => ?_)
    exact q_iretW hX h hT d_M_sold_195
  · refine q_ldc hX w_1335 d_M_sold_183 ?_
    refine q_goto hX d_M_sold_185 rfl ?_
    exact q_iretW hX h hT d_M_sold_195
set_option maxHeartbeats 4000000 in
theorem t_M_sold_lb108 {G : qG} {X : qX} (hX : qOk G X "ChantryRollsModel" prog_14_method_70_code 7 (some .int) 4) {u : Int32 × qMem} {f : Nat} {σ : qMem} {x1 : Int32} {x3 : Int32} {x4 : Int32} (hT : qTg G X 0 0 qKS qRF u.2 (some (.int u.1))) {k108 : Int32 → Int32 → Option (Int32 × qMem)} (hk108 : ∀ (x5 : Int32) (x6 : Int32), k108 x5 x6 = some u → qV G X 0 0 qKS qRF σ 108 [some (.ref 104), some (.int x1), none, some (.int x3), some (.int x4), some (.int x5), some (.int x6)] []) {x5 : Int32} {x6 : Int32} (h : p_M_sold_l108 f  σ x1 x3 x4  k108 x5 x6 = some u) : qV G X 0 0 qKS qRF σ 108 [some (.ref 104), some (.int x1), none, some (.int x3), some (.int x4), some (.int x5), some (.int x6)] [] := by
  unfold p_M_sold_l108 at h
  refine q_iload hX d_M_sold_108 rfl ?_
  refine q_aload_n hX d_M_sold_110 rfl ?_
  refine q_getI hX fl_M_380 kc_104 d_M_sold_111 ?_
  refine q_icmp_ge hX d_M_sold_114 rfl h (fun _ h => ?_) (fun _ h => ?_)
  · exact q_mask [true, false, false, false, false, true, false] rfl (t_M_sold_b176 hX hT h)
  · refine q_iload_n hX d_M_sold_117 rfl ?_
    refine q_if_eq hX d_M_sold_118 rfl h (fun _ h => ?_) (fun _ h => ?_)
    · exact q_mask [true, false, false, false, false, true, false] rfl (t_M_sold_b176 hX hT h)
    · refine q_iload hX d_M_sold_121 rfl ?_
      refine q_if_eq hX d_M_sold_123 rfl h (fun _ h => ?_) (fun _ h => ?_)
      · exact q_mask [true, false, false, false, false, true, false] rfl (t_M_sold_b176 hX hT h)
      · refine q_aload_n hX d_M_sold_126 rfl ?_
        refine q_getR hX fl_M_116 kc_104 (rfl : qRF 104 56 = some 140) d_M_sold_127 ?_
        refine q_iload hX d_M_sold_130 rfl ?_
        refine q_iald hX kc_140 d_M_sold_132 h (fun hi6 h => ?_)
        refine q_iload_n hX d_M_sold_133 rfl ?_
        refine q_icmp_ne hX d_M_sold_134 rfl h (fun _ h => ?_) (fun _ h => ?_)
        · refine q_iload hX d_M_sold_166 rfl ?_
          refine q_istore hX d_M_sold_168 (by decide) rfl rfl ?_
          refine q_iinc hX d_M_sold_170 rfl (ii_1 _) (by decide) rfl rfl ?_
          refine q_goto hX d_M_sold_173 rfl ?_
          exact q_mask [true, true, false, true, true, true, true] rfl (hk108 _ _ h)
        · refine q_iload hX d_M_sold_137 rfl ?_
          refine q_ldc hX w_1335 d_M_sold_139 ?_
          refine q_icmp_eq hX d_M_sold_141 rfl h (fun _ h => ?_) (fun _ h => ?_)
          · refine q_iload hX d_M_sold_161 rfl ?_
            refine q_goto hX d_M_sold_163 rfl ?_
            refine q_istore hX d_M_sold_168 (by decide) rfl rfl ?_
            refine q_iinc hX d_M_sold_170 rfl (ii_1 _) (by decide) rfl rfl ?_
            refine q_goto hX d_M_sold_173 rfl ?_
            exact q_mask [true, true, false, true, true, true, true] rfl (hk108 _ _ h)
          · refine q_aload_n hX d_M_sold_144 rfl ?_
            refine q_getR hX fl_M_122 kc_104 (rfl : qRF 104 58 = some 142) d_M_sold_145 ?_
            refine q_iload hX d_M_sold_148 rfl ?_
            refine q_iald hX kc_142 d_M_sold_150 h (fun hi7 h => ?_)
            refine q_aload_n hX d_M_sold_151 rfl ?_
            refine q_getR hX fl_M_122 kc_104 (rfl : qRF 104 58 = some 142) d_M_sold_152 ?_
            refine q_iload hX d_M_sold_155 rfl ?_
            refine q_iald hX kc_142 d_M_sold_157 h (fun hi8 h => ?_)
            refine q_icmp_le hX d_M_sold_158 rfl h (fun _ h => ?_) (fun _ h => ?_)
            · refine q_iload hX d_M_sold_166 rfl ?_
              refine q_istore hX d_M_sold_168 (by decide) rfl rfl ?_
              refine q_iinc hX d_M_sold_170 rfl (ii_1 _) (by decide) rfl rfl ?_
              refine q_goto hX d_M_sold_173 rfl ?_
              exact q_mask [true, true, false, true, true, true, true] rfl (hk108 _ _ h)
            · refine q_iload hX d_M_sold_161 rfl ?_
              refine q_goto hX d_M_sold_163 rfl ?_
              refine q_istore hX d_M_sold_168 (by decide) rfl rfl ?_
              refine q_iinc hX d_M_sold_170 rfl (ii_1 _) (by decide) rfl rfl ?_
              refine q_goto hX d_M_sold_173 rfl ?_
              exact q_mask [true, true, false, true, true, true, true] rfl (hk108 _ _ h)
theorem t_M_sold_l108 {G : qG} {X : qX} (hX : qOk G X "ChantryRollsModel" prog_14_method_70_code 7 (some .int) 4) {u : Int32 × qMem} {f : Nat} {σ : qMem} {x1 : Int32} {x3 : Int32} {x4 : Int32} (hT : qTg G X 0 0 qKS qRF u.2 (some (.int u.1))) : ∀ (n : Nat) (x5 : Int32) (x6 : Int32), qfix2 (p_M_sold_l108 f  σ x1 x3 x4 ) n x5 x6 = some u → qV G X 0 0 qKS qRF σ 108 [some (.ref 104), some (.int x1), none, some (.int x3), some (.int x4), some (.int x5), some (.int x6)] [] :=
  qfix2_ind (fun k hk _ _ h => t_M_sold_lb108 hX   hT  hk h)
set_option maxHeartbeats 4000000 in
theorem t_M_sold_lb30 {G : qG} {X : qX} (hX : qOk G X "ChantryRollsModel" prog_14_method_70_code 7 (some .int) 4) {u : Int32 × qMem} {f : Nat} {σ : qMem} {x1 : Int32} {x2 : Int32} (hT : qTg G X 0 0 qKS qRF u.2 (some (.int u.1))) {k30 : Int32 → Int32 → Int32 → Option (Int32 × qMem)} (hk30 : ∀ (x3 : Int32) (x4 : Int32) (x5 : Int32), k30 x3 x4 x5 = some u → qV G X 0 0 qKS qRF σ 30 [some (.ref 104), some (.int x1), some (.int x2), some (.int x3), some (.int x4), some (.int x5), none] []) {x3 : Int32} {x4 : Int32} {x5 : Int32} (h : p_M_sold_l30 f  σ x1 x2  k30 x3 x4 x5 = some u) : qV G X 0 0 qKS qRF σ 30 [some (.ref 104), some (.int x1), some (.int x2), some (.int x3), some (.int x4), some (.int x5), none] [] := by
  unfold p_M_sold_l30 at h
  refine q_iload hX d_M_sold_30 rfl ?_
  refine q_aload_n hX d_M_sold_32 rfl ?_
  refine q_getI hX fl_M_162 kc_104 d_M_sold_33 ?_
  refine q_icmp_ge hX d_M_sold_36 rfl h (fun _ h => ?_) (fun _ h => ?_)
  · refine q_ldc hX w_1335 d_M_sold_101 ?_
    refine q_istore hX d_M_sold_103 (by decide) rfl rfl ?_
    refine q_iconst hX d_M_sold_105 ic_0 ?_
    refine q_istore hX d_M_sold_106 (by decide) rfl rfl ?_
    exact q_mask [true, true, false, true, true, true, true] rfl (t_M_sold_l108 hX hT f _ _ h)
  · refine q_iload_n hX d_M_sold_39 rfl ?_
    refine q_if_ne hX d_M_sold_40 rfl h (fun _ h => ?_) (fun _ h => ?_)
    · refine q_iconst hX d_M_sold_55 ic_1 ?_
      refine q_goto hX d_M_sold_56 rfl ?_
      exact q_mask [true, true, true, false, true, true, false] rfl (t_M_sold_b60 hX hT hk30 h)
    · refine q_aload_n hX d_M_sold_43 rfl ?_
      refine q_iload hX d_M_sold_44 rfl ?_
      refine q_bipush hX d_M_sold_46 bp_7 ?_
      obtain ⟨u9, hc10, h⟩ := qbind h
      refine q_cVr hX (c_M_of X.l G hX.ad f _ _ _ hc10) cw_M_270 rfl kc_104 rfl (Nat.le_of_ble_eq_true rfl) rfl (Nat.le_of_ble_eq_true rfl) d_M_sold_48 ?_
      refine q_iload_n hX d_M_sold_51 rfl ?_
      refine q_icmp_ne hX d_M_sold_52 rfl h (fun _ h => ?_) (fun _ h => ?_)
      · refine q_iconst hX d_M_sold_59 ic_0 ?_
        exact q_mask [true, true, true, false, true, true, false] rfl (t_M_sold_b60 hX hT hk30 h)
      · refine q_iconst hX d_M_sold_55 ic_1 ?_
        refine q_goto hX d_M_sold_56 rfl ?_
        exact q_mask [true, true, true, false, true, true, false] rfl (t_M_sold_b60 hX hT hk30 h)
theorem t_M_sold_l30 {G : qG} {X : qX} (hX : qOk G X "ChantryRollsModel" prog_14_method_70_code 7 (some .int) 4) {u : Int32 × qMem} {f : Nat} {σ : qMem} {x1 : Int32} {x2 : Int32} (hT : qTg G X 0 0 qKS qRF u.2 (some (.int u.1))) : ∀ (n : Nat) (x3 : Int32) (x4 : Int32) (x5 : Int32), qfix3 (p_M_sold_l30 f  σ x1 x2 ) n x3 x4 x5 = some u → qV G X 0 0 qKS qRF σ 30 [some (.ref 104), some (.int x1), some (.int x2), some (.int x3), some (.int x4), some (.int x5), none] [] :=
  qfix3_ind (fun k hk _ _ _ h => t_M_sold_lb30 hX   hT  hk h)
set_option maxHeartbeats 4000000 in
theorem c_M_sold (l : Launch) (G : qG) (hA : qAd G) (f : Nat) (σ : qMem) (x1 : Int32) (x2 : Int32) {u : Int32 × qMem} (h : p_M_sold f σ x1 x2 = some u) : qCt l y_M_sold prog_14_method_70_code 7 (some .int) 4 G qKS qRF σ [(.ref 104), (.int x1), (.int x2)] (some (.int u.1)) qKS qRF u.2 0 0 := by
  refine qCt.of (lv := [some (.ref 104), some (.int x1), some (.int x2), none, none, none, none]) (by decide) hA (Nat.le_of_ble_eq_true rfl) rfl ?_
  intro X hl _ _ _ hX hT
  subst hl
  unfold p_M_sold at h
  refine q_aload_n hX d_M_sold_0 rfl ?_
  refine q_iconst hX d_M_sold_1 ic_0 ?_
  refine q_putI hX fl_M_137 kc_104 rfl qKS_len d_M_sold_2 ?_
  refine q_iload_n hX d_M_sold_5 rfl ?_
  obtain ⟨u11, hc12, h⟩ := qbind h
  refine q_cSr hX (c_M_isHouse X.l G hX.ad f _ _ hc12) cw_M_341 rfl (Nat.le_of_ble_eq_true rfl) rfl (Nat.le_of_ble_eq_true rfl) d_M_sold_6 ?_
  refine q_if_eq hX d_M_sold_9 rfl h (fun _ h => ?_) (fun _ h => ?_)
  · refine q_ldc hX w_1298 d_M_sold_19 ?_
    exact q_iretW hX h hT d_M_sold_21
  · refine q_iload_n hX d_M_sold_12 rfl ?_
    obtain ⟨u13, hc14, h⟩ := qbind h
    refine q_cSr hX (c_M_isDay X.l G hX.ad f _ _ hc14) cw_M_274 rfl (Nat.le_of_ble_eq_true rfl) rfl (Nat.le_of_ble_eq_true rfl) d_M_sold_13 ?_
    refine q_if_ne hX d_M_sold_16 rfl h (fun _ h => ?_) (fun _ h => ?_)
    · refine q_iconst hX d_M_sold_22 ic_0 ?_
      refine q_istore_n hX d_M_sold_23 (by decide) rfl rfl ?_
      refine q_iconst hX d_M_sold_24 ic_1 ?_
      refine q_istore hX d_M_sold_25 (by decide) rfl rfl ?_
      refine q_iconst hX d_M_sold_27 ic_0 ?_
      refine q_istore hX d_M_sold_28 (by decide) rfl rfl ?_
      exact q_mask [true, true, true, true, true, true, false] rfl (t_M_sold_l30 hX hT f _ _ _ h)
    · refine q_ldc hX w_1298 d_M_sold_19 ?_
      exact q_iretW hX h hT d_M_sold_21
set_option maxHeartbeats 4000000 in
theorem t_M_mayStand_b132 {G : qG} {X : qX} (hX : qOk G X "ChantryRollsModel" prog_14_method_71_code 8 (some .boolean) 2) {u : Int32} {f : Nat} {k46 : Int32 → Int32 → Int32 → Option (Int32)} {σ : qMem} {x1 : Int32} {x3 : Int32} {x5 : Int32} {x6 : Int32} {x7 : Int32} {s0 : Int32} (hT : qTg G X 0 0 qKS qRF σ (some (.int u))) (hk46 : ∀ (x4 : Int32) (x5 : Int32) (x6 : Int32), k46 x4 x5 x6 = some u → qV G X 0 0 qKS qRF σ 46 [some (.ref 104), some (.int x1), none, some (.int x3), some (.int x4), some (.int x5), some (.int x6), none] []) (h : p_M_mayStand_b132 f   k46 σ x1 x3 x5 x6 x7 s0 = some u) : qV G X 0 0 qKS qRF σ 132 [some (.ref 104), some (.int x1), none, some (.int x3), none, some (.int x5), some (.int x6), some (.int x7)] [(.int s0)] := by
  unfold p_M_mayStand_b132 at h
  refine q_istore hX d_M_mayStand_132 (by decide) rfl rfl ?_
  refine q_iload hX d_M_mayStand_134 rfl ?_
  refine q_iload hX d_M_mayStand_136 rfl ?_
  refine q_if_eq hX d_M_mayStand_138 rfl h (fun _ h => ?_) (fun _ h => ?_)
  · refine q_iconst hX d_M_mayStand_156 ic_0 ?_
    refine q_iadd hX d_M_mayStand_157 ?_
    refine q_istore hX d_M_mayStand_158 (by decide) rfl rfl ?_
    refine q_iinc hX d_M_mayStand_160 rfl (ii_1 _) (by decide) rfl rfl ?_
    refine q_goto hX d_M_mayStand_163 rfl ?_
    exact q_mask [true, true, false, true, true, true, true, false] rfl (hk46 _ _ _ h)
  · refine q_aload_n hX d_M_mayStand_141 rfl ?_
    refine q_getR hX fl_M_125 kc_104 (rfl : qRF 104 59 = some 143) d_M_mayStand_142 ?_
    refine q_iload hX d_M_mayStand_145 rfl ?_
    refine q_iald hX kc_143 d_M_mayStand_147 h (fun hi1 h => ?_)
    refine q_iconst hX d_M_mayStand_148 ic_5 ?_
    refine q_icmp_ge hX d_M_mayStand_149 rfl h (fun _ h => ?_) (fun _ h => ?_)
    · refine q_iconst hX d_M_mayStand_156 ic_0 ?_
      refine q_iadd hX d_M_mayStand_157 ?_
      refine q_istore hX d_M_mayStand_158 (by decide) rfl rfl ?_
      refine q_iinc hX d_M_mayStand_160 rfl (ii_1 _) (by decide) rfl rfl ?_
      refine q_goto hX d_M_mayStand_163 rfl ?_
      exact q_mask [true, true, false, true, true, true, true, false] rfl (hk46 _ _ _ h)
    · refine q_iconst hX d_M_mayStand_152 ic_1 ?_
      refine q_goto hX d_M_mayStand_153 rfl ?_
      refine q_iadd hX d_M_mayStand_157 ?_
      refine q_istore hX d_M_mayStand_158 (by decide) rfl rfl ?_
      refine q_iinc hX d_M_mayStand_160 rfl (ii_1 _) (by decide) rfl rfl ?_
      refine q_goto hX d_M_mayStand_163 rfl ?_
      exact q_mask [true, true, false, true, true, true, true, false] rfl (hk46 _ _ _ h)
set_option maxHeartbeats 4000000 in
theorem t_M_mayStand_b131 {G : qG} {X : qX} (hX : qOk G X "ChantryRollsModel" prog_14_method_71_code 8 (some .boolean) 2) {u : Int32} {f : Nat} {k46 : Int32 → Int32 → Int32 → Option (Int32)} {σ : qMem} {x1 : Int32} {x3 : Int32} {x5 : Int32} {x6 : Int32} {x7 : Int32} (hT : qTg G X 0 0 qKS qRF σ (some (.int u))) (hk46 : ∀ (x4 : Int32) (x5 : Int32) (x6 : Int32), k46 x4 x5 x6 = some u → qV G X 0 0 qKS qRF σ 46 [some (.ref 104), some (.int x1), none, some (.int x3), some (.int x4), some (.int x5), some (.int x6), none] []) (h : p_M_mayStand_b131 f   k46 σ x1 x3 x5 x6 x7 = some u) : qV G X 0 0 qKS qRF σ 131 [some (.ref 104), some (.int x1), none, some (.int x3), none, some (.int x5), some (.int x6), some (.int x7)] [] := by
  unfold p_M_mayStand_b131 at h
  refine q_iconst hX d_M_mayStand_131 ic_0 ?_
  exact q_mask [true, true, false, true, false, true, true, true] rfl (t_M_mayStand_b132 hX hT hk46 h)
set_option maxHeartbeats 4000000 in
theorem t_M_mayStand_b73 {G : qG} {X : qX} (hX : qOk G X "ChantryRollsModel" prog_14_method_71_code 8 (some .boolean) 2) {u : Int32} {f : Nat} {k46 : Int32 → Int32 → Int32 → Option (Int32)} {σ : qMem} {x1 : Int32} {x3 : Int32} {x4 : Int32} {x5 : Int32} {x6 : Int32} {s0 : Int32} (hT : qTg G X 0 0 qKS qRF σ (some (.int u))) (hk46 : ∀ (x4 : Int32) (x5 : Int32) (x6 : Int32), k46 x4 x5 x6 = some u → qV G X 0 0 qKS qRF σ 46 [some (.ref 104), some (.int x1), none, some (.int x3), some (.int x4), some (.int x5), some (.int x6), none] []) (h : p_M_mayStand_b73 f   k46 σ x1 x3 x4 x5 x6 s0 = some u) : qV G X 0 0 qKS qRF σ 73 [some (.ref 104), some (.int x1), none, some (.int x3), some (.int x4), some (.int x5), some (.int x6), none] [(.int s0)] := by
  unfold p_M_mayStand_b73 at h
  refine q_istore hX d_M_mayStand_73 (by decide) rfl rfl ?_
  refine q_iload hX d_M_mayStand_75 rfl ?_
  refine q_if_eq hX d_M_mayStand_77 rfl h (fun _ h => ?_) (fun _ h => ?_)
  · exact q_mask [true, true, false, true, false, true, true, true] rfl (t_M_mayStand_b131 hX hT hk46 h)
  · refine q_aload_n hX d_M_mayStand_80 rfl ?_
    refine q_getR hX fl_M_125 kc_104 (rfl : qRF 104 59 = some 143) d_M_mayStand_81 ?_
    refine q_iload hX d_M_mayStand_84 rfl ?_
    refine q_iald hX kc_143 d_M_mayStand_86 h (fun hi2 h => ?_)
    refine q_aload_n hX d_M_mayStand_87 rfl ?_
    refine q_getR hX fl_M_125 kc_104 (rfl : qRF 104 59 = some 143) d_M_mayStand_88 ?_
    refine q_iload_n hX d_M_mayStand_91 rfl ?_
    refine q_iald hX kc_143 d_M_mayStand_92 h (fun hi3 h => ?_)
    refine q_icmp_ne hX d_M_mayStand_93 rfl h (fun _ h => ?_) (fun _ h => ?_)
    · refine q_iconst hX d_M_mayStand_127 ic_1 ?_
      refine q_goto hX d_M_mayStand_128 rfl ?_
      exact q_mask [true, true, false, true, false, true, true, true] rfl (t_M_mayStand_b132 hX hT hk46 h)
    · refine q_iload hX d_M_mayStand_96 rfl ?_
      refine q_if_ne hX d_M_mayStand_98 rfl h (fun _ h => ?_) (fun _ h => ?_)
      · exact q_mask [true, true, false, true, false, true, true, true] rfl (t_M_mayStand_b131 hX hT hk46 h)
      · refine q_aload_n hX d_M_mayStand_101 rfl ?_
        refine q_aload_n hX d_M_mayStand_102 rfl ?_
        refine q_getR hX fl_M_131 kc_104 (rfl : qRF 104 61 = some 145) d_M_mayStand_103 ?_
        refine q_iload hX d_M_mayStand_106 rfl ?_
        refine q_iald hX kc_145 d_M_mayStand_108 h (fun hi4 h => ?_)
        refine q_iconst hX d_M_mayStand_109 ic_2 ?_
        obtain ⟨u5, hc6, h⟩ := qbind h
        refine q_cVr hX (c_M_of X.l G hX.ad f _ _ _ hc6) cw_M_270 rfl kc_104 rfl (Nat.le_of_ble_eq_true rfl) rfl (Nat.le_of_ble_eq_true rfl) d_M_mayStand_110 ?_
        refine q_aload_n hX d_M_mayStand_113 rfl ?_
        refine q_aload_n hX d_M_mayStand_114 rfl ?_
        refine q_getR hX fl_M_131 kc_104 (rfl : qRF 104 61 = some 145) d_M_mayStand_115 ?_
        refine q_iload_n hX d_M_mayStand_118 rfl ?_
        refine q_iald hX kc_145 d_M_mayStand_119 h (fun hi7 h => ?_)
        refine q_iconst hX d_M_mayStand_120 ic_2 ?_
        obtain ⟨u8, hc9, h⟩ := qbind h
        refine q_cVr hX (c_M_of X.l G hX.ad f _ _ _ hc9) cw_M_270 rfl kc_104 rfl (Nat.le_of_ble_eq_true rfl) rfl (Nat.le_of_ble_eq_true rfl) d_M_mayStand_121 ?_
        refine q_icmp_eq hX d_M_mayStand_124 rfl h (fun _ h => ?_) (fun _ h => ?_)
        · exact q_mask [true, true, false, true, false, true, true, true] rfl (t_M_mayStand_b131 hX hT hk46 h)
        · refine q_iconst hX d_M_mayStand_127 ic_1 ?_
          refine q_goto hX d_M_mayStand_128 rfl ?_
          exact q_mask [true, true, false, true, false, true, true, true] rfl (t_M_mayStand_b132 hX hT hk46 h)
set_option maxHeartbeats 4000000 in
theorem t_M_mayStand_lb46 {G : qG} {X : qX} (hX : qOk G X "ChantryRollsModel" prog_14_method_71_code 8 (some .boolean) 2) {u : Int32} {f : Nat} {σ : qMem} {x1 : Int32} {x3 : Int32} (hT : qTg G X 0 0 qKS qRF σ (some (.int u))) {k46 : Int32 → Int32 → Int32 → Option (Int32)} (hk46 : ∀ (x4 : Int32) (x5 : Int32) (x6 : Int32), k46 x4 x5 x6 = some u → qV G X 0 0 qKS qRF σ 46 [some (.ref 104), some (.int x1), none, some (.int x3), some (.int x4), some (.int x5), some (.int x6), none] []) {x4 : Int32} {x5 : Int32} {x6 : Int32} (h : p_M_mayStand_l46 f  σ x1 x3  k46 x4 x5 x6 = some u) : qV G X 0 0 qKS qRF σ 46 [some (.ref 104), some (.int x1), none, some (.int x3), some (.int x4), some (.int x5), some (.int x6), none] [] := by
  unfold p_M_mayStand_l46 at h
  refine q_iload hX d_M_mayStand_46 rfl ?_
  refine q_iload_n hX d_M_mayStand_48 rfl ?_
  refine q_icmp_ge hX d_M_mayStand_49 rfl h (fun _ h => ?_) (fun _ h => ?_)
  · refine q_iload hX d_M_mayStand_166 rfl ?_
    refine q_if_eq hX d_M_mayStand_168 rfl h (fun _ h => ?_) (fun _ h => ?_)
    · refine q_iconst hX d_M_mayStand_186 ic_0 ?_
      exact q_zretR hX zn_0 h hT d_M_mayStand_187
    · refine q_iload hX d_M_mayStand_171 rfl ?_
      refine q_aload_n hX d_M_mayStand_173 rfl ?_
      refine q_getR hX fl_M_44 kc_104 (rfl : qRF 104 26 = some 116) d_M_mayStand_174 ?_
      refine q_iload_n hX d_M_mayStand_177 rfl ?_
      refine q_iald hX kc_116 d_M_mayStand_178 h (fun hi10 h => ?_)
      refine q_icmp_ge hX d_M_mayStand_179 rfl h (fun _ h => ?_) (fun _ h => ?_)
      · refine q_iconst hX d_M_mayStand_186 ic_0 ?_
        exact q_zretR hX zn_0 h hT d_M_mayStand_187
      · refine q_iconst hX d_M_mayStand_182 ic_1 ?_
        refine q_goto hX d_M_mayStand_183 rfl ?_
        exact q_zretR hX zn_1 h hT d_M_mayStand_187
  · refine q_aload_n hX d_M_mayStand_52 rfl ?_
    refine q_aload_n hX d_M_mayStand_53 rfl ?_
    refine q_getR hX fl_M_131 kc_104 (rfl : qRF 104 61 = some 145) d_M_mayStand_54 ?_
    refine q_iload hX d_M_mayStand_57 rfl ?_
    refine q_iald hX kc_145 d_M_mayStand_59 h (fun hi11 h => ?_)
    refine q_iconst hX d_M_mayStand_60 ic_3 ?_
    obtain ⟨u12, hc13, h⟩ := qbind h
    refine q_cVr hX (c_M_of X.l G hX.ad f _ _ _ hc13) cw_M_270 rfl kc_104 rfl (Nat.le_of_ble_eq_true rfl) rfl (Nat.le_of_ble_eq_true rfl) d_M_mayStand_61 ?_
    refine q_iload_n hX d_M_mayStand_64 rfl ?_
    refine q_icmp_ne hX d_M_mayStand_65 rfl h (fun _ h => ?_) (fun _ h => ?_)
    · refine q_iconst hX d_M_mayStand_72 ic_0 ?_
      exact q_mask [true, true, false, true, true, true, true, false] rfl (t_M_mayStand_b73 hX hT hk46 h)
    · refine q_iconst hX d_M_mayStand_68 ic_1 ?_
      refine q_goto hX d_M_mayStand_69 rfl ?_
      exact q_mask [true, true, false, true, true, true, true, false] rfl (t_M_mayStand_b73 hX hT hk46 h)
theorem t_M_mayStand_l46 {G : qG} {X : qX} (hX : qOk G X "ChantryRollsModel" prog_14_method_71_code 8 (some .boolean) 2) {u : Int32} {f : Nat} {σ : qMem} {x1 : Int32} {x3 : Int32} (hT : qTg G X 0 0 qKS qRF σ (some (.int u))) : ∀ (n : Nat) (x4 : Int32) (x5 : Int32) (x6 : Int32), qfix3 (p_M_mayStand_l46 f  σ x1 x3 ) n x4 x5 x6 = some u → qV G X 0 0 qKS qRF σ 46 [some (.ref 104), some (.int x1), none, some (.int x3), some (.int x4), some (.int x5), some (.int x6), none] [] :=
  qfix3_ind (fun k hk _ _ _ h => t_M_mayStand_lb46 hX   hT  hk h)
set_option maxHeartbeats 4000000 in
theorem c_M_mayStand (l : Launch) (G : qG) (hA : qAd G) (f : Nat) (σ : qMem) (x1 : Int32) (x2 : Int32) {u : Int32} (h : p_M_mayStand f σ x1 x2 = some u) : qCt l y_M_mayStand prog_14_method_71_code 8 (some .boolean) 2 G qKS qRF σ [(.ref 104), (.int x1), (.int x2)] (some (.int u)) qKS qRF σ 0 0 := by
  refine qCt.of (lv := [some (.ref 104), some (.int x1), some (.int x2), none, none, none, none, none]) (by decide) hA (Nat.le_of_ble_eq_true rfl) rfl ?_
  intro X hl _ _ _ hX hT
  subst hl
  unfold p_M_mayStand at h
  refine q_aload_n hX d_M_mayStand_0 rfl ?_
  refine q_getR hX fl_M_125 kc_104 (rfl : qRF 104 59 = some 143) d_M_mayStand_1 ?_
  refine q_iload_n hX d_M_mayStand_4 rfl ?_
  refine q_iald hX kc_143 d_M_mayStand_5 h (fun hi14 h => ?_)
  refine q_iconst hX d_M_mayStand_6 ic_5 ?_
  refine q_icmp_ne hX d_M_mayStand_7 rfl h (fun _ h => ?_) (fun _ h => ?_)
  · refine q_aload_n hX d_M_mayStand_12 rfl ?_
    refine q_aload_n hX d_M_mayStand_13 rfl ?_
    refine q_getR hX fl_M_131 kc_104 (rfl : qRF 104 61 = some 145) d_M_mayStand_14 ?_
    refine q_iload_n hX d_M_mayStand_17 rfl ?_
    refine q_iald hX kc_145 d_M_mayStand_18 h (fun hi15 h => ?_)
    refine q_iconst hX d_M_mayStand_19 ic_3 ?_
    obtain ⟨u16, hc17, h⟩ := qbind h
    refine q_cVr hX (c_M_of X.l G hX.ad f _ _ _ hc17) cw_M_270 rfl kc_104 rfl (Nat.le_of_ble_eq_true rfl) rfl (Nat.le_of_ble_eq_true rfl) d_M_mayStand_20 ?_
    refine q_istore_n hX d_M_mayStand_23 (by decide) rfl rfl ?_
    refine q_aload_n hX d_M_mayStand_24 rfl ?_
    refine q_iload_n hX d_M_mayStand_25 rfl ?_
    refine q_iload_n hX d_M_mayStand_26 rfl ?_
    obtain ⟨u18, hc19, h⟩ := qbind h
    refine q_cVr hX (c_M_isSick X.l G hX.ad f _ _ _ hc19) cw_M_312 rfl kc_104 rfl (Nat.le_of_ble_eq_true rfl) rfl (Nat.le_of_ble_eq_true rfl) d_M_mayStand_27 ?_
    refine q_if_ne hX d_M_mayStand_30 rfl h (fun _ h => ?_) (fun _ h => ?_)
    · refine q_iconst hX d_M_mayStand_37 ic_0 ?_
      refine q_istore hX d_M_mayStand_38 (by decide) rfl rfl ?_
      refine q_iconst hX d_M_mayStand_40 ic_0 ?_
      refine q_istore hX d_M_mayStand_41 (by decide) rfl rfl ?_
      refine q_iconst hX d_M_mayStand_43 ic_0 ?_
      refine q_istore hX d_M_mayStand_44 (by decide) rfl rfl ?_
      exact q_mask [true, true, false, true, true, true, true, false] rfl (t_M_mayStand_l46 hX hT f _ _ _ h)
    · refine q_iconst hX d_M_mayStand_33 ic_1 ?_
      refine q_goto hX d_M_mayStand_34 rfl ?_
      refine q_istore hX d_M_mayStand_38 (by decide) rfl rfl ?_
      refine q_iconst hX d_M_mayStand_40 ic_0 ?_
      refine q_istore hX d_M_mayStand_41 (by decide) rfl rfl ?_
      refine q_iconst hX d_M_mayStand_43 ic_0 ?_
      refine q_istore hX d_M_mayStand_44 (by decide) rfl rfl ?_
      exact q_mask [true, true, false, true, true, true, true, false] rfl (t_M_mayStand_l46 hX hT f _ _ _ h)
  · refine q_iconst hX d_M_mayStand_10 ic_1 ?_
    exact q_zretR hX zn_1 h hT d_M_mayStand_11
set_option maxHeartbeats 4000000 in
theorem t_M_dawn_lb250 {G : qG} {X : qX} (hX : qOk G X "ChantryRollsModel" prog_14_method_72_code 9 (some .int) 3) {u : Int32 × qMem} {f : Nat} {k122 : qMem → Int32 → Int32 → Int32 → Option (Int32 × qMem)} {x2 : Int32} {x3 : Int32} {x4 : Int32} {x5 : Int32} {x6 : Int32} {x7 : Int32} (hT : qTg G X 0 0 qKS qRF u.2 (some (.int u.1))) {k250 : qMem → Int32 → Option (Int32 × qMem)} (hk122 : ∀ (σ : qMem) (x5 : Int32) (x6 : Int32) (x7 : Int32), k122 σ x5 x6 x7 = some u → qV G X 0 0 qKS qRF σ 122 [some (.ref 104), none, some (.int x2), some (.int x3), some (.int x4), some (.int x5), some (.int x6), some (.int x7), none] []) (hk250 : ∀ (σ : qMem) (x8 : Int32), k250 σ x8 = some u → qV G X 0 0 qKS qRF σ 250 [some (.ref 104), none, some (.int x2), some (.int x3), some (.int x4), some (.int x5), some (.int x6), some (.int x7), some (.int x8)] []) {σ : qMem} {x8 : Int32} (h : p_M_dawn_l250 f  x2 x3 x4 x5 x6 x7 k122 k250 σ x8 = some u) : qV G X 0 0 qKS qRF σ 250 [some (.ref 104), none, some (.int x2), some (.int x3), some (.int x4), some (.int x5), some (.int x6), some (.int x7), some (.int x8)] [] := by
  unfold p_M_dawn_l250 at h
  refine q_iload hX d_M_dawn_250 rfl ?_
  refine q_iload hX d_M_dawn_252 rfl ?_
  refine q_icmp_ge hX d_M_dawn_254 rfl h (fun _ h => ?_) (fun _ h => ?_)
  · refine q_goto hX d_M_dawn_277 rfl ?_
    exact q_mask [true, false, true, true, true, true, true, true, false] rfl (hk122 _ _ _ _ h)
  · refine q_aload_n hX d_M_dawn_257 rfl ?_
    refine q_getR hX fl_M_128 kc_104 (rfl : qRF 104 60 = some 144) d_M_dawn_258 ?_
    refine q_iload hX d_M_dawn_261 rfl ?_
    refine q_aload_n hX d_M_dawn_263 rfl ?_
    refine q_getR hX fl_M_125 kc_104 (rfl : qRF 104 59 = some 143) d_M_dawn_264 ?_
    refine q_iload hX d_M_dawn_267 rfl ?_
    refine q_iald hX kc_143 d_M_dawn_269 h (fun hi1 h => ?_)
    refine q_iast hX kc_144 qKS_len d_M_dawn_270 h (fun hi2 h => ?_)
    refine q_iinc hX d_M_dawn_271 rfl (ii_1 _) (by decide) rfl rfl ?_
    refine q_goto hX d_M_dawn_274 rfl ?_
    exact q_mask [true, false, true, true, true, true, true, true, true] rfl (hk250 _ _ h)
theorem t_M_dawn_l250 {G : qG} {X : qX} (hX : qOk G X "ChantryRollsModel" prog_14_method_72_code 9 (some .int) 3) {u : Int32 × qMem} {f : Nat} {k122 : qMem → Int32 → Int32 → Int32 → Option (Int32 × qMem)} {x2 : Int32} {x3 : Int32} {x4 : Int32} {x5 : Int32} {x6 : Int32} {x7 : Int32} (hT : qTg G X 0 0 qKS qRF u.2 (some (.int u.1))) (hk122 : ∀ (σ : qMem) (x5 : Int32) (x6 : Int32) (x7 : Int32), k122 σ x5 x6 x7 = some u → qV G X 0 0 qKS qRF σ 122 [some (.ref 104), none, some (.int x2), some (.int x3), some (.int x4), some (.int x5), some (.int x6), some (.int x7), none] []) : ∀ (n : Nat) (σ : qMem) (x8 : Int32), qfix2 (p_M_dawn_l250 f  x2 x3 x4 x5 x6 x7 k122) n σ x8 = some u → qV G X 0 0 qKS qRF σ 250 [some (.ref 104), none, some (.int x2), some (.int x3), some (.int x4), some (.int x5), some (.int x6), some (.int x7), some (.int x8)] [] :=
  qfix2_ind (fun k hk _ _ h => t_M_dawn_lb250 hX   hT hk122 hk h)
set_option maxHeartbeats 4000000 in
theorem t_M_dawn_b194 {G : qG} {X : qX} (hX : qOk G X "ChantryRollsModel" prog_14_method_72_code 9 (some .int) 3) {u : Int32 × qMem} {f : Nat} {k122 : qMem → Int32 → Int32 → Int32 → Option (Int32 × qMem)} {σ : qMem} {x2 : Int32} {x3 : Int32} {x4 : Int32} {x5 : Int32} {x6 : Int32} {s0 : Int32} {s1 : Int32} (hT : qTg G X 0 0 qKS qRF u.2 (some (.int u.1))) (hk122 : ∀ (σ : qMem) (x5 : Int32) (x6 : Int32) (x7 : Int32), k122 σ x5 x6 x7 = some u → qV G X 0 0 qKS qRF σ 122 [some (.ref 104), none, some (.int x2), some (.int x3), some (.int x4), some (.int x5), some (.int x6), some (.int x7), none] []) (h : p_M_dawn_b194 f   k122 σ x2 x3 x4 x5 x6 s0 s1 = some u) : qV G X 0 0 qKS qRF σ 194 [some (.ref 104), none, some (.int x2), some (.int x3), some (.int x4), some (.int x5), some (.int x6), none, none] [(.int s1), (.int s0)] := by
  unfold p_M_dawn_b194 at h
  refine q_iadd hX d_M_dawn_194 ?_
  refine q_istore hX d_M_dawn_195 (by decide) rfl rfl ?_
  refine q_aload_n hX d_M_dawn_197 rfl ?_
  refine q_iload hX d_M_dawn_198 rfl ?_
  refine q_iload_n hX d_M_dawn_200 rfl ?_
  obtain ⟨u3, hc4, h⟩ := qbind h
  refine q_cVr hX (c_M_mayStand X.l G hX.ad f _ _ _ hc4) cw_M_385 rfl kc_104 rfl (Nat.le_of_ble_eq_true rfl) rfl (Nat.le_of_ble_eq_true rfl) d_M_dawn_201 ?_
  refine q_if_eq hX d_M_dawn_204 rfl h (fun _ h => ?_) (fun _ h => ?_)
  · exact q_mask [true, false, true, true, true, true, true, true, false] rfl (hk122 _ _ _ _ h)
  · refine q_iload hX d_M_dawn_207 rfl ?_
    refine q_iload hX d_M_dawn_209 rfl ?_
    refine q_isub hX d_M_dawn_211 ?_
    refine q_iload hX d_M_dawn_212 rfl ?_
    refine q_icmp_le hX d_M_dawn_214 rfl h (fun _ h => ?_) (fun _ h => ?_)
    · exact q_mask [true, false, true, true, true, true, true, true, false] rfl (hk122 _ _ _ _ h)
    · refine q_iload hX d_M_dawn_217 rfl ?_
      refine q_iconst hX d_M_dawn_219 ic_1 ?_
      refine q_iadd hX d_M_dawn_220 ?_
      refine q_iload hX d_M_dawn_221 rfl ?_
      refine q_icmp_ge hX d_M_dawn_223 rfl h (fun _ h => ?_) (fun _ h => ?_)
      · refine q_iload hX d_M_dawn_240 rfl ?_
        refine q_iload hX d_M_dawn_242 rfl ?_
        refine q_isub hX d_M_dawn_244 ?_
        refine q_istore hX d_M_dawn_245 (by decide) rfl rfl ?_
        refine q_iconst hX d_M_dawn_247 ic_0 ?_
        refine q_istore hX d_M_dawn_248 (by decide) rfl rfl ?_
        exact q_mask [true, false, true, true, true, true, true, true, true] rfl (t_M_dawn_l250 hX hT hk122 f _ _ h)
      · refine q_iinc hX d_M_dawn_226 rfl (ii_1 _) (by decide) rfl rfl ?_
        refine q_aload_n hX d_M_dawn_229 rfl ?_
        refine q_getR hX fl_M_125 kc_104 (rfl : qRF 104 59 = some 143) d_M_dawn_230 ?_
        refine q_iload hX d_M_dawn_233 rfl ?_
        refine q_iconst hX d_M_dawn_235 ic_m1 ?_
        refine q_iast hX kc_143 qKS_len d_M_dawn_236 h (fun hi5 h => ?_)
        refine q_goto hX d_M_dawn_237 rfl ?_
        exact q_mask [true, false, true, true, true, true, true, true, false] rfl (hk122 _ _ _ _ h)
set_option maxHeartbeats 4000000 in
theorem t_M_dawn_b145 {G : qG} {X : qX} (hX : qOk G X "ChantryRollsModel" prog_14_method_72_code 9 (some .int) 3) {u : Int32 × qMem} {f : Nat} {k122 : qMem → Int32 → Int32 → Int32 → Option (Int32 × qMem)} {σ : qMem} {x2 : Int32} {x3 : Int32} {x4 : Int32} {x5 : Int32} {x6 : Int32} {s0 : Int32} {s1 : Int32} (hT : qTg G X 0 0 qKS qRF u.2 (some (.int u.1))) (hk122 : ∀ (σ : qMem) (x5 : Int32) (x6 : Int32) (x7 : Int32), k122 σ x5 x6 x7 = some u → qV G X 0 0 qKS qRF σ 122 [some (.ref 104), none, some (.int x2), some (.int x3), some (.int x4), some (.int x5), some (.int x6), some (.int x7), none] []) (h : p_M_dawn_b145 f   k122 σ x2 x3 x4 x5 x6 s0 s1 = some u) : qV G X 0 0 qKS qRF σ 145 [some (.ref 104), none, some (.int x2), some (.int x3), some (.int x4), some (.int x5), some (.int x6), none, none] [(.int s1), (.int s0)] := by
  unfold p_M_dawn_b145 at h
  refine q_isub hX d_M_dawn_145 ?_
  refine q_istore hX d_M_dawn_146 (by decide) rfl rfl ?_
  refine q_aload_n hX d_M_dawn_148 rfl ?_
  refine q_getR hX fl_M_125 kc_104 (rfl : qRF 104 59 = some 143) d_M_dawn_149 ?_
  refine q_iload hX d_M_dawn_152 rfl ?_
  refine q_dup2 hX rfl rfl d_M_dawn_154 ?_
  refine q_iald hX kc_143 d_M_dawn_155 h (fun hi6 h => ?_)
  refine q_iconst hX d_M_dawn_156 ic_1 ?_
  refine q_iadd hX d_M_dawn_157 ?_
  refine q_iast hX kc_143 qKS_len d_M_dawn_158 h (fun hi7 h => ?_)
  refine q_aload_n hX d_M_dawn_159 rfl ?_
  refine q_getR hX fl_M_125 kc_104 (rfl : qRF 104 59 = some 143) d_M_dawn_160 ?_
  refine q_iload hX d_M_dawn_163 rfl ?_
  refine q_iald hX kc_143 d_M_dawn_165 h (fun hi8 h => ?_)
  refine q_iconst hX d_M_dawn_166 ic_5 ?_
  refine q_icmp_le hX d_M_dawn_167 rfl h (fun _ h => ?_) (fun _ h => ?_)
  · refine q_iload hX d_M_dawn_176 rfl ?_
    refine q_aload_n hX d_M_dawn_178 rfl ?_
    refine q_getR hX fl_M_125 kc_104 (rfl : qRF 104 59 = some 143) d_M_dawn_179 ?_
    refine q_iload hX d_M_dawn_182 rfl ?_
    refine q_iald hX kc_143 d_M_dawn_184 h (fun hi9 h => ?_)
    refine q_iconst hX d_M_dawn_185 ic_5 ?_
    refine q_icmp_ne hX d_M_dawn_186 rfl h (fun _ h => ?_) (fun _ h => ?_)
    · refine q_iconst hX d_M_dawn_193 ic_0 ?_
      exact q_mask [true, false, true, true, true, true, true, false, false] rfl (t_M_dawn_b194 hX hT hk122 h)
    · refine q_iconst hX d_M_dawn_189 ic_1 ?_
      refine q_goto hX d_M_dawn_190 rfl ?_
      exact q_mask [true, false, true, true, true, true, true, false, false] rfl (t_M_dawn_b194 hX hT hk122 h)
  · refine q_iinc hX d_M_dawn_170 rfl (ii_m1 _) (by decide) rfl rfl ?_
    refine q_goto hX d_M_dawn_173 rfl ?_
    exact q_mask [true, false, true, true, true, true, true, true, false] rfl (hk122 _ _ _ _ h)
set_option maxHeartbeats 4000000 in
theorem t_M_dawn_lb292 {G : qG} {X : qX} (hX : qOk G X "ChantryRollsModel" prog_14_method_72_code 9 (some .int) 3) {u : Int32 × qMem} {f : Nat} {σ : qMem} {x3 : Int32} {x4 : Int32} (hT : qTg G X 0 0 qKS qRF u.2 (some (.int u.1))) {k292 : Int32 → Option (Int32 × qMem)} (hk292 : ∀ (x8 : Int32), k292 x8 = some u → qV G X 0 0 qKS qRF σ 292 [some (.ref 104), none, none, some (.int x3), some (.int x4), none, none, none, some (.int x8)] []) {x8 : Int32} (h : p_M_dawn_l292 f  σ x3 x4  k292 x8 = some u) : qV G X 0 0 qKS qRF σ 292 [some (.ref 104), none, none, some (.int x3), some (.int x4), none, none, none, some (.int x8)] [] := by
  unfold p_M_dawn_l292 at h
  refine q_iload hX d_M_dawn_292 rfl ?_
  refine q_iload hX d_M_dawn_294 rfl ?_
  refine q_icmp_ge hX d_M_dawn_296 rfl h (fun _ h => ?_) (fun _ h => ?_)
  · refine q_ldc hX w_1335 d_M_dawn_340 ?_
    exact q_iretW hX h hT d_M_dawn_342
  · refine q_aload_n hX d_M_dawn_299 rfl ?_
    refine q_getR hX fl_M_131 kc_104 (rfl : qRF 104 61 = some 145) d_M_dawn_300 ?_
    refine q_iload hX d_M_dawn_303 rfl ?_
    refine q_iald hX kc_145 d_M_dawn_305 h (fun hi10 h => ?_)
    refine q_iload_n hX d_M_dawn_306 rfl ?_
    refine q_icmp_ne hX d_M_dawn_307 rfl h (fun _ h => ?_) (fun _ h => ?_)
    · refine q_iinc hX d_M_dawn_334 rfl (ii_1 _) (by decide) rfl rfl ?_
      refine q_goto hX d_M_dawn_337 rfl ?_
      exact q_mask [true, false, false, true, true, false, false, false, true] rfl (hk292 _ h)
    · refine q_aload_n hX d_M_dawn_310 rfl ?_
      refine q_getR hX fl_M_128 kc_104 (rfl : qRF 104 60 = some 144) d_M_dawn_311 ?_
      refine q_iload hX d_M_dawn_314 rfl ?_
      refine q_iald hX kc_144 d_M_dawn_316 h (fun hi11 h => ?_)
      refine q_iconst hX d_M_dawn_317 ic_5 ?_
      refine q_icmp_ne hX d_M_dawn_318 rfl h (fun _ h => ?_) (fun _ h => ?_)
      · refine q_aload_n hX d_M_dawn_326 rfl ?_
        refine q_getR hX fl_M_128 kc_104 (rfl : qRF 104 60 = some 144) d_M_dawn_327 ?_
        refine q_iload hX d_M_dawn_330 rfl ?_
        refine q_iald hX kc_144 d_M_dawn_332 h (fun hi12 h => ?_)
        exact q_iretW hX h hT d_M_dawn_333
      · refine q_ldc hX w_1335 d_M_dawn_321 ?_
        refine q_goto hX d_M_dawn_323 rfl ?_
        exact q_iretW hX h hT d_M_dawn_333
theorem t_M_dawn_l292 {G : qG} {X : qX} (hX : qOk G X "ChantryRollsModel" prog_14_method_72_code 9 (some .int) 3) {u : Int32 × qMem} {f : Nat} {σ : qMem} {x3 : Int32} {x4 : Int32} (hT : qTg G X 0 0 qKS qRF u.2 (some (.int u.1))) : ∀ (n : Nat) (x8 : Int32), qfix1 (p_M_dawn_l292 f  σ x3 x4 ) n x8 = some u → qV G X 0 0 qKS qRF σ 292 [some (.ref 104), none, none, some (.int x3), some (.int x4), none, none, none, some (.int x8)] [] :=
  qfix1_ind (fun k hk _ h => t_M_dawn_lb292 hX   hT  hk h)
set_option maxHeartbeats 4000000 in
theorem t_M_dawn_lb122 {G : qG} {X : qX} (hX : qOk G X "ChantryRollsModel" prog_14_method_72_code 9 (some .int) 3) {u : Int32 × qMem} {f : Nat} {x2 : Int32} {x3 : Int32} {x4 : Int32} (hT : qTg G X 0 0 qKS qRF u.2 (some (.int u.1))) {k122 : qMem → Int32 → Int32 → Int32 → Option (Int32 × qMem)} (hk122 : ∀ (σ : qMem) (x5 : Int32) (x6 : Int32) (x7 : Int32), k122 σ x5 x6 x7 = some u → qV G X 0 0 qKS qRF σ 122 [some (.ref 104), none, some (.int x2), some (.int x3), some (.int x4), some (.int x5), some (.int x6), some (.int x7), none] []) {σ : qMem} {x5 : Int32} {x6 : Int32} {x7 : Int32} (h : p_M_dawn_l122 f  x2 x3 x4  k122 σ x5 x6 x7 = some u) : qV G X 0 0 qKS qRF σ 122 [some (.ref 104), none, some (.int x2), some (.int x3), some (.int x4), some (.int x5), some (.int x6), some (.int x7), none] [] := by
  unfold p_M_dawn_l122 at h
  refine q_iload hX d_M_dawn_122 rfl ?_
  refine q_if_lt hX d_M_dawn_124 rfl h (fun _ h => ?_) (fun _ h => ?_)
  · refine q_iload_n hX d_M_dawn_280 rfl ?_
    refine q_ldc hX w_1335 d_M_dawn_281 ?_
    refine q_icmp_ne hX d_M_dawn_283 rfl h (fun _ h => ?_) (fun _ h => ?_)
    · refine q_iconst hX d_M_dawn_289 ic_0 ?_
      refine q_istore hX d_M_dawn_290 (by decide) rfl rfl ?_
      exact q_mask [true, false, false, true, true, false, false, false, true] rfl (t_M_dawn_l292 hX hT f _ h)
    · refine q_iload hX d_M_dawn_286 rfl ?_
      exact q_iretW hX h hT d_M_dawn_288
  · refine q_iload hX d_M_dawn_127 rfl ?_
    refine q_aload_n hX d_M_dawn_129 rfl ?_
    refine q_getR hX fl_M_125 kc_104 (rfl : qRF 104 59 = some 143) d_M_dawn_130 ?_
    refine q_iload hX d_M_dawn_133 rfl ?_
    refine q_iald hX kc_143 d_M_dawn_135 h (fun hi13 h => ?_)
    refine q_iconst hX d_M_dawn_136 ic_5 ?_
    refine q_icmp_ne hX d_M_dawn_137 rfl h (fun _ h => ?_) (fun _ h => ?_)
    · refine q_iconst hX d_M_dawn_144 ic_0 ?_
      exact q_mask [true, false, true, true, true, true, true, false, false] rfl (t_M_dawn_b145 hX hT hk122 h)
    · refine q_iconst hX d_M_dawn_140 ic_1 ?_
      refine q_goto hX d_M_dawn_141 rfl ?_
      exact q_mask [true, false, true, true, true, true, true, false, false] rfl (t_M_dawn_b145 hX hT hk122 h)
theorem t_M_dawn_l122 {G : qG} {X : qX} (hX : qOk G X "ChantryRollsModel" prog_14_method_72_code 9 (some .int) 3) {u : Int32 × qMem} {f : Nat} {x2 : Int32} {x3 : Int32} {x4 : Int32} (hT : qTg G X 0 0 qKS qRF u.2 (some (.int u.1))) : ∀ (n : Nat) (σ : qMem) (x5 : Int32) (x6 : Int32) (x7 : Int32), qfix4 (p_M_dawn_l122 f  x2 x3 x4 ) n σ x5 x6 x7 = some u → qV G X 0 0 qKS qRF σ 122 [some (.ref 104), none, some (.int x2), some (.int x3), some (.int x4), some (.int x5), some (.int x6), some (.int x7), none] [] :=
  qfix4_ind (fun k hk _ _ _ _ h => t_M_dawn_lb122 hX   hT  hk h)
set_option maxHeartbeats 4000000 in
theorem t_M_dawn_b106 {G : qG} {X : qX} (hX : qOk G X "ChantryRollsModel" prog_14_method_72_code 9 (some .int) 3) {u : Int32 × qMem} {f : Nat} {σ : qMem} {x2 : Int32} {x3 : Int32} {x4 : Int32} (hT : qTg G X 0 0 qKS qRF u.2 (some (.int u.1))) (h : p_M_dawn_b106 f    σ x2 x3 x4 = some u) : qV G X 0 0 qKS qRF σ 106 [some (.ref 104), none, some (.int x2), some (.int x3), some (.int x4), none, none, none, none] [] := by
  unfold p_M_dawn_b106 at h
  refine q_iconst hX d_M_dawn_106 ic_m1 ?_
  refine q_istore hX d_M_dawn_107 (by decide) rfl rfl ?_
  refine q_iconst hX d_M_dawn_109 ic_0 ?_
  refine q_istore hX d_M_dawn_110 (by decide) rfl rfl ?_
  refine q_iconst hX d_M_dawn_112 ic_0 ?_
  refine q_istore hX d_M_dawn_113 (by decide) rfl rfl ?_
  refine q_aload_n hX d_M_dawn_115 rfl ?_
  refine q_getR hX fl_M_125 kc_104 (rfl : qRF 104 59 = some 143) d_M_dawn_116 ?_
  refine q_iconst hX d_M_dawn_119 ic_0 ?_
  refine q_iconst hX d_M_dawn_120 ic_m1 ?_
  refine q_iast hX kc_143 qKS_len d_M_dawn_121 h (fun hi14 h => ?_)
  exact q_mask [true, false, true, true, true, true, true, true, false] rfl (t_M_dawn_l122 hX hT f _ _ _ _ h)
set_option maxHeartbeats 4000000 in
theorem t_M_dawn_b57 {G : qG} {X : qX} (hX : qOk G X "ChantryRollsModel" prog_14_method_72_code 9 (some .int) 3) {u : Int32 × qMem} {f : Nat} {σ : qMem} {x1 : Int32} {x2 : Int32} {x3 : Int32} {x4 : Int32} (hT : qTg G X 0 0 qKS qRF u.2 (some (.int u.1))) (h : p_M_dawn_b57 f    σ x1 x2 x3 x4 = some u) : qV G X 0 0 qKS qRF σ 57 [some (.ref 104), some (.int x1), some (.int x2), some (.int x3), some (.int x4), none, none, none, none] [] := by
  unfold p_M_dawn_b57 at h
  refine q_iload_n hX d_M_dawn_57 rfl ?_
  refine q_iconst hX d_M_dawn_58 ic_1 ?_
  refine q_icmp_lt hX d_M_dawn_59 rfl h (fun _ h => ?_) (fun _ h => ?_)
  · refine q_ldc hX w_1298 d_M_dawn_103 ?_
    exact q_iretW hX h hT d_M_dawn_105
  · refine q_iload_n hX d_M_dawn_62 rfl ?_
    refine q_aload_n hX d_M_dawn_63 rfl ?_
    refine q_getI hX fl_M_162 kc_104 d_M_dawn_64 ?_
    refine q_ishr hX d_M_dawn_67 ?_
    refine q_if_gt hX d_M_dawn_68 rfl h (fun _ h => ?_) (fun _ h => ?_)
    · refine q_ldc hX w_1298 d_M_dawn_103 ?_
      exact q_iretW hX h hT d_M_dawn_105
    · refine q_iload hX d_M_dawn_71 rfl ?_
      refine q_bipush hX d_M_dawn_73 bp_8 ?_
      refine q_icmp_gt hX d_M_dawn_75 rfl h (fun _ h => ?_) (fun _ h => ?_)
      · refine q_ldc hX w_1298 d_M_dawn_103 ?_
        exact q_iretW hX h hT d_M_dawn_105
      · refine q_iload_n hX d_M_dawn_78 rfl ?_
        obtain ⟨u15, hc16, h⟩ := qbind h
        refine q_cSr hX (c_M_isDay X.l G hX.ad f _ _ hc16) cw_M_274 rfl (Nat.le_of_ble_eq_true rfl) rfl (Nat.le_of_ble_eq_true rfl) d_M_dawn_79 ?_
        refine q_if_eq hX d_M_dawn_82 rfl h (fun _ h => ?_) (fun _ h => ?_)
        · refine q_ldc hX w_1298 d_M_dawn_103 ?_
          exact q_iretW hX h hT d_M_dawn_105
        · refine q_iload_n hX d_M_dawn_85 rfl ?_
          refine q_ldc hX w_1335 d_M_dawn_86 ?_
          refine q_icmp_eq hX d_M_dawn_88 rfl h (fun _ h => ?_) (fun _ h => ?_)
          · exact q_mask [true, false, true, true, true, false, false, false, false] rfl (t_M_dawn_b106 hX hT h)
          · refine q_iload_n hX d_M_dawn_91 rfl ?_
            refine q_i2l hX d_M_dawn_92 ?_
            refine q_lconst hX d_M_dawn_93 lc_0 ?_
            refine q_ldc2 hX w_1588 d_M_dawn_94 ?_
            obtain ⟨u17, hc18, h⟩ := qbind h
            refine q_cSr hX (c_M_in X.l G hX.ad f _ _ _ _ hc18) cw_M_147 rfl (Nat.le_of_ble_eq_true rfl) rfl (Nat.le_of_ble_eq_true rfl) d_M_dawn_97 ?_
            refine q_if_ne hX d_M_dawn_100 rfl h (fun _ h => ?_) (fun _ h => ?_)
            · exact q_mask [true, false, true, true, true, false, false, false, false] rfl (t_M_dawn_b106 hX hT h)
            · refine q_ldc hX w_1298 d_M_dawn_103 ?_
              exact q_iretW hX h hT d_M_dawn_105
set_option maxHeartbeats 4000000 in
theorem t_M_dawn_lb11 {G : qG} {X : qX} (hX : qOk G X "ChantryRollsModel" prog_14_method_72_code 9 (some .int) 3) {u : Int32 × qMem} {f : Nat} {x1 : Int32} {x2 : Int32} {x3 : Int32} (hT : qTg G X 0 0 qKS qRF u.2 (some (.int u.1))) {k11 : qMem → Int32 → Int32 → Option (Int32 × qMem)} (hk11 : ∀ (σ : qMem) (x4 : Int32) (x5 : Int32), k11 σ x4 x5 = some u → qV G X 0 0 qKS qRF σ 11 [some (.ref 104), some (.int x1), some (.int x2), some (.int x3), some (.int x4), some (.int x5), none, none, none] []) {σ : qMem} {x4 : Int32} {x5 : Int32} (h : p_M_dawn_l11 f  x1 x2 x3  k11 σ x4 x5 = some u) : qV G X 0 0 qKS qRF σ 11 [some (.ref 104), some (.int x1), some (.int x2), some (.int x3), some (.int x4), some (.int x5), none, none, none] [] := by
  unfold p_M_dawn_l11 at h
  refine q_iload hX d_M_dawn_11 rfl ?_
  refine q_bipush hX d_M_dawn_13 bp_12 ?_
  refine q_icmp_ge hX d_M_dawn_15 rfl h (fun _ h => ?_) (fun _ h => ?_)
  · exact q_mask [true, true, true, true, true, false, false, false, false] rfl (t_M_dawn_b57 hX hT h)
  · refine q_iload_n hX d_M_dawn_18 rfl ?_
    refine q_if_le hX d_M_dawn_19 rfl h (fun _ h => ?_) (fun _ h => ?_)
    · exact q_mask [true, true, true, true, true, false, false, false, false] rfl (t_M_dawn_b57 hX hT h)
    · refine q_iload_n hX d_M_dawn_22 rfl ?_
      refine q_iload hX d_M_dawn_23 rfl ?_
      refine q_ishr hX d_M_dawn_25 ?_
      refine q_iconst hX d_M_dawn_26 ic_1 ?_
      refine q_iand hX d_M_dawn_27 ?_
      refine q_iconst hX d_M_dawn_28 ic_1 ?_
      refine q_icmp_ne hX d_M_dawn_29 rfl h (fun _ h => ?_) (fun _ h => ?_)
      · refine q_iinc hX d_M_dawn_51 rfl (ii_1 _) (by decide) rfl rfl ?_
        refine q_goto hX d_M_dawn_54 rfl ?_
        exact q_mask [true, true, true, true, true, true, false, false, false] rfl (hk11 _ _ _ h)
      · refine q_iload hX d_M_dawn_32 rfl ?_
        refine q_bipush hX d_M_dawn_34 bp_8 ?_
        refine q_icmp_ge hX d_M_dawn_36 rfl h (fun _ h => ?_) (fun _ h => ?_)
        · refine q_iinc hX d_M_dawn_48 rfl (ii_1 _) (by decide) rfl rfl ?_
          refine q_iinc hX d_M_dawn_51 rfl (ii_1 _) (by decide) rfl rfl ?_
          refine q_goto hX d_M_dawn_54 rfl ?_
          exact q_mask [true, true, true, true, true, true, false, false, false] rfl (hk11 _ _ _ h)
        · refine q_aload_n hX d_M_dawn_39 rfl ?_
          refine q_getR hX fl_M_131 kc_104 (rfl : qRF 104 61 = some 145) d_M_dawn_40 ?_
          refine q_iload hX d_M_dawn_43 rfl ?_
          refine q_iload hX d_M_dawn_45 rfl ?_
          refine q_iast hX kc_145 qKS_len d_M_dawn_47 h (fun hi19 h => ?_)
          refine q_iinc hX d_M_dawn_48 rfl (ii_1 _) (by decide) rfl rfl ?_
          refine q_iinc hX d_M_dawn_51 rfl (ii_1 _) (by decide) rfl rfl ?_
          refine q_goto hX d_M_dawn_54 rfl ?_
          exact q_mask [true, true, true, true, true, true, false, false, false] rfl (hk11 _ _ _ h)
theorem t_M_dawn_l11 {G : qG} {X : qX} (hX : qOk G X "ChantryRollsModel" prog_14_method_72_code 9 (some .int) 3) {u : Int32 × qMem} {f : Nat} {x1 : Int32} {x2 : Int32} {x3 : Int32} (hT : qTg G X 0 0 qKS qRF u.2 (some (.int u.1))) : ∀ (n : Nat) (σ : qMem) (x4 : Int32) (x5 : Int32), qfix3 (p_M_dawn_l11 f  x1 x2 x3 ) n σ x4 x5 = some u → qV G X 0 0 qKS qRF σ 11 [some (.ref 104), some (.int x1), some (.int x2), some (.int x3), some (.int x4), some (.int x5), none, none, none] [] :=
  qfix3_ind (fun k hk _ _ _ h => t_M_dawn_lb11 hX   hT  hk h)
set_option maxHeartbeats 4000000 in
theorem c_M_dawn (l : Launch) (G : qG) (hA : qAd G) (f : Nat) (σ : qMem) (x1 : Int32) (x2 : Int32) (x3 : Int32) {u : Int32 × qMem} (h : p_M_dawn f σ x1 x2 x3 = some u) : qCt l y_M_dawn prog_14_method_72_code 9 (some .int) 3 G qKS qRF σ [(.ref 104), (.int x1), (.int x2), (.int x3)] (some (.int u.1)) qKS qRF u.2 0 0 := by
  refine qCt.of (lv := [some (.ref 104), some (.int x1), some (.int x2), some (.int x3), none, none, none, none, none]) (by decide) hA (Nat.le_of_ble_eq_true rfl) rfl ?_
  intro X hl _ _ _ hX hT
  subst hl
  unfold p_M_dawn at h
  refine q_aload_n hX d_M_dawn_0 rfl ?_
  refine q_iconst hX d_M_dawn_1 ic_0 ?_
  refine q_putI hX fl_M_137 kc_104 rfl qKS_len d_M_dawn_2 ?_
  refine q_iconst hX d_M_dawn_5 ic_0 ?_
  refine q_istore hX d_M_dawn_6 (by decide) rfl rfl ?_
  refine q_iconst hX d_M_dawn_8 ic_0 ?_
  refine q_istore hX d_M_dawn_9 (by decide) rfl rfl ?_
  exact q_mask [true, true, true, true, true, true, false, false, false] rfl (t_M_dawn_l11 hX hT f _ _ _ h)
