set_option maxHeartbeats 4000000 in
theorem c_Houses_addBid (l : Launch) (G : qG) (hA : qAd G) (f : Nat) (σ : qMem) (x1 : Int32) (x2 : Int32) (x3 : Int32) {u : Int32 × qMem} (h : p_Houses_addBid f σ x1 x2 x3 = some u) : qCt l y_Houses_addBid prog_6_method_12_code 4 (some .int) 1 G qKS qRF σ [(.ref 53), (.int x1), (.int x2), (.int x3)] (some (.int u.1)) qKS qRF u.2 0 0 := by
  refine qCt.of (lv := [some (.ref 53), some (.int x1), some (.int x2), some (.int x3)]) (by decide) hA (Nat.le_of_ble_eq_true rfl) rfl ?_
  intro X hl _ _ _ hX hT
  subst hl
  unfold p_Houses_addBid at h
  refine q_aload_n hX d_Houses_addBid_0 rfl ?_
  refine q_getR hX fl_Houses_38 kc_53 (rfl : qRF 53 7 = some 63) d_Houses_addBid_1 ?_
  refine q_aload_n hX d_Houses_addBid_4 rfl ?_
  refine q_getI hX fl_Houses_47 kc_53 d_Houses_addBid_5 ?_
  refine q_iload_n hX d_Houses_addBid_8 rfl ?_
  refine q_iast hX kc_63 qKS_len d_Houses_addBid_9 h (fun hi1 h => ?_)
  refine q_aload_n hX d_Houses_addBid_10 rfl ?_
  refine q_getR hX fl_Houses_41 kc_53 (rfl : qRF 53 8 = some 64) d_Houses_addBid_11 ?_
  refine q_aload_n hX d_Houses_addBid_14 rfl ?_
  refine q_getI hX fl_Houses_47 kc_53 d_Houses_addBid_15 ?_
  refine q_iload_n hX d_Houses_addBid_18 rfl ?_
  refine q_iast hX kc_64 qKS_len d_Houses_addBid_19 h (fun hi2 h => ?_)
  refine q_aload_n hX d_Houses_addBid_20 rfl ?_
  refine q_getR hX fl_Houses_44 kc_53 (rfl : qRF 53 9 = some 65) d_Houses_addBid_21 ?_
  refine q_aload_n hX d_Houses_addBid_24 rfl ?_
  refine q_getI hX fl_Houses_47 kc_53 d_Houses_addBid_25 ?_
  refine q_iload_n hX d_Houses_addBid_28 rfl ?_
  refine q_iast hX kc_65 qKS_len d_Houses_addBid_29 h (fun hi3 h => ?_)
  refine q_aload_n hX d_Houses_addBid_30 rfl ?_
  refine q_dup hX rfl d_Houses_addBid_31 ?_
  refine q_getI hX fl_Houses_47 kc_53 d_Houses_addBid_32 ?_
  refine q_iconst hX d_Houses_addBid_35 ic_1 ?_
  refine q_iadd hX d_Houses_addBid_36 ?_
  refine q_putI hX fl_Houses_47 kc_53 rfl qKS_len d_Houses_addBid_37 ?_
  refine q_aload_n hX d_Houses_addBid_40 rfl ?_
  refine q_getI hX fl_Houses_47 kc_53 d_Houses_addBid_41 ?_
  exact q_iretW hX h hT d_Houses_addBid_44
set_option maxHeartbeats 4000000 in
theorem c_C_bid (l : Launch) (G : qG) (hA : qAd G) (f : Nat) (σ : qMem) (x1 : Int32) (x2 : Int32) (x3 : Int32) {u : Int32 × qMem} (h : p_C_bid f σ x1 x2 x3 = some u) : qCt l y_C_bid prog_1_method_32_code 4 (some .int) 3 G qKS qRF σ [(.ref 0), (.int x1), (.int x2), (.int x3)] (some (.int u.1)) qKS qRF u.2 0 0 := by
  refine qCt.of (lv := [some (.ref 0), some (.int x1), some (.int x2), some (.int x3)]) (by decide) hA (Nat.le_of_ble_eq_true rfl) rfl ?_
  intro X hl _ _ _ hX hT
  subst hl
  unfold p_C_bid at h
  refine q_iload_n hX d_C_bid_0 rfl ?_
  obtain ⟨u1, hc2, h⟩ := qbind h
  refine q_cSr hX (c_C_noHouse X.l G hX.ad f _ _ hc2) cw_C_232 rfl (Nat.le_of_ble_eq_true rfl) rfl (Nat.le_of_ble_eq_true rfl) d_C_bid_1 ?_
  refine q_if_ne hX d_C_bid_4 rfl h (fun _ h => ?_) (fun _ h => ?_)
  · refine q_ldc hX w_383 d_C_bid_28 ?_
    exact q_iretW hX h hT d_C_bid_30
  · refine q_iload_n hX d_C_bid_7 rfl ?_
    refine q_iconst hX d_C_bid_8 ic_0 ?_
    refine q_bipush hX d_C_bid_9 bp_9 ?_
    obtain ⟨u3, hc4, h⟩ := qbind h
    refine q_cSr hX (c_C_outside X.l G hX.ad f _ _ _ _ hc4) cw_C_122 rfl (Nat.le_of_ble_eq_true rfl) rfl (Nat.le_of_ble_eq_true rfl) d_C_bid_11 ?_
    refine q_if_ne hX d_C_bid_14 rfl h (fun _ h => ?_) (fun _ h => ?_)
    · refine q_ldc hX w_383 d_C_bid_28 ?_
      exact q_iretW hX h hT d_C_bid_30
    · refine q_iload_n hX d_C_bid_17 rfl ?_
      refine q_iconst hX d_C_bid_18 ic_1 ?_
      refine q_ldcw hX w_930 d_C_bid_19 ?_
      obtain ⟨u5, hc6, h⟩ := qbind h
      refine q_cSr hX (c_C_outside X.l G hX.ad f _ _ _ _ hc6) cw_C_122 rfl (Nat.le_of_ble_eq_true rfl) rfl (Nat.le_of_ble_eq_true rfl) d_C_bid_22 ?_
      refine q_if_eq hX d_C_bid_25 rfl h (fun _ h => ?_) (fun _ h => ?_)
      · refine q_aload_n hX d_C_bid_31 rfl ?_
        refine q_getR hX fl_C_76 kc_0 (rfl : qRF 0 9 = some 53) d_C_bid_32 ?_
        obtain ⟨u7, hc8, h⟩ := qbind h
        refine q_cVr hX (c_Houses_bidsFull X.l G hX.ad f _  hc8) cw_C_302 rfl kc_53 rfl (Nat.le_of_ble_eq_true rfl) rfl (Nat.le_of_ble_eq_true rfl) d_C_bid_35 ?_
        refine q_if_eq hX d_C_bid_38 rfl h (fun _ h => ?_) (fun _ h => ?_)
        · refine q_aload_n hX d_C_bid_46 rfl ?_
          refine q_getR hX fl_C_76 kc_0 (rfl : qRF 0 9 = some 53) d_C_bid_47 ?_
          refine q_iload_n hX d_C_bid_50 rfl ?_
          refine q_iload_n hX d_C_bid_51 rfl ?_
          refine q_iload_n hX d_C_bid_52 rfl ?_
          obtain ⟨u9, hc10, h⟩ := qbind h
          refine q_cVr hX (c_Houses_addBid X.l G hX.ad f _ _ _ _ hc10) cw_C_305 rfl kc_53 rfl (Nat.le_of_ble_eq_true rfl) rfl (Nat.le_of_ble_eq_true rfl) d_C_bid_53 ?_
          exact q_iretW hX h hT d_C_bid_56
        · refine q_ldc hX w_609 d_C_bid_41 ?_
          refine q_goto hX d_C_bid_43 rfl ?_
          exact q_iretW hX h hT d_C_bid_56
      · refine q_ldc hX w_383 d_C_bid_28 ?_
        exact q_iretW hX h hT d_C_bid_30
set_option maxHeartbeats 4000000 in
theorem t_Acts_wholeHouseTakenBy_lb5 {G : qG} {X : qX} (hX : qOk G X "ChantryRolls$Acts" prog_2_method_9_code 5 (some .boolean) 4) {u : Int32} {f : Nat} {σ : qMem} {x1 : Int32} {x2 : Int32} (hT : qTg G X 0 0 qKS qRF σ (some (.int u))) {k5 : Int32 → Int32 → Option (Int32)} (hk5 : ∀ (x3 : Int32) (x4 : Int32), k5 x3 x4 = some u → qV G X 0 0 qKS qRF σ 5 [some (.ref 37), some (.int x1), some (.int x2), some (.int x3), some (.int x4)] []) {x3 : Int32} {x4 : Int32} (h : p_Acts_wholeHouseTakenBy_l5 f  σ x1 x2  k5 x3 x4 = some u) : qV G X 0 0 qKS qRF σ 5 [some (.ref 37), some (.int x1), some (.int x2), some (.int x3), some (.int x4)] [] := by
  unfold p_Acts_wholeHouseTakenBy_l5 at h
  refine q_iload hX d_Acts_wholeHouseTakenBy_5 rfl ?_
  refine q_aload_n hX d_Acts_wholeHouseTakenBy_7 rfl ?_
  refine q_getR hX fl_Acts_28 kc_37 (rfl : qRF 37 0 = some 13) d_Acts_wholeHouseTakenBy_8 ?_
  obtain ⟨u1, hc2, h⟩ := qbind h
  refine q_cVr hX (c_Promises_size X.l G hX.ad f _  hc2) cw_Acts_55 rfl kc_13 rfl (Nat.le_of_ble_eq_true rfl) rfl (Nat.le_of_ble_eq_true rfl) d_Acts_wholeHouseTakenBy_11 ?_
  refine q_icmp_ge hX d_Acts_wholeHouseTakenBy_14 rfl h (fun _ h => ?_) (fun _ h => ?_)
  · refine q_iload_n hX d_Acts_wholeHouseTakenBy_52 rfl ?_
    exact q_zretR hX rfl h hT d_Acts_wholeHouseTakenBy_53
  · refine q_aload_n hX d_Acts_wholeHouseTakenBy_17 rfl ?_
    refine q_getR hX fl_Acts_28 kc_37 (rfl : qRF 37 0 = some 13) d_Acts_wholeHouseTakenBy_18 ?_
    refine q_iload hX d_Acts_wholeHouseTakenBy_21 rfl ?_
    refine q_bipush hX d_Acts_wholeHouseTakenBy_23 bp_7 ?_
    obtain ⟨u3, hc4, h⟩ := qbind h
    refine q_cVr hX (c_Promises_of X.l G hX.ad f _ _ _ hc4) cw_Acts_32 rfl kc_13 rfl (Nat.le_of_ble_eq_true rfl) rfl (Nat.le_of_ble_eq_true rfl) d_Acts_wholeHouseTakenBy_25 ?_
    refine q_iload_n hX d_Acts_wholeHouseTakenBy_28 rfl ?_
    refine q_icmp_ne hX d_Acts_wholeHouseTakenBy_29 rfl h (fun _ h => ?_) (fun _ h => ?_)
    · refine q_iinc hX d_Acts_wholeHouseTakenBy_46 rfl (ii_1 _) (by decide) rfl rfl ?_
      refine q_goto hX d_Acts_wholeHouseTakenBy_49 rfl ?_
      exact q_mask [true, true, true, true, true] rfl (hk5 _ _ h)
    · refine q_iconst hX d_Acts_wholeHouseTakenBy_32 ic_1 ?_
      refine q_istore_n hX d_Acts_wholeHouseTakenBy_33 (by decide) rfl rfl ?_
      refine q_aload_n hX d_Acts_wholeHouseTakenBy_34 rfl ?_
      refine q_iload hX d_Acts_wholeHouseTakenBy_35 rfl ?_
      refine q_iload_n hX d_Acts_wholeHouseTakenBy_37 rfl ?_
      obtain ⟨u5, hc6, h⟩ := qbind h
      refine q_cVr hX (c_Acts_takenBy X.l G hX.ad f _ _ _ hc6) cw_Acts_51 rfl kc_37 rfl (Nat.le_of_ble_eq_true rfl) rfl (Nat.le_of_ble_eq_true rfl) d_Acts_wholeHouseTakenBy_38 ?_
      refine q_if_ne hX d_Acts_wholeHouseTakenBy_41 rfl h (fun _ h => ?_) (fun _ h => ?_)
      · refine q_iinc hX d_Acts_wholeHouseTakenBy_46 rfl (ii_1 _) (by decide) rfl rfl ?_
        refine q_goto hX d_Acts_wholeHouseTakenBy_49 rfl ?_
        exact q_mask [true, true, true, true, true] rfl (hk5 _ _ h)
      · refine q_iconst hX d_Acts_wholeHouseTakenBy_44 ic_0 ?_
        exact q_zretR hX zn_0 h hT d_Acts_wholeHouseTakenBy_45
theorem t_Acts_wholeHouseTakenBy_l5 {G : qG} {X : qX} (hX : qOk G X "ChantryRolls$Acts" prog_2_method_9_code 5 (some .boolean) 4) {u : Int32} {f : Nat} {σ : qMem} {x1 : Int32} {x2 : Int32} (hT : qTg G X 0 0 qKS qRF σ (some (.int u))) : ∀ (n : Nat) (x3 : Int32) (x4 : Int32), qfix2 (p_Acts_wholeHouseTakenBy_l5 f  σ x1 x2 ) n x3 x4 = some u → qV G X 0 0 qKS qRF σ 5 [some (.ref 37), some (.int x1), some (.int x2), some (.int x3), some (.int x4)] [] :=
  qfix2_ind (fun k hk _ _ h => t_Acts_wholeHouseTakenBy_lb5 hX   hT  hk h)
set_option maxHeartbeats 4000000 in
theorem c_Acts_wholeHouseTakenBy (l : Launch) (G : qG) (hA : qAd G) (f : Nat) (σ : qMem) (x1 : Int32) (x2 : Int32) {u : Int32} (h : p_Acts_wholeHouseTakenBy f σ x1 x2 = some u) : qCt l y_Acts_wholeHouseTakenBy prog_2_method_9_code 5 (some .boolean) 4 G qKS qRF σ [(.ref 37), (.int x1), (.int x2)] (some (.int u)) qKS qRF σ 0 0 := by
  refine qCt.of (lv := [some (.ref 37), some (.int x1), some (.int x2), none, none]) (by decide) hA (Nat.le_of_ble_eq_true rfl) rfl ?_
  intro X hl _ _ _ hX hT
  subst hl
  unfold p_Acts_wholeHouseTakenBy at h
  refine q_iconst hX d_Acts_wholeHouseTakenBy_0 ic_0 ?_
  refine q_istore_n hX d_Acts_wholeHouseTakenBy_1 (by decide) rfl rfl ?_
  refine q_iconst hX d_Acts_wholeHouseTakenBy_2 ic_0 ?_
  refine q_istore hX d_Acts_wholeHouseTakenBy_3 (by decide) rfl rfl ?_
  exact q_mask [true, true, true, true, true] rfl (t_Acts_wholeHouseTakenBy_l5 hX hT f _ _ h)
set_option maxHeartbeats 4000000 in
theorem t_Houses_greatestBidder_lb8 {G : qG} {X : qX} (hX : qOk G X "ChantryRolls$Houses" prog_6_method_13_code 5 (some .int) 1) {u : Int32} {f : Nat} {σ : qMem} {x1 : Int32} (hT : qTg G X 0 0 qKS qRF σ (some (.int u))) {k8 : Int32 → Int32 → Int32 → Option (Int32)} (hk8 : ∀ (x2 : Int32) (x3 : Int32) (x4 : Int32), k8 x2 x3 x4 = some u → qV G X 0 0 qKS qRF σ 8 [some (.ref 53), some (.int x1), some (.int x2), some (.int x3), some (.int x4)] []) {x2 : Int32} {x3 : Int32} {x4 : Int32} (h : p_Houses_greatestBidder_l8 f  σ x1  k8 x2 x3 x4 = some u) : qV G X 0 0 qKS qRF σ 8 [some (.ref 53), some (.int x1), some (.int x2), some (.int x3), some (.int x4)] [] := by
  unfold p_Houses_greatestBidder_l8 at h
  refine q_iload hX d_Houses_greatestBidder_8 rfl ?_
  refine q_aload_n hX d_Houses_greatestBidder_10 rfl ?_
  refine q_getI hX fl_Houses_47 kc_53 d_Houses_greatestBidder_11 ?_
  refine q_icmp_ge hX d_Houses_greatestBidder_14 rfl h (fun _ h => ?_) (fun _ h => ?_)
  · refine q_iload_n hX d_Houses_greatestBidder_61 rfl ?_
    exact q_iretR hX h hT d_Houses_greatestBidder_62
  · refine q_aload_n hX d_Houses_greatestBidder_17 rfl ?_
    refine q_getR hX fl_Houses_38 kc_53 (rfl : qRF 53 7 = some 63) d_Houses_greatestBidder_18 ?_
    refine q_iload hX d_Houses_greatestBidder_21 rfl ?_
    refine q_iald hX kc_63 d_Houses_greatestBidder_23 h (fun hi1 h => ?_)
    refine q_iload_n hX d_Houses_greatestBidder_24 rfl ?_
    refine q_icmp_ne hX d_Houses_greatestBidder_25 rfl h (fun _ h => ?_) (fun _ h => ?_)
    · refine q_iinc hX d_Houses_greatestBidder_55 rfl (ii_1 _) (by decide) rfl rfl ?_
      refine q_goto hX d_Houses_greatestBidder_58 rfl ?_
      exact q_mask [true, true, true, true, true] rfl (hk8 _ _ _ h)
    · refine q_aload_n hX d_Houses_greatestBidder_28 rfl ?_
      refine q_getR hX fl_Houses_44 kc_53 (rfl : qRF 53 9 = some 65) d_Houses_greatestBidder_29 ?_
      refine q_iload hX d_Houses_greatestBidder_32 rfl ?_
      refine q_iald hX kc_65 d_Houses_greatestBidder_34 h (fun hi2 h => ?_)
      refine q_iload_n hX d_Houses_greatestBidder_35 rfl ?_
      refine q_icmp_le hX d_Houses_greatestBidder_36 rfl h (fun _ h => ?_) (fun _ h => ?_)
      · refine q_iinc hX d_Houses_greatestBidder_55 rfl (ii_1 _) (by decide) rfl rfl ?_
        refine q_goto hX d_Houses_greatestBidder_58 rfl ?_
        exact q_mask [true, true, true, true, true] rfl (hk8 _ _ _ h)
      · refine q_aload_n hX d_Houses_greatestBidder_39 rfl ?_
        refine q_getR hX fl_Houses_44 kc_53 (rfl : qRF 53 9 = some 65) d_Houses_greatestBidder_40 ?_
        refine q_iload hX d_Houses_greatestBidder_43 rfl ?_
        refine q_iald hX kc_65 d_Houses_greatestBidder_45 h (fun hi3 h => ?_)
        refine q_istore_n hX d_Houses_greatestBidder_46 (by decide) rfl rfl ?_
        refine q_aload_n hX d_Houses_greatestBidder_47 rfl ?_
        refine q_getR hX fl_Houses_41 kc_53 (rfl : qRF 53 8 = some 64) d_Houses_greatestBidder_48 ?_
        refine q_iload hX d_Houses_greatestBidder_51 rfl ?_
        refine q_iald hX kc_64 d_Houses_greatestBidder_53 h (fun hi4 h => ?_)
        refine q_istore_n hX d_Houses_greatestBidder_54 (by decide) rfl rfl ?_
        refine q_iinc hX d_Houses_greatestBidder_55 rfl (ii_1 _) (by decide) rfl rfl ?_
        refine q_goto hX d_Houses_greatestBidder_58 rfl ?_
        exact q_mask [true, true, true, true, true] rfl (hk8 _ _ _ h)
theorem t_Houses_greatestBidder_l8 {G : qG} {X : qX} (hX : qOk G X "ChantryRolls$Houses" prog_6_method_13_code 5 (some .int) 1) {u : Int32} {f : Nat} {σ : qMem} {x1 : Int32} (hT : qTg G X 0 0 qKS qRF σ (some (.int u))) : ∀ (n : Nat) (x2 : Int32) (x3 : Int32) (x4 : Int32), qfix3 (p_Houses_greatestBidder_l8 f  σ x1 ) n x2 x3 x4 = some u → qV G X 0 0 qKS qRF σ 8 [some (.ref 53), some (.int x1), some (.int x2), some (.int x3), some (.int x4)] [] :=
  qfix3_ind (fun k hk _ _ _ h => t_Houses_greatestBidder_lb8 hX   hT  hk h)
set_option maxHeartbeats 4000000 in
theorem c_Houses_greatestBidder (l : Launch) (G : qG) (hA : qAd G) (f : Nat) (σ : qMem) (x1 : Int32) {u : Int32} (h : p_Houses_greatestBidder f σ x1 = some u) : qCt l y_Houses_greatestBidder prog_6_method_13_code 5 (some .int) 1 G qKS qRF σ [(.ref 53), (.int x1)] (some (.int u)) qKS qRF σ 0 0 := by
  refine qCt.of (lv := [some (.ref 53), some (.int x1), none, none, none]) (by decide) hA (Nat.le_of_ble_eq_true rfl) rfl ?_
  intro X hl _ _ _ hX hT
  subst hl
  unfold p_Houses_greatestBidder at h
  refine q_ldc hX w_952 d_Houses_greatestBidder_0 ?_
  refine q_istore_n hX d_Houses_greatestBidder_2 (by decide) rfl rfl ?_
  refine q_iconst hX d_Houses_greatestBidder_3 ic_0 ?_
  refine q_istore_n hX d_Houses_greatestBidder_4 (by decide) rfl rfl ?_
  refine q_iconst hX d_Houses_greatestBidder_5 ic_0 ?_
  refine q_istore hX d_Houses_greatestBidder_6 (by decide) rfl rfl ?_
  exact q_mask [true, true, true, true, true] rfl (t_Houses_greatestBidder_l8 hX hT f _ _ _ h)
set_option maxHeartbeats 4000000 in
theorem c_C_sold (l : Launch) (G : qG) (hA : qAd G) (f : Nat) (σ : qMem) (x1 : Int32) (x2 : Int32) {u : Int32} (h : p_C_sold f σ x1 x2 = some u) : qCt l y_C_sold prog_1_method_33_code 3 (some .int) 5 G qKS qRF σ [(.ref 0), (.int x1), (.int x2)] (some (.int u)) qKS qRF σ 0 0 := by
  refine qCt.of (lv := [some (.ref 0), some (.int x1), some (.int x2)]) (by decide) hA (Nat.le_of_ble_eq_true rfl) rfl ?_
  intro X hl _ _ _ hX hT
  subst hl
  unfold p_C_sold at h
  refine q_iload_n hX d_C_sold_0 rfl ?_
  obtain ⟨u1, hc2, h⟩ := qbind h
  refine q_cSr hX (c_C_noHouse X.l G hX.ad f _ _ hc2) cw_C_232 rfl (Nat.le_of_ble_eq_true rfl) rfl (Nat.le_of_ble_eq_true rfl) d_C_sold_1 ?_
  refine q_if_ne hX d_C_sold_4 rfl h (fun _ h => ?_) (fun _ h => ?_)
  · refine q_ldc hX w_383 d_C_sold_14 ?_
    exact q_iretR hX h hT d_C_sold_16
  · refine q_iload_n hX d_C_sold_7 rfl ?_
    obtain ⟨u3, hc4, h⟩ := qbind h
    refine q_cSr hX (c_C_noDay X.l G hX.ad f _ _ hc4) cw_C_178 rfl (Nat.le_of_ble_eq_true rfl) rfl (Nat.le_of_ble_eq_true rfl) d_C_sold_8 ?_
    refine q_if_eq hX d_C_sold_11 rfl h (fun _ h => ?_) (fun _ h => ?_)
    · refine q_aload_n hX d_C_sold_17 rfl ?_
      refine q_getR hX fl_C_53 kc_0 (rfl : qRF 0 6 = some 37) d_C_sold_18 ?_
      refine q_iload_n hX d_C_sold_21 rfl ?_
      refine q_iload_n hX d_C_sold_22 rfl ?_
      obtain ⟨u5, hc6, h⟩ := qbind h
      refine q_cVr hX (c_Acts_wholeHouseTakenBy X.l G hX.ad f _ _ _ hc6) cw_C_308 rfl kc_37 rfl (Nat.le_of_ble_eq_true rfl) rfl (Nat.le_of_ble_eq_true rfl) d_C_sold_23 ?_
      refine q_if_eq hX d_C_sold_26 rfl h (fun _ h => ?_) (fun _ h => ?_)
      · refine q_ldcw hX w_860 d_C_sold_40 ?_
        exact q_iretR hX h hT d_C_sold_43
      · refine q_aload_n hX d_C_sold_29 rfl ?_
        refine q_getR hX fl_C_76 kc_0 (rfl : qRF 0 9 = some 53) d_C_sold_30 ?_
        refine q_iload_n hX d_C_sold_33 rfl ?_
        obtain ⟨u7, hc8, h⟩ := qbind h
        refine q_cVr hX (c_Houses_greatestBidder X.l G hX.ad f _ _ hc8) cw_C_311 rfl kc_53 rfl (Nat.le_of_ble_eq_true rfl) rfl (Nat.le_of_ble_eq_true rfl) d_C_sold_34 ?_
        refine q_goto hX d_C_sold_37 rfl ?_
        exact q_iretR hX h hT d_C_sold_43
    · refine q_ldc hX w_383 d_C_sold_14 ?_
      exact q_iretR hX h hT d_C_sold_16
set_option maxHeartbeats 4000000 in
theorem c_Promises_areThere (l : Launch) (G : qG) (hA : qAd G) (f : Nat) (σ : qMem) (x1 : Int32) {u : Int32} (h : p_Promises_areThere f σ x1 = some u) : qCt l y_Promises_areThere prog_10_method_4_code 2 (some .boolean) 1 G qKS qRF σ [(.ref 13), (.int x1)] (some (.int u)) qKS qRF σ 0 0 := by
  refine qCt.of (lv := [some (.ref 13), some (.int x1)]) (by decide) hA (Nat.le_of_ble_eq_true rfl) rfl ?_
  intro X hl _ _ _ hX hT
  subst hl
  unfold p_Promises_areThere at h
  refine q_iload_n hX d_Promises_areThere_0 rfl ?_
  refine q_if_le hX d_Promises_areThere_1 rfl h (fun _ h => ?_) (fun _ h => ?_)
  · refine q_iconst hX d_Promises_areThere_18 ic_0 ?_
    exact q_zretR hX zn_0 h hT d_Promises_areThere_19
  · refine q_iload_n hX d_Promises_areThere_4 rfl ?_
    refine q_iconst hX d_Promises_areThere_5 ic_1 ?_
    refine q_aload_n hX d_Promises_areThere_6 rfl ?_
    refine q_getI hX fl_Promises_16 kc_13 d_Promises_areThere_7 ?_
    refine q_ishl hX d_Promises_areThere_10 ?_
    refine q_icmp_ge hX d_Promises_areThere_11 rfl h (fun _ h => ?_) (fun _ h => ?_)
    · refine q_iconst hX d_Promises_areThere_18 ic_0 ?_
      exact q_zretR hX zn_0 h hT d_Promises_areThere_19
    · refine q_iconst hX d_Promises_areThere_14 ic_1 ?_
      refine q_goto hX d_Promises_areThere_15 rfl ?_
      exact q_zretR hX zn_1 h hT d_Promises_areThere_19
set_option maxHeartbeats 4000000 in
theorem c_In_bitCount (l : Launch) (G : qG) (hA : qAd G) (f : Nat) (σ : qMem) (x0 : Int32) {u : Int32} (h : p_In_bitCount f σ x0 = some u) : qCt l y_In_bitCount prog_15_method_49_code 1 (some .int) 1 G qKS qRF σ [(.int x0)] (some (.int u)) qKS qRF σ 0 0 := by
  refine qCt.of (lv := [some (.int x0)]) (by decide) hA (Nat.le_of_ble_eq_true rfl) rfl ?_
  intro X hl _ _ _ hX hT
  subst hl
  unfold p_In_bitCount at h
  refine q_iload_n hX d_In_bitCount_0 rfl ?_
  refine q_iload_n hX d_In_bitCount_1 rfl ?_
  refine q_iconst hX d_In_bitCount_2 ic_1 ?_
  refine q_iushr hX d_In_bitCount_3 ?_
  refine q_ldcw hX w_964 d_In_bitCount_4 ?_
  refine q_iand hX d_In_bitCount_7 ?_
  refine q_isub hX d_In_bitCount_8 ?_
  refine q_istore_n hX d_In_bitCount_9 (by decide) rfl rfl ?_
  refine q_iload_n hX d_In_bitCount_10 rfl ?_
  refine q_ldcw hX w_965 d_In_bitCount_11 ?_
  refine q_iand hX d_In_bitCount_14 ?_
  refine q_iload_n hX d_In_bitCount_15 rfl ?_
  refine q_iconst hX d_In_bitCount_16 ic_2 ?_
  refine q_iushr hX d_In_bitCount_17 ?_
  refine q_ldcw hX w_965 d_In_bitCount_18 ?_
  refine q_iand hX d_In_bitCount_21 ?_
  refine q_iadd hX d_In_bitCount_22 ?_
  refine q_istore_n hX d_In_bitCount_23 (by decide) rfl rfl ?_
  refine q_iload_n hX d_In_bitCount_24 rfl ?_
  refine q_iload_n hX d_In_bitCount_25 rfl ?_
  refine q_iconst hX d_In_bitCount_26 ic_4 ?_
  refine q_iushr hX d_In_bitCount_27 ?_
  refine q_iadd hX d_In_bitCount_28 ?_
  refine q_ldcw hX w_966 d_In_bitCount_29 ?_
  refine q_iand hX d_In_bitCount_32 ?_
  refine q_istore_n hX d_In_bitCount_33 (by decide) rfl rfl ?_
  refine q_iload_n hX d_In_bitCount_34 rfl ?_
  refine q_iload_n hX d_In_bitCount_35 rfl ?_
  refine q_bipush hX d_In_bitCount_36 bp_8 ?_
  refine q_iushr hX d_In_bitCount_38 ?_
  refine q_iadd hX d_In_bitCount_39 ?_
  refine q_istore_n hX d_In_bitCount_40 (by decide) rfl rfl ?_
  refine q_iload_n hX d_In_bitCount_41 rfl ?_
  refine q_iload_n hX d_In_bitCount_42 rfl ?_
  refine q_bipush hX d_In_bitCount_43 bp_16 ?_
  refine q_iushr hX d_In_bitCount_45 ?_
  refine q_iadd hX d_In_bitCount_46 ?_
  refine q_istore_n hX d_In_bitCount_47 (by decide) rfl rfl ?_
  refine q_iload_n hX d_In_bitCount_48 rfl ?_
  refine q_bipush hX d_In_bitCount_49 bp_63 ?_
  refine q_iand hX d_In_bitCount_51 ?_
  exact q_iretR hX h hT d_In_bitCount_52
set_option maxHeartbeats 4000000 in
theorem t_Dawn_canAllHaveAnHour_lb18 {G : qG} {X : qX} (hX : qOk G X "ChantryRolls$Dawn" prog_3_method_6_code 5 (some .boolean) 2) {u : Int32 × qMem} {f : Nat} {x1 : Int32} (hT : qTg G X 0 0 qKS qRF u.2 (some (.int u.1))) {k18 : qMem → Int32 → Option (Int32 × qMem)} (hk18 : ∀ (σ : qMem) (x2 : Int32), k18 σ x2 = some u → qV G X 0 0 qKS qRF σ 18 [some (.ref 96), some (.int x1), some (.int x2), none, none] []) {σ : qMem} {x2 : Int32} (h : p_Dawn_canAllHaveAnHour_l18 f  x1  k18 σ x2 = some u) : qV G X 0 0 qKS qRF σ 18 [some (.ref 96), some (.int x1), some (.int x2), none, none] [] := by
  unfold p_Dawn_canAllHaveAnHour_l18 at h
  refine q_iload_n hX d_Dawn_canAllHaveAnHour_18 rfl ?_
  refine q_aload_n hX d_Dawn_canAllHaveAnHour_19 rfl ?_
  refine q_getI hX fl_Dawn_22 kc_96 d_Dawn_canAllHaveAnHour_20 ?_
  refine q_icmp_ge hX d_Dawn_canAllHaveAnHour_23 rfl h (fun _ h => ?_) (fun _ h => ?_)
  · refine q_iconst hX d_Dawn_canAllHaveAnHour_131 ic_1 ?_
    exact q_zretW hX zn_1 h hT d_Dawn_canAllHaveAnHour_132
  · refine q_iload_n hX d_Dawn_canAllHaveAnHour_26 rfl ?_
    refine q_iload_n hX d_Dawn_canAllHaveAnHour_27 rfl ?_
    refine q_ishr hX d_Dawn_canAllHaveAnHour_28 ?_
    refine q_iconst hX d_Dawn_canAllHaveAnHour_29 ic_1 ?_
    refine q_iand hX d_Dawn_canAllHaveAnHour_30 ?_
    refine q_iconst hX d_Dawn_canAllHaveAnHour_31 ic_1 ?_
    refine q_icmp_ne hX d_Dawn_canAllHaveAnHour_32 rfl h (fun _ h => ?_) (fun _ h => ?_)
    · refine q_iinc hX d_Dawn_canAllHaveAnHour_125 rfl (ii_1 _) (by decide) rfl rfl ?_
      refine q_goto hX d_Dawn_canAllHaveAnHour_128 rfl ?_
      exact q_mask [true, true, true, false, false] rfl (hk18 _ _ h)
    · refine q_aload_n hX d_Dawn_canAllHaveAnHour_35 rfl ?_
      refine q_getR hX fl_Dawn_38 kc_96 (rfl : qRF 96 0 = some 13) d_Dawn_canAllHaveAnHour_36 ?_
      refine q_aload_n hX d_Dawn_canAllHaveAnHour_39 rfl ?_
      refine q_getR hX fl_Dawn_11 kc_96 (rfl : qRF 96 3 = some 97) d_Dawn_canAllHaveAnHour_40 ?_
      refine q_iload_n hX d_Dawn_canAllHaveAnHour_43 rfl ?_
      refine q_iald hX kc_97 d_Dawn_canAllHaveAnHour_44 h (fun hi1 h => ?_)
      refine q_iconst hX d_Dawn_canAllHaveAnHour_45 ic_2 ?_
      obtain ⟨u2, hc3, h⟩ := qbind h
      refine q_cVr hX (c_Promises_of X.l G hX.ad f _ _ _ hc3) cw_Dawn_55 rfl kc_13 rfl (Nat.le_of_ble_eq_true rfl) rfl (Nat.le_of_ble_eq_true rfl) d_Dawn_canAllHaveAnHour_46 ?_
      refine q_istore_n hX d_Dawn_canAllHaveAnHour_49 (by decide) rfl rfl ?_
      refine q_aload_n hX d_Dawn_canAllHaveAnHour_50 rfl ?_
      refine q_getR hX fl_Dawn_38 kc_96 (rfl : qRF 96 0 = some 13) d_Dawn_canAllHaveAnHour_51 ?_
      refine q_aload_n hX d_Dawn_canAllHaveAnHour_54 rfl ?_
      refine q_getR hX fl_Dawn_11 kc_96 (rfl : qRF 96 3 = some 97) d_Dawn_canAllHaveAnHour_55 ?_
      refine q_iload_n hX d_Dawn_canAllHaveAnHour_58 rfl ?_
      refine q_iald hX kc_97 d_Dawn_canAllHaveAnHour_59 h (fun hi4 h => ?_)
      refine q_iconst hX d_Dawn_canAllHaveAnHour_60 ic_3 ?_
      obtain ⟨u5, hc6, h⟩ := qbind h
      refine q_cVr hX (c_Promises_of X.l G hX.ad f _ _ _ hc6) cw_Dawn_55 rfl kc_13 rfl (Nat.le_of_ble_eq_true rfl) rfl (Nat.le_of_ble_eq_true rfl) d_Dawn_canAllHaveAnHour_61 ?_
      refine q_istore hX d_Dawn_canAllHaveAnHour_64 (by decide) rfl rfl ?_
      refine q_aload_n hX d_Dawn_canAllHaveAnHour_66 rfl ?_
      refine q_getR hX fl_Dawn_32 kc_96 (rfl : qRF 96 9 = some 101) d_Dawn_canAllHaveAnHour_67 ?_
      refine q_iload_n hX d_Dawn_canAllHaveAnHour_70 rfl ?_
      refine q_dup2 hX rfl rfl d_Dawn_canAllHaveAnHour_71 ?_
      refine q_iald hX kc_101 d_Dawn_canAllHaveAnHour_72 h (fun hi7 h => ?_)
      refine q_iconst hX d_Dawn_canAllHaveAnHour_73 ic_1 ?_
      refine q_iadd hX d_Dawn_canAllHaveAnHour_74 ?_
      refine q_iast hX kc_101 qKS_len d_Dawn_canAllHaveAnHour_75 h (fun hi8 h => ?_)
      refine q_aload_n hX d_Dawn_canAllHaveAnHour_76 rfl ?_
      refine q_getR hX fl_Dawn_35 kc_96 (rfl : qRF 96 10 = some 102) d_Dawn_canAllHaveAnHour_77 ?_
      refine q_iload hX d_Dawn_canAllHaveAnHour_80 rfl ?_
      refine q_dup2 hX rfl rfl d_Dawn_canAllHaveAnHour_82 ?_
      refine q_iald hX kc_102 d_Dawn_canAllHaveAnHour_83 h (fun hi9 h => ?_)
      refine q_iconst hX d_Dawn_canAllHaveAnHour_84 ic_1 ?_
      refine q_iadd hX d_Dawn_canAllHaveAnHour_85 ?_
      refine q_iast hX kc_102 qKS_len d_Dawn_canAllHaveAnHour_86 h (fun hi10 h => ?_)
      refine q_aload_n hX d_Dawn_canAllHaveAnHour_87 rfl ?_
      refine q_getR hX fl_Dawn_18 kc_96 (rfl : qRF 96 5 = some 99) d_Dawn_canAllHaveAnHour_88 ?_
      refine q_iload_n hX d_Dawn_canAllHaveAnHour_91 rfl ?_
      refine q_zald hX kc_99 d_Dawn_canAllHaveAnHour_92 h (fun hi11 h => ?_)
      refine q_if_ne hX d_Dawn_canAllHaveAnHour_93 rfl h (fun _ h => ?_) (fun _ h => ?_)
      · refine q_iconst hX d_Dawn_canAllHaveAnHour_123 ic_0 ?_
        exact q_zretW hX zn_0 h hT d_Dawn_canAllHaveAnHour_124
      · refine q_aload_n hX d_Dawn_canAllHaveAnHour_96 rfl ?_
        refine q_getR hX fl_Dawn_32 kc_96 (rfl : qRF 96 9 = some 101) d_Dawn_canAllHaveAnHour_97 ?_
        refine q_iload_n hX d_Dawn_canAllHaveAnHour_100 rfl ?_
        refine q_iald hX kc_101 d_Dawn_canAllHaveAnHour_101 h (fun hi12 h => ?_)
        refine q_iconst hX d_Dawn_canAllHaveAnHour_102 ic_5 ?_
        refine q_icmp_gt hX d_Dawn_canAllHaveAnHour_103 rfl h (fun _ h => ?_) (fun _ h => ?_)
        · refine q_iconst hX d_Dawn_canAllHaveAnHour_123 ic_0 ?_
          exact q_zretW hX zn_0 h hT d_Dawn_canAllHaveAnHour_124
        · refine q_aload_n hX d_Dawn_canAllHaveAnHour_106 rfl ?_
          refine q_getR hX fl_Dawn_35 kc_96 (rfl : qRF 96 10 = some 102) d_Dawn_canAllHaveAnHour_107 ?_
          refine q_iload hX d_Dawn_canAllHaveAnHour_110 rfl ?_
          refine q_iald hX kc_102 d_Dawn_canAllHaveAnHour_112 h (fun hi13 h => ?_)
          refine q_aload_n hX d_Dawn_canAllHaveAnHour_113 rfl ?_
          refine q_getR hX fl_Dawn_46 kc_96 (rfl : qRF 96 2 = some 32) d_Dawn_canAllHaveAnHour_114 ?_
          refine q_iload hX d_Dawn_canAllHaveAnHour_117 rfl ?_
          refine q_iald hX kc_32 d_Dawn_canAllHaveAnHour_119 h (fun hi14 h => ?_)
          refine q_icmp_le hX d_Dawn_canAllHaveAnHour_120 rfl h (fun _ h => ?_) (fun _ h => ?_)
          · refine q_iinc hX d_Dawn_canAllHaveAnHour_125 rfl (ii_1 _) (by decide) rfl rfl ?_
            refine q_goto hX d_Dawn_canAllHaveAnHour_128 rfl ?_
            exact q_mask [true, true, true, false, false] rfl (hk18 _ _ h)
          · refine q_iconst hX d_Dawn_canAllHaveAnHour_123 ic_0 ?_
            exact q_zretW hX zn_0 h hT d_Dawn_canAllHaveAnHour_124
theorem t_Dawn_canAllHaveAnHour_l18 {G : qG} {X : qX} (hX : qOk G X "ChantryRolls$Dawn" prog_3_method_6_code 5 (some .boolean) 2) {u : Int32 × qMem} {f : Nat} {x1 : Int32} (hT : qTg G X 0 0 qKS qRF u.2 (some (.int u.1))) : ∀ (n : Nat) (σ : qMem) (x2 : Int32), qfix2 (p_Dawn_canAllHaveAnHour_l18 f  x1 ) n σ x2 = some u → qV G X 0 0 qKS qRF σ 18 [some (.ref 96), some (.int x1), some (.int x2), none, none] [] :=
  qfix2_ind (fun k hk _ _ h => t_Dawn_canAllHaveAnHour_lb18 hX   hT  hk h)
set_option maxHeartbeats 4000000 in
theorem c_Dawn_canAllHaveAnHour (l : Launch) (G : qG) (hA : qAd G) (f : Nat) (σ : qMem) (x1 : Int32) {u : Int32 × qMem} (h : p_Dawn_canAllHaveAnHour f σ x1 = some u) : qCt l y_Dawn_canAllHaveAnHour prog_3_method_6_code 5 (some .boolean) 2 G qKS qRF σ [(.ref 96), (.int x1)] (some (.int u.1)) qKS qRF u.2 0 0 := by
  refine qCt.of (lv := [some (.ref 96), some (.int x1), none, none, none]) (by decide) hA (Nat.le_of_ble_eq_true rfl) rfl ?_
  intro X hl _ _ _ hX hT
  subst hl
  unfold p_Dawn_canAllHaveAnHour at h
  refine q_aload_n hX d_Dawn_canAllHaveAnHour_0 rfl ?_
  refine q_getR hX fl_Dawn_32 kc_96 (rfl : qRF 96 9 = some 101) d_Dawn_canAllHaveAnHour_1 ?_
  refine q_iconst hX d_Dawn_canAllHaveAnHour_4 ic_0 ?_
  obtain ⟨u15, hc16, h⟩ := qbind h
  refine q_cSv hX (c_Ar_fill X.l G hX.ad f _ _ _ _ kc_101 hc16) cw_Dawn_86 rfl (Nat.le_of_ble_eq_true rfl) rfl (Nat.le_of_ble_eq_true rfl) d_Dawn_canAllHaveAnHour_5 ?_
  refine q_aload_n hX d_Dawn_canAllHaveAnHour_8 rfl ?_
  refine q_getR hX fl_Dawn_35 kc_96 (rfl : qRF 96 10 = some 102) d_Dawn_canAllHaveAnHour_9 ?_
  refine q_iconst hX d_Dawn_canAllHaveAnHour_12 ic_0 ?_
  obtain ⟨u17, hc18, h⟩ := qbind h
  refine q_cSv hX (c_Ar_fill X.l G hX.ad f _ _ _ _ kc_102 hc18) cw_Dawn_86 rfl (Nat.le_of_ble_eq_true rfl) rfl (Nat.le_of_ble_eq_true rfl) d_Dawn_canAllHaveAnHour_13 ?_
  refine q_iconst hX d_Dawn_canAllHaveAnHour_16 ic_0 ?_
  refine q_istore_n hX d_Dawn_canAllHaveAnHour_17 (by decide) rfl rfl ?_
  exact q_mask [true, true, true, false, false] rfl (t_Dawn_canAllHaveAnHour_l18 hX hT f _ _ h)
set_option maxHeartbeats 4000000 in
theorem t_Dawn_findLargest_lb60 {G : qG} {X : qX} (hX : qOk G X "ChantryRolls$Dawn" prog_3_method_5_code 2 none 3) {u : qMem} {f : Nat} (hT : qTg G X 0 0 qKS qRF u none) {k60 : qMem → Int32 → Option (qMem)} (hk60 : ∀ (σ : qMem) (x1 : Int32), k60 σ x1 = some u → qV G X 0 0 qKS qRF σ 60 [some (.ref 96), some (.int x1)] []) {σ : qMem} {x1 : Int32} (h : p_Dawn_findLargest_l60 f    k60 σ x1 = some u) : qV G X 0 0 qKS qRF σ 60 [some (.ref 96), some (.int x1)] [] := by
  unfold p_Dawn_findLargest_l60 at h
  refine q_iload_n hX d_Dawn_findLargest_60 rfl ?_
  refine q_iconst hX d_Dawn_findLargest_61 ic_1 ?_
  refine q_aload_n hX d_Dawn_findLargest_62 rfl ?_
  refine q_getI hX fl_Dawn_22 kc_96 d_Dawn_findLargest_63 ?_
  refine q_ishl hX d_Dawn_findLargest_66 ?_
  refine q_icmp_ge hX d_Dawn_findLargest_67 rfl h (fun _ h => ?_) (fun _ h => ?_)
  · exact q_vretW hX h hT d_Dawn_findLargest_107
  · refine q_aload_n hX d_Dawn_findLargest_70 rfl ?_
    refine q_getR hX fl_Dawn_26 kc_96 (rfl : qRF 96 7 = some 100) d_Dawn_findLargest_71 ?_
    refine q_iload_n hX d_Dawn_findLargest_74 rfl ?_
    refine q_aload_n hX d_Dawn_findLargest_75 rfl ?_
    refine q_getR hX fl_Dawn_26 kc_96 (rfl : qRF 96 7 = some 100) d_Dawn_findLargest_76 ?_
    refine q_iload_n hX d_Dawn_findLargest_79 rfl ?_
    refine q_zald hX kc_100 d_Dawn_findLargest_80 h (fun hi1 h => ?_)
    refine q_if_eq hX d_Dawn_findLargest_81 rfl h (fun _ h => ?_) (fun _ h => ?_)
    · refine q_iconst hX d_Dawn_findLargest_99 ic_0 ?_
      refine q_zast hX kc_100 qKS_len d_Dawn_findLargest_100 h (fun hi2 h => ?_)
      refine q_iinc hX d_Dawn_findLargest_101 rfl (ii_1 _) (by decide) rfl rfl ?_
      refine q_goto hX d_Dawn_findLargest_104 rfl ?_
      exact q_mask [true, true] rfl (hk60 _ _ h)
    · refine q_iload_n hX d_Dawn_findLargest_84 rfl ?_
      obtain ⟨u3, hc4, h⟩ := qbind h
      refine q_cSr hX (c_In_bitCount X.l G hX.ad f _ _ hc4) cw_Dawn_75 rfl (Nat.le_of_ble_eq_true rfl) rfl (Nat.le_of_ble_eq_true rfl) d_Dawn_findLargest_85 ?_
      refine q_aload_n hX d_Dawn_findLargest_88 rfl ?_
      refine q_getI hX fl_Dawn_29 kc_96 d_Dawn_findLargest_89 ?_
      refine q_icmp_ne hX d_Dawn_findLargest_92 rfl h (fun _ h => ?_) (fun _ h => ?_)
      · refine q_iconst hX d_Dawn_findLargest_99 ic_0 ?_
        refine q_zast hX kc_100 qKS_len d_Dawn_findLargest_100 h (fun hi5 h => ?_)
        refine q_iinc hX d_Dawn_findLargest_101 rfl (ii_1 _) (by decide) rfl rfl ?_
        refine q_goto hX d_Dawn_findLargest_104 rfl ?_
        exact q_mask [true, true] rfl (hk60 _ _ h)
      · refine q_iconst hX d_Dawn_findLargest_95 ic_1 ?_
        refine q_goto hX d_Dawn_findLargest_96 rfl ?_
        refine q_zast hX kc_100 qKS_len d_Dawn_findLargest_100 h (fun hi6 h => ?_)
        refine q_iinc hX d_Dawn_findLargest_101 rfl (ii_1 _) (by decide) rfl rfl ?_
        refine q_goto hX d_Dawn_findLargest_104 rfl ?_
        exact q_mask [true, true] rfl (hk60 _ _ h)
theorem t_Dawn_findLargest_l60 {G : qG} {X : qX} (hX : qOk G X "ChantryRolls$Dawn" prog_3_method_5_code 2 none 3) {u : qMem} {f : Nat} (hT : qTg G X 0 0 qKS qRF u none) : ∀ (n : Nat) (σ : qMem) (x1 : Int32), qfix2 (p_Dawn_findLargest_l60 f   ) n σ x1 = some u → qV G X 0 0 qKS qRF σ 60 [some (.ref 96), some (.int x1)] [] :=
  qfix2_ind (fun k hk _ _ h => t_Dawn_findLargest_lb60 hX   hT  hk h)
set_option maxHeartbeats 4000000 in
theorem t_Dawn_findLargest_lb7 {G : qG} {X : qX} (hX : qOk G X "ChantryRolls$Dawn" prog_3_method_5_code 2 none 3) {u : qMem} {f : Nat} (hT : qTg G X 0 0 qKS qRF u none) {k7 : qMem → Int32 → Option (qMem)} (hk7 : ∀ (σ : qMem) (x1 : Int32), k7 σ x1 = some u → qV G X 0 0 qKS qRF σ 7 [some (.ref 96), some (.int x1)] []) {σ : qMem} {x1 : Int32} (h : p_Dawn_findLargest_l7 f    k7 σ x1 = some u) : qV G X 0 0 qKS qRF σ 7 [some (.ref 96), some (.int x1)] [] := by
  unfold p_Dawn_findLargest_l7 at h
  refine q_iload_n hX d_Dawn_findLargest_7 rfl ?_
  refine q_iconst hX d_Dawn_findLargest_8 ic_1 ?_
  refine q_aload_n hX d_Dawn_findLargest_9 rfl ?_
  refine q_getI hX fl_Dawn_22 kc_96 d_Dawn_findLargest_10 ?_
  refine q_ishl hX d_Dawn_findLargest_13 ?_
  refine q_icmp_ge hX d_Dawn_findLargest_14 rfl h (fun _ h => ?_) (fun _ h => ?_)
  · refine q_iconst hX d_Dawn_findLargest_58 ic_0 ?_
    refine q_istore_n hX d_Dawn_findLargest_59 (by decide) rfl rfl ?_
    exact q_mask [true, true] rfl (t_Dawn_findLargest_l60 hX hT f _ _ h)
  · refine q_aload_n hX d_Dawn_findLargest_17 rfl ?_
    refine q_getR hX fl_Dawn_26 kc_96 (rfl : qRF 96 7 = some 100) d_Dawn_findLargest_18 ?_
    refine q_iload_n hX d_Dawn_findLargest_21 rfl ?_
    refine q_aload_n hX d_Dawn_findLargest_22 rfl ?_
    refine q_iload_n hX d_Dawn_findLargest_23 rfl ?_
    obtain ⟨u7, hc8, h⟩ := qbind h
    refine q_cVr hX (c_Dawn_canAllHaveAnHour X.l G hX.ad f _ _ hc8) cw_Dawn_71 rfl kc_96 rfl (Nat.le_of_ble_eq_true rfl) rfl (Nat.le_of_ble_eq_true rfl) d_Dawn_findLargest_24 ?_
    refine q_zast hX kc_100 qKS_len d_Dawn_findLargest_27 h (fun hi9 h => ?_)
    refine q_aload_n hX d_Dawn_findLargest_28 rfl ?_
    refine q_getR hX fl_Dawn_26 kc_96 (rfl : qRF 96 7 = some 100) d_Dawn_findLargest_29 ?_
    refine q_iload_n hX d_Dawn_findLargest_32 rfl ?_
    refine q_zald hX kc_100 d_Dawn_findLargest_33 h (fun hi10 h => ?_)
    refine q_if_eq hX d_Dawn_findLargest_34 rfl h (fun _ h => ?_) (fun _ h => ?_)
    · refine q_iinc hX d_Dawn_findLargest_52 rfl (ii_1 _) (by decide) rfl rfl ?_
      refine q_goto hX d_Dawn_findLargest_55 rfl ?_
      exact q_mask [true, true] rfl (hk7 _ _ h)
    · refine q_aload_n hX d_Dawn_findLargest_37 rfl ?_
      refine q_aload_n hX d_Dawn_findLargest_38 rfl ?_
      refine q_getI hX fl_Dawn_29 kc_96 d_Dawn_findLargest_39 ?_
      refine q_iload_n hX d_Dawn_findLargest_42 rfl ?_
      obtain ⟨u11, hc12, h⟩ := qbind h
      refine q_cSr hX (c_In_bitCount X.l G hX.ad f _ _ hc12) cw_Dawn_75 rfl (Nat.le_of_ble_eq_true rfl) rfl (Nat.le_of_ble_eq_true rfl) d_Dawn_findLargest_43 ?_
      refine q_mmax hX w_984 (by decide) (Nat.le_of_ble_eq_true rfl) d_Dawn_findLargest_46 ?_
      refine q_putI hX fl_Dawn_29 kc_96 rfl qKS_len d_Dawn_findLargest_49 ?_
      refine q_iinc hX d_Dawn_findLargest_52 rfl (ii_1 _) (by decide) rfl rfl ?_
      refine q_goto hX d_Dawn_findLargest_55 rfl ?_
      exact q_mask [true, true] rfl (hk7 _ _ h)
theorem t_Dawn_findLargest_l7 {G : qG} {X : qX} (hX : qOk G X "ChantryRolls$Dawn" prog_3_method_5_code 2 none 3) {u : qMem} {f : Nat} (hT : qTg G X 0 0 qKS qRF u none) : ∀ (n : Nat) (σ : qMem) (x1 : Int32), qfix2 (p_Dawn_findLargest_l7 f   ) n σ x1 = some u → qV G X 0 0 qKS qRF σ 7 [some (.ref 96), some (.int x1)] [] :=
  qfix2_ind (fun k hk _ _ h => t_Dawn_findLargest_lb7 hX   hT  hk h)
set_option maxHeartbeats 4000000 in
theorem c_Dawn_findLargest (l : Launch) (G : qG) (hA : qAd G) (f : Nat) (σ : qMem) {u : qMem} (h : p_Dawn_findLargest f σ  = some u) : qCt l y_Dawn_findLargest prog_3_method_5_code 2 none 3 G qKS qRF σ [(.ref 96)] none qKS qRF u 0 0 := by
  refine qCt.of (lv := [some (.ref 96), none]) (by decide) hA (Nat.le_of_ble_eq_true rfl) rfl ?_
  intro X hl _ _ _ hX hT
  subst hl
  unfold p_Dawn_findLargest at h
  refine q_aload_n hX d_Dawn_findLargest_0 rfl ?_
  refine q_iconst hX d_Dawn_findLargest_1 ic_0 ?_
  refine q_putI hX fl_Dawn_29 kc_96 rfl qKS_len d_Dawn_findLargest_2 ?_
  refine q_iconst hX d_Dawn_findLargest_5 ic_0 ?_
  refine q_istore_n hX d_Dawn_findLargest_6 (by decide) rfl rfl ?_
  exact q_mask [true, true] rfl (t_Dawn_findLargest_l7 hX hT f _ _ h)
set_option maxHeartbeats 4000000 in
theorem t_Dawn_leadsToLargest_lb9 {G : qG} {X : qX} (hX : qOk G X "ChantryRolls$Dawn" prog_3_method_8_code 5 (some .boolean) 1) {u : Int32} {f : Nat} {σ : qMem} {x1 : Int32} {x3 : Int32} (hT : qTg G X 0 0 qKS qRF σ (some (.int u))) {k9 : Int32 → Option (Int32)} (hk9 : ∀ (x4 : Int32), k9 x4 = some u → qV G X 0 0 qKS qRF σ 9 [some (.ref 96), some (.int x1), none, some (.int x3), some (.int x4)] []) {x4 : Int32} (h : p_Dawn_leadsToLargest_l9 f  σ x1 x3  k9 x4 = some u) : qV G X 0 0 qKS qRF σ 9 [some (.ref 96), some (.int x1), none, some (.int x3), some (.int x4)] [] := by
  unfold p_Dawn_leadsToLargest_l9 at h
  refine q_iload hX d_Dawn_leadsToLargest_9 rfl ?_
  refine q_iconst hX d_Dawn_leadsToLargest_11 ic_1 ?_
  refine q_aload_n hX d_Dawn_leadsToLargest_12 rfl ?_
  refine q_getI hX fl_Dawn_22 kc_96 d_Dawn_leadsToLargest_13 ?_
  refine q_ishl hX d_Dawn_leadsToLargest_16 ?_
  refine q_icmp_ge hX d_Dawn_leadsToLargest_17 rfl h (fun _ h => ?_) (fun _ h => ?_)
  · refine q_iconst hX d_Dawn_leadsToLargest_46 ic_0 ?_
    exact q_zretR hX zn_0 h hT d_Dawn_leadsToLargest_47
  · refine q_aload_n hX d_Dawn_leadsToLargest_20 rfl ?_
    refine q_getR hX fl_Dawn_26 kc_96 (rfl : qRF 96 7 = some 100) d_Dawn_leadsToLargest_21 ?_
    refine q_iload hX d_Dawn_leadsToLargest_24 rfl ?_
    refine q_zald hX kc_100 d_Dawn_leadsToLargest_26 h (fun hi1 h => ?_)
    refine q_if_eq hX d_Dawn_leadsToLargest_27 rfl h (fun _ h => ?_) (fun _ h => ?_)
    · refine q_iinc hX d_Dawn_leadsToLargest_40 rfl (ii_1 _) (by decide) rfl rfl ?_
      refine q_goto hX d_Dawn_leadsToLargest_43 rfl ?_
      exact q_mask [true, true, false, true, true] rfl (hk9 _ h)
    · refine q_iload hX d_Dawn_leadsToLargest_30 rfl ?_
      refine q_iload_n hX d_Dawn_leadsToLargest_32 rfl ?_
      refine q_iand hX d_Dawn_leadsToLargest_33 ?_
      refine q_iload_n hX d_Dawn_leadsToLargest_34 rfl ?_
      refine q_icmp_ne hX d_Dawn_leadsToLargest_35 rfl h (fun _ h => ?_) (fun _ h => ?_)
      · refine q_iinc hX d_Dawn_leadsToLargest_40 rfl (ii_1 _) (by decide) rfl rfl ?_
        refine q_goto hX d_Dawn_leadsToLargest_43 rfl ?_
        exact q_mask [true, true, false, true, true] rfl (hk9 _ h)
      · refine q_iconst hX d_Dawn_leadsToLargest_38 ic_1 ?_
        exact q_zretR hX zn_1 h hT d_Dawn_leadsToLargest_39
theorem t_Dawn_leadsToLargest_l9 {G : qG} {X : qX} (hX : qOk G X "ChantryRolls$Dawn" prog_3_method_8_code 5 (some .boolean) 1) {u : Int32} {f : Nat} {σ : qMem} {x1 : Int32} {x3 : Int32} (hT : qTg G X 0 0 qKS qRF σ (some (.int u))) : ∀ (n : Nat) (x4 : Int32), qfix1 (p_Dawn_leadsToLargest_l9 f  σ x1 x3 ) n x4 = some u → qV G X 0 0 qKS qRF σ 9 [some (.ref 96), some (.int x1), none, some (.int x3), some (.int x4)] [] :=
  qfix1_ind (fun k hk _ h => t_Dawn_leadsToLargest_lb9 hX   hT  hk h)
set_option maxHeartbeats 4000000 in
theorem c_Dawn_leadsToLargest (l : Launch) (G : qG) (hA : qAd G) (f : Nat) (σ : qMem) (x1 : Int32) (x2 : Int32) {u : Int32} (h : p_Dawn_leadsToLargest f σ x1 x2 = some u) : qCt l y_Dawn_leadsToLargest prog_3_method_8_code 5 (some .boolean) 1 G qKS qRF σ [(.ref 96), (.int x1), (.int x2)] (some (.int u)) qKS qRF σ 0 0 := by
  refine qCt.of (lv := [some (.ref 96), some (.int x1), some (.int x2), none, none]) (by decide) hA (Nat.le_of_ble_eq_true rfl) rfl ?_
  intro X hl _ _ _ hX hT
  subst hl
  unfold p_Dawn_leadsToLargest at h
  refine q_iconst hX d_Dawn_leadsToLargest_0 ic_1 ?_
  refine q_iload_n hX d_Dawn_leadsToLargest_1 rfl ?_
  refine q_ishl hX d_Dawn_leadsToLargest_2 ?_
  refine q_iconst hX d_Dawn_leadsToLargest_3 ic_1 ?_
  refine q_isub hX d_Dawn_leadsToLargest_4 ?_
  refine q_istore_n hX d_Dawn_leadsToLargest_5 (by decide) rfl rfl ?_
  refine q_iconst hX d_Dawn_leadsToLargest_6 ic_0 ?_
  refine q_istore hX d_Dawn_leadsToLargest_7 (by decide) rfl rfl ?_
  exact q_mask [true, true, false, true, true] rfl (t_Dawn_leadsToLargest_l9 hX hT f _ h)
set_option maxHeartbeats 4000000 in
theorem c_Dawn_alike (l : Launch) (G : qG) (hA : qAd G) (f : Nat) (σ : qMem) (x1 : Int32) (x2 : Int32) (x3 : Int32) {u : Int32} (h : p_Dawn_alike f σ x1 x2 x3 = some u) : qCt l y_Dawn_alike prog_3_method_10_code 4 (some .boolean) 2 G qKS qRF σ [(.ref 96), (.int x1), (.int x2), (.int x3)] (some (.int u)) qKS qRF σ 0 0 := by
  refine qCt.of (lv := [some (.ref 96), some (.int x1), some (.int x2), some (.int x3)]) (by decide) hA (Nat.le_of_ble_eq_true rfl) rfl ?_
  intro X hl _ _ _ hX hT
  subst hl
  unfold p_Dawn_alike at h
  refine q_aload_n hX d_Dawn_alike_0 rfl ?_
  refine q_getR hX fl_Dawn_38 kc_96 (rfl : qRF 96 0 = some 13) d_Dawn_alike_1 ?_
  refine q_aload_n hX d_Dawn_alike_4 rfl ?_
  refine q_getR hX fl_Dawn_11 kc_96 (rfl : qRF 96 3 = some 97) d_Dawn_alike_5 ?_
  refine q_iload_n hX d_Dawn_alike_8 rfl ?_
  refine q_iald hX kc_97 d_Dawn_alike_9 h (fun hi1 h => ?_)
  refine q_iload_n hX d_Dawn_alike_10 rfl ?_
  obtain ⟨u2, hc3, h⟩ := qbind h
  refine q_cVr hX (c_Promises_of X.l G hX.ad f _ _ _ hc3) cw_Dawn_55 rfl kc_13 rfl (Nat.le_of_ble_eq_true rfl) rfl (Nat.le_of_ble_eq_true rfl) d_Dawn_alike_11 ?_
  refine q_aload_n hX d_Dawn_alike_14 rfl ?_
  refine q_getR hX fl_Dawn_38 kc_96 (rfl : qRF 96 0 = some 13) d_Dawn_alike_15 ?_
  refine q_aload_n hX d_Dawn_alike_18 rfl ?_
  refine q_getR hX fl_Dawn_11 kc_96 (rfl : qRF 96 3 = some 97) d_Dawn_alike_19 ?_
  refine q_iload_n hX d_Dawn_alike_22 rfl ?_
  refine q_iald hX kc_97 d_Dawn_alike_23 h (fun hi4 h => ?_)
  refine q_iload_n hX d_Dawn_alike_24 rfl ?_
  obtain ⟨u5, hc6, h⟩ := qbind h
  refine q_cVr hX (c_Promises_of X.l G hX.ad f _ _ _ hc6) cw_Dawn_55 rfl kc_13 rfl (Nat.le_of_ble_eq_true rfl) rfl (Nat.le_of_ble_eq_true rfl) d_Dawn_alike_25 ?_
  refine q_icmp_ne hX d_Dawn_alike_28 rfl h (fun _ h => ?_) (fun _ h => ?_)
  · refine q_iconst hX d_Dawn_alike_35 ic_0 ?_
    exact q_zretR hX zn_0 h hT d_Dawn_alike_36
  · refine q_iconst hX d_Dawn_alike_31 ic_1 ?_
    refine q_goto hX d_Dawn_alike_32 rfl ?_
    exact q_zretR hX zn_1 h hT d_Dawn_alike_36
set_option maxHeartbeats 4000000 in
theorem t_Dawn_isFree_lb2 {G : qG} {X : qX} (hX : qOk G X "ChantryRolls$Dawn" prog_3_method_9_code 4 (some .boolean) 3) {u : Int32} {f : Nat} {σ : qMem} {x1 : Int32} {x2 : Int32} (hT : qTg G X 0 0 qKS qRF σ (some (.int u))) {k2 : Int32 → Option (Int32)} (hk2 : ∀ (x3 : Int32), k2 x3 = some u → qV G X 0 0 qKS qRF σ 2 [some (.ref 96), some (.int x1), some (.int x2), some (.int x3)] []) {x3 : Int32} (h : p_Dawn_isFree_l2 f  σ x1 x2  k2 x3 = some u) : qV G X 0 0 qKS qRF σ 2 [some (.ref 96), some (.int x1), some (.int x2), some (.int x3)] [] := by
  unfold p_Dawn_isFree_l2 at h
  refine q_iload_n hX d_Dawn_isFree_2 rfl ?_
  refine q_iload_n hX d_Dawn_isFree_3 rfl ?_
  refine q_icmp_ge hX d_Dawn_isFree_4 rfl h (fun _ h => ?_) (fun _ h => ?_)
  · refine q_iconst hX d_Dawn_isFree_45 ic_1 ?_
    exact q_zretR hX zn_1 h hT d_Dawn_isFree_46
  · refine q_aload_n hX d_Dawn_isFree_7 rfl ?_
    refine q_getR hX fl_Dawn_15 kc_96 (rfl : qRF 96 4 = some 98) d_Dawn_isFree_8 ?_
    refine q_iload_n hX d_Dawn_isFree_11 rfl ?_
    refine q_iald hX kc_98 d_Dawn_isFree_12 h (fun hi1 h => ?_)
    refine q_iload_n hX d_Dawn_isFree_13 rfl ?_
    refine q_icmp_ne hX d_Dawn_isFree_14 rfl h (fun _ h => ?_) (fun _ h => ?_)
    · refine q_iinc hX d_Dawn_isFree_39 rfl (ii_1 _) (by decide) rfl rfl ?_
      refine q_goto hX d_Dawn_isFree_42 rfl ?_
      exact q_mask [true, true, true, true] rfl (hk2 _ h)
    · refine q_aload_n hX d_Dawn_isFree_17 rfl ?_
      refine q_iload_n hX d_Dawn_isFree_18 rfl ?_
      refine q_iload_n hX d_Dawn_isFree_19 rfl ?_
      refine q_iconst hX d_Dawn_isFree_20 ic_2 ?_
      obtain ⟨u2, hc3, h⟩ := qbind h
      refine q_cVr hX (c_Dawn_alike X.l G hX.ad f _ _ _ _ hc3) cw_Dawn_98 rfl kc_96 rfl (Nat.le_of_ble_eq_true rfl) rfl (Nat.le_of_ble_eq_true rfl) d_Dawn_isFree_21 ?_
      refine q_if_ne hX d_Dawn_isFree_24 rfl h (fun _ h => ?_) (fun _ h => ?_)
      · refine q_iconst hX d_Dawn_isFree_37 ic_0 ?_
        exact q_zretR hX zn_0 h hT d_Dawn_isFree_38
      · refine q_aload_n hX d_Dawn_isFree_27 rfl ?_
        refine q_iload_n hX d_Dawn_isFree_28 rfl ?_
        refine q_iload_n hX d_Dawn_isFree_29 rfl ?_
        refine q_iconst hX d_Dawn_isFree_30 ic_3 ?_
        obtain ⟨u4, hc5, h⟩ := qbind h
        refine q_cVr hX (c_Dawn_alike X.l G hX.ad f _ _ _ _ hc5) cw_Dawn_98 rfl kc_96 rfl (Nat.le_of_ble_eq_true rfl) rfl (Nat.le_of_ble_eq_true rfl) d_Dawn_isFree_31 ?_
        refine q_if_eq hX d_Dawn_isFree_34 rfl h (fun _ h => ?_) (fun _ h => ?_)
        · refine q_iinc hX d_Dawn_isFree_39 rfl (ii_1 _) (by decide) rfl rfl ?_
          refine q_goto hX d_Dawn_isFree_42 rfl ?_
          exact q_mask [true, true, true, true] rfl (hk2 _ h)
        · refine q_iconst hX d_Dawn_isFree_37 ic_0 ?_
          exact q_zretR hX zn_0 h hT d_Dawn_isFree_38
theorem t_Dawn_isFree_l2 {G : qG} {X : qX} (hX : qOk G X "ChantryRolls$Dawn" prog_3_method_9_code 4 (some .boolean) 3) {u : Int32} {f : Nat} {σ : qMem} {x1 : Int32} {x2 : Int32} (hT : qTg G X 0 0 qKS qRF σ (some (.int u))) : ∀ (n : Nat) (x3 : Int32), qfix1 (p_Dawn_isFree_l2 f  σ x1 x2 ) n x3 = some u → qV G X 0 0 qKS qRF σ 2 [some (.ref 96), some (.int x1), some (.int x2), some (.int x3)] [] :=
  qfix1_ind (fun k hk _ h => t_Dawn_isFree_lb2 hX   hT  hk h)
set_option maxHeartbeats 4000000 in
theorem c_Dawn_isFree (l : Launch) (G : qG) (hA : qAd G) (f : Nat) (σ : qMem) (x1 : Int32) (x2 : Int32) {u : Int32} (h : p_Dawn_isFree f σ x1 x2 = some u) : qCt l y_Dawn_isFree prog_3_method_9_code 4 (some .boolean) 3 G qKS qRF σ [(.ref 96), (.int x1), (.int x2)] (some (.int u)) qKS qRF σ 0 0 := by
  refine qCt.of (lv := [some (.ref 96), some (.int x1), some (.int x2), none]) (by decide) hA (Nat.le_of_ble_eq_true rfl) rfl ?_
  intro X hl _ _ _ hX hT
  subst hl
  unfold p_Dawn_isFree at h
  refine q_iconst hX d_Dawn_isFree_0 ic_0 ?_
  refine q_istore_n hX d_Dawn_isFree_1 (by decide) rfl rfl ?_
  exact q_mask [true, true, true, true] rfl (t_Dawn_isFree_l2 hX hT f _ h)
set_option maxHeartbeats 4000000 in
theorem t_Dawn_dealFrom_b73 {G : qG} {X : qX} {dd : Nat} (hX : qOk G X "ChantryRolls$Dawn" prog_3_method_7_code 5 (some .boolean) (dd + 1)) (hdd : 3 ≤ dd) {rec_dealFrom : qMem → Int32 → Int32 → Option (Int32 × qMem)} (ih_dealFrom : ∀ (σ : qMem) (x1 : Int32) (x2 : Int32) (u : Int32 × qMem), rec_dealFrom σ x1 x2 = some u → qCt X.l y_Dawn_dealFrom prog_3_method_7_code 5 (some .boolean) dd G qKS qRF σ [(.ref 96), (.int x1), (.int x2)] (some (.int u.1)) qKS qRF u.2 0 0) {u : Int32 × qMem} {f : Nat} {σ : qMem} {x1 : Int32} {x2 : Int32} (hT : qTg G X 0 0 qKS qRF u.2 (some (.int u.1))) (h : p_Dawn_dealFrom_b73 f rec_dealFrom   σ x1 x2 = some u) : qV G X 0 0 qKS qRF σ 73 [some (.ref 96), some (.int x1), some (.int x2), none, none] [] := by
  unfold p_Dawn_dealFrom_b73 at h
  refine q_aload_n hX d_Dawn_dealFrom_73 rfl ?_
  refine q_getR hX fl_Dawn_15 kc_96 (rfl : qRF 96 4 = some 98) d_Dawn_dealFrom_74 ?_
  refine q_iload_n hX d_Dawn_dealFrom_77 rfl ?_
  refine q_ldc hX w_1001 d_Dawn_dealFrom_78 ?_
  refine q_iast hX kc_98 qKS_len d_Dawn_dealFrom_80 h (fun hi1 h => ?_)
  refine q_aload_n hX d_Dawn_dealFrom_81 rfl ?_
  refine q_iload_n hX d_Dawn_dealFrom_82 rfl ?_
  refine q_iload_n hX d_Dawn_dealFrom_83 rfl ?_
  refine q_iconst hX d_Dawn_dealFrom_84 ic_1 ?_
  refine q_iadd hX d_Dawn_dealFrom_85 ?_
  obtain ⟨u2, hc3, h⟩ := qbind h
  refine q_cVr hX (c_Dawn_leadsToLargest X.l G hX.ad f _ _ _ hc3) cw_Dawn_92 rfl kc_96 rfl (by omega) rfl (Nat.le_of_ble_eq_true rfl) d_Dawn_dealFrom_86 ?_
  refine q_if_eq hX d_Dawn_dealFrom_89 rfl h (fun _ h => ?_) (fun _ h => ?_)
  · refine q_iconst hX d_Dawn_dealFrom_107 ic_0 ?_
    exact q_zretW hX zn_0 h hT d_Dawn_dealFrom_108
  · refine q_aload_n hX d_Dawn_dealFrom_92 rfl ?_
    refine q_iload_n hX d_Dawn_dealFrom_93 rfl ?_
    refine q_iconst hX d_Dawn_dealFrom_94 ic_1 ?_
    refine q_iadd hX d_Dawn_dealFrom_95 ?_
    refine q_iload_n hX d_Dawn_dealFrom_96 rfl ?_
    obtain ⟨u4, hc5, h⟩ := qbind h
    refine q_cVr hX (ih_dealFrom _ _ _ _ hc5) cw_Dawn_68 rfl kc_96 rfl (Nat.le_refl _) rfl (Nat.le_of_ble_eq_true rfl) d_Dawn_dealFrom_97 ?_
    refine q_if_eq hX d_Dawn_dealFrom_100 rfl h (fun _ h => ?_) (fun _ h => ?_)
    · refine q_iconst hX d_Dawn_dealFrom_107 ic_0 ?_
      exact q_zretW hX zn_0 h hT d_Dawn_dealFrom_108
    · refine q_iconst hX d_Dawn_dealFrom_103 ic_1 ?_
      refine q_goto hX d_Dawn_dealFrom_104 rfl ?_
      exact q_zretW hX zn_1 h hT d_Dawn_dealFrom_108
set_option maxHeartbeats 4000000 in
theorem t_Dawn_dealFrom_lb30 {G : qG} {X : qX} {dd : Nat} (hX : qOk G X "ChantryRolls$Dawn" prog_3_method_7_code 5 (some .boolean) (dd + 1)) (hdd : 3 ≤ dd) {rec_dealFrom : qMem → Int32 → Int32 → Option (Int32 × qMem)} (ih_dealFrom : ∀ (σ : qMem) (x1 : Int32) (x2 : Int32) (u : Int32 × qMem), rec_dealFrom σ x1 x2 = some u → qCt X.l y_Dawn_dealFrom prog_3_method_7_code 5 (some .boolean) dd G qKS qRF σ [(.ref 96), (.int x1), (.int x2)] (some (.int u.1)) qKS qRF u.2 0 0) {u : Int32 × qMem} {f : Nat} {x1 : Int32} {x2 : Int32} {x3 : Int32} (hT : qTg G X 0 0 qKS qRF u.2 (some (.int u.1))) {k30 : qMem → Int32 → Option (Int32 × qMem)} (hk30 : ∀ (σ : qMem) (x4 : Int32), k30 σ x4 = some u → qV G X 0 0 qKS qRF σ 30 [some (.ref 96), some (.int x1), some (.int x2), some (.int x3), some (.int x4)] []) {σ : qMem} {x4 : Int32} (h : p_Dawn_dealFrom_l30 f rec_dealFrom x1 x2 x3  k30 σ x4 = some u) : qV G X 0 0 qKS qRF σ 30 [some (.ref 96), some (.int x1), some (.int x2), some (.int x3), some (.int x4)] [] := by
  unfold p_Dawn_dealFrom_l30 at h
  refine q_iload hX d_Dawn_dealFrom_30 rfl ?_
  refine q_iconst hX d_Dawn_dealFrom_32 ic_5 ?_
  refine q_icmp_ge hX d_Dawn_dealFrom_33 rfl h (fun _ h => ?_) (fun _ h => ?_)
  · exact q_mask [true, true, true, false, false] rfl (t_Dawn_dealFrom_b73 hX hdd ih_dealFrom hT h)
  · refine q_aload_n hX d_Dawn_dealFrom_36 rfl ?_
    refine q_iload_n hX d_Dawn_dealFrom_37 rfl ?_
    refine q_iload hX d_Dawn_dealFrom_38 rfl ?_
    obtain ⟨u6, hc7, h⟩ := qbind h
    refine q_cVr hX (c_Dawn_isFree X.l G hX.ad f _ _ _ hc7) cw_Dawn_95 rfl kc_96 rfl (by omega) rfl (Nat.le_of_ble_eq_true rfl) d_Dawn_dealFrom_40 ?_
    refine q_if_eq hX d_Dawn_dealFrom_43 rfl h (fun _ h => ?_) (fun _ h => ?_)
    · refine q_iinc hX d_Dawn_dealFrom_67 rfl (ii_1 _) (by decide) rfl rfl ?_
      refine q_goto hX d_Dawn_dealFrom_70 rfl ?_
      exact q_mask [true, true, true, true, true] rfl (hk30 _ _ h)
    · refine q_aload_n hX d_Dawn_dealFrom_46 rfl ?_
      refine q_getR hX fl_Dawn_15 kc_96 (rfl : qRF 96 4 = some 98) d_Dawn_dealFrom_47 ?_
      refine q_iload_n hX d_Dawn_dealFrom_50 rfl ?_
      refine q_iload hX d_Dawn_dealFrom_51 rfl ?_
      refine q_iast hX kc_98 qKS_len d_Dawn_dealFrom_53 h (fun hi8 h => ?_)
      refine q_aload_n hX d_Dawn_dealFrom_54 rfl ?_
      refine q_iload_n hX d_Dawn_dealFrom_55 rfl ?_
      refine q_iconst hX d_Dawn_dealFrom_56 ic_1 ?_
      refine q_iadd hX d_Dawn_dealFrom_57 ?_
      refine q_iload_n hX d_Dawn_dealFrom_58 rfl ?_
      obtain ⟨u9, hc10, h⟩ := qbind h
      refine q_cVr hX (ih_dealFrom _ _ _ _ hc10) cw_Dawn_68 rfl kc_96 rfl (Nat.le_refl _) rfl (Nat.le_of_ble_eq_true rfl) d_Dawn_dealFrom_59 ?_
      refine q_if_eq hX d_Dawn_dealFrom_62 rfl h (fun _ h => ?_) (fun _ h => ?_)
      · refine q_iinc hX d_Dawn_dealFrom_67 rfl (ii_1 _) (by decide) rfl rfl ?_
        refine q_goto hX d_Dawn_dealFrom_70 rfl ?_
        exact q_mask [true, true, true, true, true] rfl (hk30 _ _ h)
      · refine q_iconst hX d_Dawn_dealFrom_65 ic_1 ?_
        exact q_zretW hX zn_1 h hT d_Dawn_dealFrom_66
theorem t_Dawn_dealFrom_l30 {G : qG} {X : qX} {dd : Nat} (hX : qOk G X "ChantryRolls$Dawn" prog_3_method_7_code 5 (some .boolean) (dd + 1)) (hdd : 3 ≤ dd) {rec_dealFrom : qMem → Int32 → Int32 → Option (Int32 × qMem)} (ih_dealFrom : ∀ (σ : qMem) (x1 : Int32) (x2 : Int32) (u : Int32 × qMem), rec_dealFrom σ x1 x2 = some u → qCt X.l y_Dawn_dealFrom prog_3_method_7_code 5 (some .boolean) dd G qKS qRF σ [(.ref 96), (.int x1), (.int x2)] (some (.int u.1)) qKS qRF u.2 0 0) {u : Int32 × qMem} {f : Nat} {x1 : Int32} {x2 : Int32} {x3 : Int32} (hT : qTg G X 0 0 qKS qRF u.2 (some (.int u.1))) : ∀ (n : Nat) (σ : qMem) (x4 : Int32), qfix2 (p_Dawn_dealFrom_l30 f rec_dealFrom x1 x2 x3 ) n σ x4 = some u → qV G X 0 0 qKS qRF σ 30 [some (.ref 96), some (.int x1), some (.int x2), some (.int x3), some (.int x4)] [] :=
  qfix2_ind (fun k hk _ _ h => t_Dawn_dealFrom_lb30 hX hdd ih_dealFrom  hT  hk h)
set_option maxHeartbeats 4000000 in
theorem c_Dawn_dealFrom_body (l : Launch) (G : qG) (hA : qAd G) (f : Nat) {dd : Nat} (hdd : 3 ≤ dd) {rec_dealFrom : qMem → Int32 → Int32 → Option (Int32 × qMem)} (ih_dealFrom : ∀ (σ : qMem) (x1 : Int32) (x2 : Int32) (u : Int32 × qMem), rec_dealFrom σ x1 x2 = some u → qCt l y_Dawn_dealFrom prog_3_method_7_code 5 (some .boolean) dd G qKS qRF σ [(.ref 96), (.int x1), (.int x2)] (some (.int u.1)) qKS qRF u.2 0 0) (σ : qMem) (x1 : Int32) (x2 : Int32) {u : Int32 × qMem} (h : p_Dawn_dealFrom_body f rec_dealFrom σ x1 x2 = some u) : qCt l y_Dawn_dealFrom prog_3_method_7_code 5 (some .boolean) (dd + 1) G qKS qRF σ [(.ref 96), (.int x1), (.int x2)] (some (.int u.1)) qKS qRF u.2 0 0 := by
  refine qCt.of (lv := [some (.ref 96), some (.int x1), some (.int x2), none, none]) (by decide) hA (Nat.le_of_ble_eq_true rfl) rfl ?_
  intro X hl _ _ _ hX hT
  subst hl
  unfold p_Dawn_dealFrom_body at h
  refine q_iload_n hX d_Dawn_dealFrom_0 rfl ?_
  refine q_aload_n hX d_Dawn_dealFrom_1 rfl ?_
  refine q_getI hX fl_Dawn_22 kc_96 d_Dawn_dealFrom_2 ?_
  refine q_icmp_lt hX d_Dawn_dealFrom_5 rfl h (fun _ h => ?_) (fun _ h => ?_)
  · refine q_iload_n hX d_Dawn_dealFrom_10 rfl ?_
    refine q_iconst hX d_Dawn_dealFrom_11 ic_1 ?_
    refine q_iload_n hX d_Dawn_dealFrom_12 rfl ?_
    refine q_ishl hX d_Dawn_dealFrom_13 ?_
    refine q_ior hX d_Dawn_dealFrom_14 ?_
    refine q_istore_n hX d_Dawn_dealFrom_15 (by decide) rfl rfl ?_
    refine q_aload_n hX d_Dawn_dealFrom_16 rfl ?_
    refine q_iload_n hX d_Dawn_dealFrom_17 rfl ?_
    refine q_iload_n hX d_Dawn_dealFrom_18 rfl ?_
    refine q_iconst hX d_Dawn_dealFrom_19 ic_1 ?_
    refine q_iadd hX d_Dawn_dealFrom_20 ?_
    obtain ⟨u11, hc12, h⟩ := qbind h
    refine q_cVr hX (c_Dawn_leadsToLargest X.l G hX.ad f _ _ _ hc12) cw_Dawn_92 rfl kc_96 rfl (by omega) rfl (Nat.le_of_ble_eq_true rfl) d_Dawn_dealFrom_21 ?_
    refine q_if_eq hX d_Dawn_dealFrom_24 rfl h (fun _ h => ?_) (fun _ h => ?_)
    · exact q_mask [true, true, true, false, false] rfl (t_Dawn_dealFrom_b73 hX hdd ih_dealFrom hT h)
    · refine q_iconst hX d_Dawn_dealFrom_27 ic_0 ?_
      refine q_istore hX d_Dawn_dealFrom_28 (by decide) rfl rfl ?_
      exact q_mask [true, true, true, true, true] rfl (t_Dawn_dealFrom_l30 hX hdd ih_dealFrom hT f _ _ h)
  · refine q_iconst hX d_Dawn_dealFrom_8 ic_1 ?_
    exact q_zretW hX zn_1 h hT d_Dawn_dealFrom_9
theorem c_Dawn_dealFrom_all (l : Launch) (G : qG) (hA : qAd G) (f : Nat) : ∀ (n : Nat), ∀ (σ : qMem) (x1 : Int32) (x2 : Int32) (u : Int32 × qMem), p_Dawn_dealFrom f n σ x1 x2 = some u → qCt l y_Dawn_dealFrom prog_3_method_7_code 5 (some .boolean) (3 + n) G qKS qRF σ [(.ref 96), (.int x1), (.int x2)] (some (.int u.1)) qKS qRF u.2 0 0
  | 0, _, _, _, _, h => by cases h
  | n + 1, σ, x1, x2, _, h => c_Dawn_dealFrom_body l G hA f (Nat.le_add_right 3 n) (c_Dawn_dealFrom_all l G hA f n) σ x1 x2 h
theorem c_Dawn_dealFrom (l : Launch) (G : qG) (hA : qAd G) (f n : Nat) (σ : qMem) (x1 : Int32) (x2 : Int32) {u : Int32 × qMem} (h : p_Dawn_dealFrom f n σ x1 x2 = some u) : qCt l y_Dawn_dealFrom prog_3_method_7_code 5 (some .boolean) (3 + n) G qKS qRF σ [(.ref 96), (.int x1), (.int x2)] (some (.int u.1)) qKS qRF u.2 0 0 := c_Dawn_dealFrom_all l G hA f n σ x1 x2 _ h
set_option maxHeartbeats 4000000 in
theorem t_Dawn_deal_b88 {G : qG} {X : qX} (hX : qOk G X "ChantryRolls$Dawn" prog_3_method_4_code 4 none 14) {u : qMem} {f : Nat} {σ : qMem} (hT : qTg G X 0 0 qKS qRF u none) (h : p_Dawn_deal_b88 f    σ = some u) : qV G X 0 0 qKS qRF σ 88 [some (.ref 96), none, none, none] [] := by
  unfold p_Dawn_deal_b88 at h
  refine q_aload_n hX d_Dawn_deal_88 rfl ?_
  obtain ⟨u1, hc2, h⟩ := qbind h
  refine q_cVv hX (c_Dawn_findLargest X.l G hX.ad f _  hc2) cw_Dawn_65 rfl kc_96 rfl (Nat.le_of_ble_eq_true rfl) rfl (Nat.le_of_ble_eq_true rfl) d_Dawn_deal_89 ?_
  refine q_aload_n hX d_Dawn_deal_92 rfl ?_
  refine q_iconst hX d_Dawn_deal_93 ic_0 ?_
  refine q_iconst hX d_Dawn_deal_94 ic_0 ?_
  obtain ⟨u3, hc4, h⟩ := qbind h
  refine q_cVr hX (c_Dawn_dealFrom X.l G hX.ad f 10 _ _ _ hc4) cw_Dawn_68 rfl kc_96 rfl (Nat.le_of_ble_eq_true rfl) rfl (Nat.le_of_ble_eq_true rfl) d_Dawn_deal_95 ?_
  refine q_pop hX rfl d_Dawn_deal_98 ?_
  exact q_vretW hX h hT d_Dawn_deal_99
set_option maxHeartbeats 4000000 in
theorem t_Dawn_deal_lb7 {G : qG} {X : qX} (hX : qOk G X "ChantryRolls$Dawn" prog_3_method_4_code 4 none 14) {u : qMem} {f : Nat} {x1 : Int32} {x2 : Int32} (hT : qTg G X 0 0 qKS qRF u none) {k7 : qMem → Int32 → Option (qMem)} (hk7 : ∀ (σ : qMem) (x3 : Int32), k7 σ x3 = some u → qV G X 0 0 qKS qRF σ 7 [some (.ref 96), some (.int x1), some (.int x2), some (.int x3)] []) {σ : qMem} {x3 : Int32} (h : p_Dawn_deal_l7 f  x1 x2  k7 σ x3 = some u) : qV G X 0 0 qKS qRF σ 7 [some (.ref 96), some (.int x1), some (.int x2), some (.int x3)] [] := by
  unfold p_Dawn_deal_l7 at h
  refine q_iload_n hX d_Dawn_deal_7 rfl ?_
  refine q_aload_n hX d_Dawn_deal_8 rfl ?_
  refine q_getR hX fl_Dawn_38 kc_96 (rfl : qRF 96 0 = some 13) d_Dawn_deal_9 ?_
  obtain ⟨u5, hc6, h⟩ := qbind h
  refine q_cVr hX (c_Promises_size X.l G hX.ad f _  hc6) cw_Dawn_50 rfl kc_13 rfl (Nat.le_of_ble_eq_true rfl) rfl (Nat.le_of_ble_eq_true rfl) d_Dawn_deal_12 ?_
  refine q_icmp_ge hX d_Dawn_deal_15 rfl h (fun _ h => ?_) (fun _ h => ?_)
  · exact q_mask [true, false, false, false] rfl (t_Dawn_deal_b88 hX hT h)
  · refine q_aload_n hX d_Dawn_deal_18 rfl ?_
    refine q_getI hX fl_Dawn_22 kc_96 d_Dawn_deal_19 ?_
    refine q_bipush hX d_Dawn_deal_22 bp_8 ?_
    refine q_icmp_ge hX d_Dawn_deal_24 rfl h (fun _ h => ?_) (fun _ h => ?_)
    · exact q_mask [true, false, false, false] rfl (t_Dawn_deal_b88 hX hT h)
    · refine q_iload_n hX d_Dawn_deal_27 rfl ?_
      refine q_iload_n hX d_Dawn_deal_28 rfl ?_
      refine q_ishr hX d_Dawn_deal_29 ?_
      refine q_iconst hX d_Dawn_deal_30 ic_1 ?_
      refine q_iand hX d_Dawn_deal_31 ?_
      refine q_iconst hX d_Dawn_deal_32 ic_1 ?_
      refine q_icmp_ne hX d_Dawn_deal_33 rfl h (fun _ h => ?_) (fun _ h => ?_)
      · refine q_iinc hX d_Dawn_deal_82 rfl (ii_1 _) (by decide) rfl rfl ?_
        refine q_goto hX d_Dawn_deal_85 rfl ?_
        exact q_mask [true, true, true, true] rfl (hk7 _ _ h)
      · refine q_aload_n hX d_Dawn_deal_36 rfl ?_
        refine q_getR hX fl_Dawn_11 kc_96 (rfl : qRF 96 3 = some 97) d_Dawn_deal_37 ?_
        refine q_aload_n hX d_Dawn_deal_40 rfl ?_
        refine q_getI hX fl_Dawn_22 kc_96 d_Dawn_deal_41 ?_
        refine q_iload_n hX d_Dawn_deal_44 rfl ?_
        refine q_iast hX kc_97 qKS_len d_Dawn_deal_45 h (fun hi7 h => ?_)
        refine q_aload_n hX d_Dawn_deal_46 rfl ?_
        refine q_getR hX fl_Dawn_18 kc_96 (rfl : qRF 96 5 = some 99) d_Dawn_deal_47 ?_
        refine q_aload_n hX d_Dawn_deal_50 rfl ?_
        refine q_getI hX fl_Dawn_22 kc_96 d_Dawn_deal_51 ?_
        refine q_aload_n hX d_Dawn_deal_54 rfl ?_
        refine q_getR hX fl_Dawn_42 kc_96 (rfl : qRF 96 1 = some 33) d_Dawn_deal_55 ?_
        refine q_aload_n hX d_Dawn_deal_58 rfl ?_
        refine q_getR hX fl_Dawn_38 kc_96 (rfl : qRF 96 0 = some 13) d_Dawn_deal_59 ?_
        refine q_iload_n hX d_Dawn_deal_62 rfl ?_
        refine q_iconst hX d_Dawn_deal_63 ic_3 ?_
        obtain ⟨u8, hc9, h⟩ := qbind h
        refine q_cVr hX (c_Promises_of X.l G hX.ad f _ _ _ hc9) cw_Dawn_55 rfl kc_13 rfl (Nat.le_of_ble_eq_true rfl) rfl (Nat.le_of_ble_eq_true rfl) d_Dawn_deal_64 ?_
        refine q_iload_n hX d_Dawn_deal_67 rfl ?_
        obtain ⟨u10, hc11, h⟩ := qbind h
        refine q_cVr hX (c_Spans_covers_33 X.l G hX.ad f _ _ _ hc11) cw_Dawn_59 rfl kc_33 rfl (Nat.le_of_ble_eq_true rfl) rfl (Nat.le_of_ble_eq_true rfl) d_Dawn_deal_68 ?_
        refine q_zast hX kc_99 qKS_len d_Dawn_deal_71 h (fun hi12 h => ?_)
        refine q_aload_n hX d_Dawn_deal_72 rfl ?_
        refine q_dup hX rfl d_Dawn_deal_73 ?_
        refine q_getI hX fl_Dawn_22 kc_96 d_Dawn_deal_74 ?_
        refine q_iconst hX d_Dawn_deal_77 ic_1 ?_
        refine q_iadd hX d_Dawn_deal_78 ?_
        refine q_putI hX fl_Dawn_22 kc_96 rfl qKS_len d_Dawn_deal_79 ?_
        refine q_iinc hX d_Dawn_deal_82 rfl (ii_1 _) (by decide) rfl rfl ?_
        refine q_goto hX d_Dawn_deal_85 rfl ?_
        exact q_mask [true, true, true, true] rfl (hk7 _ _ h)
theorem t_Dawn_deal_l7 {G : qG} {X : qX} (hX : qOk G X "ChantryRolls$Dawn" prog_3_method_4_code 4 none 14) {u : qMem} {f : Nat} {x1 : Int32} {x2 : Int32} (hT : qTg G X 0 0 qKS qRF u none) : ∀ (n : Nat) (σ : qMem) (x3 : Int32), qfix2 (p_Dawn_deal_l7 f  x1 x2 ) n σ x3 = some u → qV G X 0 0 qKS qRF σ 7 [some (.ref 96), some (.int x1), some (.int x2), some (.int x3)] [] :=
  qfix2_ind (fun k hk _ _ h => t_Dawn_deal_lb7 hX   hT  hk h)
set_option maxHeartbeats 4000000 in
theorem c_Dawn_deal (l : Launch) (G : qG) (hA : qAd G) (f : Nat) (σ : qMem) (x1 : Int32) (x2 : Int32) {u : qMem} (h : p_Dawn_deal f σ x1 x2 = some u) : qCt l y_Dawn_deal prog_3_method_4_code 4 none 14 G qKS qRF σ [(.ref 96), (.int x1), (.int x2)] none qKS qRF u 0 0 := by
  refine qCt.of (lv := [some (.ref 96), some (.int x1), some (.int x2), none]) (by decide) hA (Nat.le_of_ble_eq_true rfl) rfl ?_
  intro X hl _ _ _ hX hT
  subst hl
  unfold p_Dawn_deal at h
  refine q_aload_n hX d_Dawn_deal_0 rfl ?_
  refine q_iconst hX d_Dawn_deal_1 ic_0 ?_
  refine q_putI hX fl_Dawn_22 kc_96 rfl qKS_len d_Dawn_deal_2 ?_
  refine q_iconst hX d_Dawn_deal_5 ic_0 ?_
  refine q_istore_n hX d_Dawn_deal_6 (by decide) rfl rfl ?_
  exact q_mask [true, true, true, true] rfl (t_Dawn_deal_l7 hX hT f _ _ h)
set_option maxHeartbeats 4000000 in
theorem c_Dawn_howMany (l : Launch) (G : qG) (hA : qAd G) (f : Nat) (σ : qMem) {u : Int32} (h : p_Dawn_howMany f σ  = some u) : qCt l y_Dawn_howMany prog_3_method_2_code 1 (some .int) 1 G qKS qRF σ [(.ref 96)] (some (.int u)) qKS qRF σ 0 0 := by
  refine qCt.of (lv := [some (.ref 96)]) (by decide) hA (Nat.le_of_ble_eq_true rfl) rfl ?_
  intro X hl _ _ _ hX hT
  subst hl
  unfold p_Dawn_howMany at h
  refine q_aload_n hX d_Dawn_howMany_0 rfl ?_
  refine q_getI hX fl_Dawn_29 kc_96 d_Dawn_howMany_1 ?_
  exact q_iretR hX h hT d_Dawn_howMany_4
set_option maxHeartbeats 4000000 in
theorem t_Dawn_hourOf_lb2 {G : qG} {X : qX} (hX : qOk G X "ChantryRolls$Dawn" prog_3_method_3_code 3 (some .int) 1) {u : Int32} {f : Nat} {σ : qMem} {x1 : Int32} (hT : qTg G X 0 0 qKS qRF σ (some (.int u))) {k2 : Int32 → Option (Int32)} (hk2 : ∀ (x2 : Int32), k2 x2 = some u → qV G X 0 0 qKS qRF σ 2 [some (.ref 96), some (.int x1), some (.int x2)] []) {x2 : Int32} (h : p_Dawn_hourOf_l2 f  σ x1  k2 x2 = some u) : qV G X 0 0 qKS qRF σ 2 [some (.ref 96), some (.int x1), some (.int x2)] [] := by
  unfold p_Dawn_hourOf_l2 at h
  refine q_iload_n hX d_Dawn_hourOf_2 rfl ?_
  refine q_aload_n hX d_Dawn_hourOf_3 rfl ?_
  refine q_getI hX fl_Dawn_22 kc_96 d_Dawn_hourOf_4 ?_
  refine q_icmp_ge hX d_Dawn_hourOf_7 rfl h (fun _ h => ?_) (fun _ h => ?_)
  · refine q_ldc hX w_1001 d_Dawn_hourOf_33 ?_
    exact q_iretR hX h hT d_Dawn_hourOf_35
  · refine q_aload_n hX d_Dawn_hourOf_10 rfl ?_
    refine q_getR hX fl_Dawn_11 kc_96 (rfl : qRF 96 3 = some 97) d_Dawn_hourOf_11 ?_
    refine q_iload_n hX d_Dawn_hourOf_14 rfl ?_
    refine q_iald hX kc_97 d_Dawn_hourOf_15 h (fun hi1 h => ?_)
    refine q_iload_n hX d_Dawn_hourOf_16 rfl ?_
    refine q_icmp_ne hX d_Dawn_hourOf_17 rfl h (fun _ h => ?_) (fun _ h => ?_)
    · refine q_iinc hX d_Dawn_hourOf_27 rfl (ii_1 _) (by decide) rfl rfl ?_
      refine q_goto hX d_Dawn_hourOf_30 rfl ?_
      exact q_mask [true, true, true] rfl (hk2 _ h)
    · refine q_aload_n hX d_Dawn_hourOf_20 rfl ?_
      refine q_getR hX fl_Dawn_15 kc_96 (rfl : qRF 96 4 = some 98) d_Dawn_hourOf_21 ?_
      refine q_iload_n hX d_Dawn_hourOf_24 rfl ?_
      refine q_iald hX kc_98 d_Dawn_hourOf_25 h (fun hi2 h => ?_)
      exact q_iretR hX h hT d_Dawn_hourOf_26
theorem t_Dawn_hourOf_l2 {G : qG} {X : qX} (hX : qOk G X "ChantryRolls$Dawn" prog_3_method_3_code 3 (some .int) 1) {u : Int32} {f : Nat} {σ : qMem} {x1 : Int32} (hT : qTg G X 0 0 qKS qRF σ (some (.int u))) : ∀ (n : Nat) (x2 : Int32), qfix1 (p_Dawn_hourOf_l2 f  σ x1 ) n x2 = some u → qV G X 0 0 qKS qRF σ 2 [some (.ref 96), some (.int x1), some (.int x2)] [] :=
  qfix1_ind (fun k hk _ h => t_Dawn_hourOf_lb2 hX   hT  hk h)
set_option maxHeartbeats 4000000 in
theorem c_Dawn_hourOf (l : Launch) (G : qG) (hA : qAd G) (f : Nat) (σ : qMem) (x1 : Int32) {u : Int32} (h : p_Dawn_hourOf f σ x1 = some u) : qCt l y_Dawn_hourOf prog_3_method_3_code 3 (some .int) 1 G qKS qRF σ [(.ref 96), (.int x1)] (some (.int u)) qKS qRF σ 0 0 := by
  refine qCt.of (lv := [some (.ref 96), some (.int x1), none]) (by decide) hA (Nat.le_of_ble_eq_true rfl) rfl ?_
  intro X hl _ _ _ hX hT
  subst hl
  unfold p_Dawn_hourOf at h
  refine q_iconst hX d_Dawn_hourOf_0 ic_0 ?_
  refine q_istore_n hX d_Dawn_hourOf_1 (by decide) rfl rfl ?_
  exact q_mask [true, true, true] rfl (t_Dawn_hourOf_l2 hX hT f _ h)
set_option maxHeartbeats 4000000 in
theorem t_C_dawn_b50 {G : qG} {X : qX} (hX : qOk G X "ChantryRolls" prog_1_method_34_code 4 (some .int) 15) {u : Int32 × qMem} {f : Nat} {σ : qMem} {x1 : Int32} {x2 : Int32} {x3 : Int32} (hT : qTg G X 0 0 qKS qRF u.2 (some (.int u.1))) (h : p_C_dawn_b50 f    σ x1 x2 x3 = some u) : qV G X 0 0 qKS qRF σ 50 [some (.ref 0), some (.int x1), some (.int x2), some (.int x3)] [] := by
  unfold p_C_dawn_b50 at h
  refine q_aload_n hX d_C_dawn_50 rfl ?_
  refine q_getR hX fl_C_95 kc_0 (rfl : qRF 0 12 = some 96) d_C_dawn_51 ?_
  refine q_iload_n hX d_C_dawn_54 rfl ?_
  refine q_iload_n hX d_C_dawn_55 rfl ?_
  obtain ⟨u1, hc2, h⟩ := qbind h
  refine q_cVv hX (c_Dawn_deal X.l G hX.ad f _ _ _ hc2) cw_C_322 rfl kc_96 rfl (Nat.le_of_ble_eq_true rfl) rfl (Nat.le_of_ble_eq_true rfl) d_C_dawn_56 ?_
  refine q_iload_n hX d_C_dawn_59 rfl ?_
  refine q_ldcw hX w_860 d_C_dawn_60 ?_
  refine q_icmp_ne hX d_C_dawn_63 rfl h (fun _ h => ?_) (fun _ h => ?_)
  · refine q_aload_n hX d_C_dawn_76 rfl ?_
    refine q_getR hX fl_C_95 kc_0 (rfl : qRF 0 12 = some 96) d_C_dawn_77 ?_
    refine q_iload_n hX d_C_dawn_80 rfl ?_
    obtain ⟨u3, hc4, h⟩ := qbind h
    refine q_cVr hX (c_Dawn_hourOf X.l G hX.ad f _ _ hc4) cw_C_328 rfl kc_96 rfl (Nat.le_of_ble_eq_true rfl) rfl (Nat.le_of_ble_eq_true rfl) d_C_dawn_81 ?_
    exact q_iretW hX h hT d_C_dawn_84
  · refine q_aload_n hX d_C_dawn_66 rfl ?_
    refine q_getR hX fl_C_95 kc_0 (rfl : qRF 0 12 = some 96) d_C_dawn_67 ?_
    obtain ⟨u5, hc6, h⟩ := qbind h
    refine q_cVr hX (c_Dawn_howMany X.l G hX.ad f _  hc6) cw_C_325 rfl kc_96 rfl (Nat.le_of_ble_eq_true rfl) rfl (Nat.le_of_ble_eq_true rfl) d_C_dawn_70 ?_
    refine q_goto hX d_C_dawn_73 rfl ?_
    exact q_iretW hX h hT d_C_dawn_84
set_option maxHeartbeats 4000000 in
theorem c_C_dawn (l : Launch) (G : qG) (hA : qAd G) (f : Nat) (σ : qMem) (x1 : Int32) (x2 : Int32) (x3 : Int32) {u : Int32 × qMem} (h : p_C_dawn f σ x1 x2 x3 = some u) : qCt l y_C_dawn prog_1_method_34_code 4 (some .int) 15 G qKS qRF σ [(.ref 0), (.int x1), (.int x2), (.int x3)] (some (.int u.1)) qKS qRF u.2 0 0 := by
  refine qCt.of (lv := [some (.ref 0), some (.int x1), some (.int x2), some (.int x3)]) (by decide) hA (Nat.le_of_ble_eq_true rfl) rfl ?_
  intro X hl _ _ _ hX hT
  subst hl
  unfold p_C_dawn at h
  refine q_aload_n hX d_C_dawn_0 rfl ?_
  refine q_getR hX fl_C_19 kc_0 (rfl : qRF 0 1 = some 13) d_C_dawn_1 ?_
  refine q_iload_n hX d_C_dawn_4 rfl ?_
  obtain ⟨u7, hc8, h⟩ := qbind h
  refine q_cVr hX (c_Promises_areThere X.l G hX.ad f _ _ hc8) cw_C_314 rfl kc_13 rfl (Nat.le_of_ble_eq_true rfl) rfl (Nat.le_of_ble_eq_true rfl) d_C_dawn_5 ?_
  refine q_if_eq hX d_C_dawn_8 rfl h (fun _ h => ?_) (fun _ h => ?_)
  · refine q_ldc hX w_383 d_C_dawn_27 ?_
    exact q_iretW hX h hT d_C_dawn_29
  · refine q_iload_n hX d_C_dawn_11 rfl ?_
    obtain ⟨u9, hc10, h⟩ := qbind h
    refine q_cSr hX (c_In_bitCount X.l G hX.ad f _ _ hc10) cw_C_317 rfl (Nat.le_of_ble_eq_true rfl) rfl (Nat.le_of_ble_eq_true rfl) d_C_dawn_12 ?_
    refine q_bipush hX d_C_dawn_15 bp_8 ?_
    refine q_icmp_gt hX d_C_dawn_17 rfl h (fun _ h => ?_) (fun _ h => ?_)
    · refine q_ldc hX w_383 d_C_dawn_27 ?_
      exact q_iretW hX h hT d_C_dawn_29
    · refine q_iload_n hX d_C_dawn_20 rfl ?_
      obtain ⟨u11, hc12, h⟩ := qbind h
      refine q_cSr hX (c_C_noDay X.l G hX.ad f _ _ hc12) cw_C_178 rfl (Nat.le_of_ble_eq_true rfl) rfl (Nat.le_of_ble_eq_true rfl) d_C_dawn_21 ?_
      refine q_if_eq hX d_C_dawn_24 rfl h (fun _ h => ?_) (fun _ h => ?_)
      · refine q_iload_n hX d_C_dawn_30 rfl ?_
        refine q_ldcw hX w_860 d_C_dawn_31 ?_
        refine q_icmp_eq hX d_C_dawn_34 rfl h (fun _ h => ?_) (fun _ h => ?_)
        · exact q_mask [true, true, true, true] rfl (t_C_dawn_b50 hX hT h)
        · refine q_iload_n hX d_C_dawn_37 rfl ?_
          refine q_iconst hX d_C_dawn_38 ic_0 ?_
          refine q_bipush hX d_C_dawn_39 bp_11 ?_
          obtain ⟨u13, hc14, h⟩ := qbind h
          refine q_cSr hX (c_C_outside X.l G hX.ad f _ _ _ _ hc14) cw_C_122 rfl (Nat.le_of_ble_eq_true rfl) rfl (Nat.le_of_ble_eq_true rfl) d_C_dawn_41 ?_
          refine q_if_eq hX d_C_dawn_44 rfl h (fun _ h => ?_) (fun _ h => ?_)
          · exact q_mask [true, true, true, true] rfl (t_C_dawn_b50 hX hT h)
          · refine q_ldc hX w_383 d_C_dawn_47 ?_
            exact q_iretW hX h hT d_C_dawn_49
      · refine q_ldc hX w_383 d_C_dawn_27 ?_
        exact q_iretW hX h hT d_C_dawn_29
set_option maxHeartbeats 4000000 in
theorem c_C_day (l : Launch) (G : qG) (hA : qAd G) (f : Nat) (σ : qMem) (x1 : Int32) {u : Int32 × qMem} (h : p_C_day f σ x1 = some u) : qCt l y_C_day prog_1_method_35_code 3 (some .int) 3 G qKS qRF σ [(.ref 0), (.int x1)] (some (.int u.1)) qKS qRF u.2 0 0 := by
  refine qCt.of (lv := [some (.ref 0), some (.int x1), none]) (by decide) hA (Nat.le_of_ble_eq_true rfl) rfl ?_
  intro X hl _ _ _ hX hT
  subst hl
  unfold p_C_day at h
  refine q_iload_n hX d_C_day_0 rfl ?_
  obtain ⟨u1, hc2, h⟩ := qbind h
  refine q_cSr hX (c_C_noDay X.l G hX.ad f _ _ hc2) cw_C_178 rfl (Nat.le_of_ble_eq_true rfl) rfl (Nat.le_of_ble_eq_true rfl) d_C_day_1 ?_
  refine q_if_eq hX d_C_day_4 rfl h (fun _ h => ?_) (fun _ h => ?_)
  · refine q_aload_n hX d_C_day_10 rfl ?_
    refine q_getI hX fl_C_106 kc_0 d_C_day_11 ?_
    refine q_istore_n hX d_C_day_14 (by decide) rfl rfl ?_
    refine q_aload_n hX d_C_day_15 rfl ?_
    refine q_iload_n hX d_C_day_16 rfl ?_
    refine q_putI hX fl_C_106 kc_0 rfl qKS_len d_C_day_17 ?_
    refine q_iload_n hX d_C_day_20 rfl ?_
    exact q_iretW hX h hT d_C_day_21
  · refine q_ldc hX w_383 d_C_day_7 ?_
    exact q_iretW hX h hT d_C_day_9
set_option maxHeartbeats 4000000 in
theorem c_C_kindToday (l : Launch) (G : qG) (hA : qAd G) (f : Nat) (σ : qMem) (x1 : Int32) {u : Int32} (h : p_C_kindToday f σ x1 = some u) : qCt l y_C_kindToday prog_1_method_56_code 2 (some .int) 5 G qKS qRF σ [(.ref 0), (.int x1)] (some (.int u)) qKS qRF σ 0 0 := by
  refine qCt.of (lv := [some (.ref 0), some (.int x1)]) (by decide) hA (Nat.le_of_ble_eq_true rfl) rfl ?_
  intro X hl _ _ _ hX hT
  subst hl
  unfold p_C_kindToday at h
  refine q_aload_n hX d_C_kindToday_0 rfl ?_
  refine q_getR hX fl_C_53 kc_0 (rfl : qRF 0 6 = some 37) d_C_kindToday_1 ?_
  refine q_iload_n hX d_C_kindToday_4 rfl ?_
  refine q_aload_n hX d_C_kindToday_5 rfl ?_
  refine q_getI hX fl_C_106 kc_0 d_C_kindToday_6 ?_
  obtain ⟨u1, hc2, h⟩ := qbind h
  refine q_cVr hX (c_Acts_ended X.l G hX.ad f _ _ _ hc2) cw_C_362 rfl kc_37 rfl (Nat.le_of_ble_eq_true rfl) rfl (Nat.le_of_ble_eq_true rfl) d_C_kindToday_9 ?_
  refine q_if_eq hX d_C_kindToday_12 rfl h (fun _ h => ?_) (fun _ h => ?_)
  · refine q_aload_n hX d_C_kindToday_17 rfl ?_
    refine q_getR hX fl_C_19 kc_0 (rfl : qRF 0 1 = some 13) d_C_kindToday_18 ?_
    refine q_iload_n hX d_C_kindToday_21 rfl ?_
    obtain ⟨u3, hc4, h⟩ := qbind h
    refine q_cVr hX (c_Promises_isObit X.l G hX.ad f _ _ hc4) cw_C_265 rfl kc_13 rfl (Nat.le_of_ble_eq_true rfl) rfl (Nat.le_of_ble_eq_true rfl) d_C_kindToday_22 ?_
    refine q_if_eq hX d_C_kindToday_25 rfl h (fun _ h => ?_) (fun _ h => ?_)
    · refine q_aload_n hX d_C_kindToday_30 rfl ?_
      refine q_getR hX fl_C_69 kc_0 (rfl : qRF 0 8 = some 48) d_C_kindToday_31 ?_
      refine q_iload_n hX d_C_kindToday_34 rfl ?_
      refine q_aload_n hX d_C_kindToday_35 rfl ?_
      refine q_getI hX fl_C_106 kc_0 d_C_kindToday_36 ?_
      obtain ⟨u5, hc6, h⟩ := qbind h
      refine q_cVr hX (c_Joins_otherOf X.l G hX.ad f _ _ _ hc6) cw_C_359 rfl kc_48 rfl (Nat.le_of_ble_eq_true rfl) rfl (Nat.le_of_ble_eq_true rfl) d_C_kindToday_39 ?_
      refine q_ldcw hX w_860 d_C_kindToday_42 ?_
      refine q_icmp_ne hX d_C_kindToday_45 rfl h (fun _ h => ?_) (fun _ h => ?_)
      · refine q_iconst hX d_C_kindToday_52 ic_2 ?_
        exact q_iretR hX h hT d_C_kindToday_53
      · refine q_iconst hX d_C_kindToday_48 ic_1 ?_
        refine q_goto hX d_C_kindToday_49 rfl ?_
        exact q_iretR hX h hT d_C_kindToday_53
    · refine q_iconst hX d_C_kindToday_28 ic_3 ?_
      exact q_iretR hX h hT d_C_kindToday_29
  · refine q_iconst hX d_C_kindToday_15 ic_4 ?_
    exact q_iretR hX h hT d_C_kindToday_16
set_option maxHeartbeats 4000000 in
theorem c_C_kind (l : Launch) (G : qG) (hA : qAd G) (f : Nat) (σ : qMem) (x1 : Int32) {u : Int32} (h : p_C_kind f σ x1 = some u) : qCt l y_C_kind prog_1_method_36_code 2 (some .int) 6 G qKS qRF σ [(.ref 0), (.int x1)] (some (.int u)) qKS qRF σ 0 0 := by
  refine qCt.of (lv := [some (.ref 0), some (.int x1)]) (by decide) hA (Nat.le_of_ble_eq_true rfl) rfl ?_
  intro X hl _ _ _ hX hT
  subst hl
  unfold p_C_kind at h
  refine q_aload_n hX d_C_kind_0 rfl ?_
  refine q_getR hX fl_C_19 kc_0 (rfl : qRF 0 1 = some 13) d_C_kind_1 ?_
  refine q_iload_n hX d_C_kind_4 rfl ?_
  obtain ⟨u1, hc2, h⟩ := qbind h
  refine q_cVr hX (c_Promises_has X.l G hX.ad f _ _ hc2) cw_C_171 rfl kc_13 rfl (Nat.le_of_ble_eq_true rfl) rfl (Nat.le_of_ble_eq_true rfl) d_C_kind_5 ?_
  refine q_if_eq hX d_C_kind_8 rfl h (fun _ h => ?_) (fun _ h => ?_)
  · refine q_ldc hX w_383 d_C_kind_19 ?_
    exact q_iretR hX h hT d_C_kind_21
  · refine q_aload_n hX d_C_kind_11 rfl ?_
    refine q_iload_n hX d_C_kind_12 rfl ?_
    obtain ⟨u3, hc4, h⟩ := qbind h
    refine q_cVr hX (c_C_kindToday X.l G hX.ad f _ _ hc4) cw_C_331 rfl kc_0 rfl (Nat.le_of_ble_eq_true rfl) rfl (Nat.le_of_ble_eq_true rfl) d_C_kind_13 ?_
    refine q_goto hX d_C_kind_16 rfl ?_
    exact q_iretR hX h hT d_C_kind_21
set_option maxHeartbeats 4000000 in
theorem t_C_as_b48 {G : qG} {X : qX} (hX : qOk G X "ChantryRolls" prog_1_method_37_code 4 (some .int) 6) {u : Int32 × qMem} {f : Nat} {σ : qMem} {x1 : Int32} (hT : qTg G X 0 0 qKS qRF u.2 (some (.int u.1))) (h : p_C_as_b48 f    σ x1 = some u) : qV G X 0 0 qKS qRF σ 48 [some (.ref 0), some (.int x1), none, none] [] := by
  unfold p_C_as_b48 at h
  refine q_aload_n hX d_C_as_48 rfl ?_
  refine q_aload_n hX d_C_as_49 rfl ?_
  refine q_getR hX fl_C_19 kc_0 (rfl : qRF 0 1 = some 13) d_C_as_50 ?_
  refine q_iload_n hX d_C_as_53 rfl ?_
  refine q_iconst hX d_C_as_54 ic_1 ?_
  obtain ⟨u1, hc2, h⟩ := qbind h
  refine q_cVr hX (c_Promises_of X.l G hX.ad f _ _ _ hc2) cw_C_174 rfl kc_13 rfl (Nat.le_of_ble_eq_true rfl) rfl (Nat.le_of_ble_eq_true rfl) d_C_as_55 ?_
  obtain ⟨u3, hc4, h⟩ := qbind h
  refine q_cVr hX (c_C_foundNothing X.l G hX.ad f _ _ hc4) cw_C_135 rfl kc_0 rfl (Nat.le_of_ble_eq_true rfl) rfl (Nat.le_of_ble_eq_true rfl) d_C_as_58 ?_
  exact q_iretW hX h hT d_C_as_61
set_option maxHeartbeats 4000000 in
theorem t_C_as_b62 {G : qG} {X : qX} (hX : qOk G X "ChantryRolls" prog_1_method_37_code 4 (some .int) 6) {u : Int32 × qMem} {f : Nat} {σ : qMem} (hT : qTg G X 0 0 qKS qRF u.2 (some (.int u.1))) (h : p_C_as_b62 f    σ = some u) : qV G X 0 0 qKS qRF σ 62 [some (.ref 0), none, none, none] [] := by
  unfold p_C_as_b62 at h
  refine q_aload_n hX d_C_as_62 rfl ?_
  refine q_iconst hX d_C_as_63 ic_3 ?_
  obtain ⟨u5, hc6, h⟩ := qbind h
  refine q_cVr hX (c_C_found X.l G hX.ad f _ _ hc6) cw_C_127 rfl kc_0 rfl (Nat.le_of_ble_eq_true rfl) rfl (Nat.le_of_ble_eq_true rfl) d_C_as_64 ?_
  exact q_iretW hX h hT d_C_as_67
set_option maxHeartbeats 4000000 in
theorem c_C_as (l : Launch) (G : qG) (hA : qAd G) (f : Nat) (σ : qMem) (x1 : Int32) (x2 : Int32) {u : Int32 × qMem} (h : p_C_as f σ x1 x2 = some u) : qCt l y_C_as prog_1_method_37_code 4 (some .int) 6 G qKS qRF σ [(.ref 0), (.int x1), (.int x2)] (some (.int u.1)) qKS qRF u.2 0 0 := by
  refine qCt.of (lv := [some (.ref 0), some (.int x1), some (.int x2), none]) (by decide) hA (Nat.le_of_ble_eq_true rfl) rfl ?_
  intro X hl _ _ _ hX hT
  subst hl
  unfold p_C_as at h
  refine q_aload_n hX d_C_as_0 rfl ?_
  refine q_getR hX fl_C_19 kc_0 (rfl : qRF 0 1 = some 13) d_C_as_1 ?_
  refine q_iload_n hX d_C_as_4 rfl ?_
  obtain ⟨u7, hc8, h⟩ := qbind h
  refine q_cVr hX (c_Promises_has X.l G hX.ad f _ _ hc8) cw_C_171 rfl kc_13 rfl (Nat.le_of_ble_eq_true rfl) rfl (Nat.le_of_ble_eq_true rfl) d_C_as_5 ?_
  refine q_if_eq hX d_C_as_8 rfl h (fun _ h => ?_) (fun _ h => ?_)
  · refine q_ldc hX w_383 d_C_as_20 ?_
    exact q_iretW hX h hT d_C_as_22
  · refine q_iload_n hX d_C_as_11 rfl ?_
    refine q_iconst hX d_C_as_12 ic_0 ?_
    refine q_iconst hX d_C_as_13 ic_4 ?_
    obtain ⟨u9, hc10, h⟩ := qbind h
    refine q_cSr hX (c_C_outside X.l G hX.ad f _ _ _ _ hc10) cw_C_122 rfl (Nat.le_of_ble_eq_true rfl) rfl (Nat.le_of_ble_eq_true rfl) d_C_as_14 ?_
    refine q_if_eq hX d_C_as_17 rfl h (fun _ h => ?_) (fun _ h => ?_)
    · refine q_aload_n hX d_C_as_23 rfl ?_
      refine q_iload_n hX d_C_as_24 rfl ?_
      obtain ⟨u11, hc12, h⟩ := qbind h
      refine q_cVr hX (c_C_kindToday X.l G hX.ad f _ _ hc12) cw_C_331 rfl kc_0 rfl (Nat.le_of_ble_eq_true rfl) rfl (Nat.le_of_ble_eq_true rfl) d_C_as_25 ?_
      refine q_istore_n hX d_C_as_28 (by decide) rfl rfl ?_
      refine q_iload_n hX d_C_as_29 rfl ?_
      refine q_if_eq hX d_C_as_30 rfl h (fun _ h => ?_) (fun _ h => ?_)
      · exact q_mask [true, true, false, false] rfl (t_C_as_b48 hX hT h)
      · refine q_iload_n hX d_C_as_33 rfl ?_
        refine q_iload_n hX d_C_as_34 rfl ?_
        refine q_icmp_eq hX d_C_as_35 rfl h (fun _ h => ?_) (fun _ h => ?_)
        · exact q_mask [true, true, false, false] rfl (t_C_as_b48 hX hT h)
        · refine q_iload_n hX d_C_as_38 rfl ?_
          refine q_iconst hX d_C_as_39 ic_1 ?_
          refine q_icmp_ne hX d_C_as_40 rfl h (fun _ h => ?_) (fun _ h => ?_)
          · exact q_mask [true, false, false, false] rfl (t_C_as_b62 hX hT h)
          · refine q_iload_n hX d_C_as_43 rfl ?_
            refine q_iconst hX d_C_as_44 ic_2 ?_
            refine q_icmp_ne hX d_C_as_45 rfl h (fun _ h => ?_) (fun _ h => ?_)
            · exact q_mask [true, false, false, false] rfl (t_C_as_b62 hX hT h)
            · exact q_mask [true, true, false, false] rfl (t_C_as_b48 hX hT h)
    · refine q_ldc hX w_383 d_C_as_20 ?_
      exact q_iretW hX h hT d_C_as_22
set_option maxHeartbeats 4000000 in
theorem c_C_leaveInTrace (l : Launch) (G : qG) (hA : qAd G) (f : Nat) (σ : qMem) (x1 : Int32) {u : qMem} (h : p_C_leaveInTrace f σ x1 = some u) : qCt l y_C_leaveInTrace prog_1_method_58_code 2 none 1 G qKS qRF σ [(.ref 0), (.int x1)] none qKS qRF u 0 0 := by
  refine qCt.of (lv := [some (.ref 0), some (.int x1)]) (by decide) hA (Nat.le_of_ble_eq_true rfl) rfl ?_
  intro X hl _ _ _ hX hT
  subst hl
  unfold p_C_leaveInTrace at h
  refine q_aload_n hX d_C_leaveInTrace_0 rfl ?_
  refine q_getI hX fl_C_102 kc_0 d_C_leaveInTrace_1 ?_
  refine q_aload_n hX d_C_leaveInTrace_4 rfl ?_
  refine q_getR hX fl_C_99 kc_0 (rfl : qRF 0 13 = some 103) d_C_leaveInTrace_5 ?_
  refine q_alen hX kc_103 (by decide) (rfl : Int32.ofNat 16 = (16 : Int32)) d_C_leaveInTrace_8 ?_
  refine q_icmp_ge hX d_C_leaveInTrace_9 rfl h (fun _ h => ?_) (fun _ h => ?_)
  · exact q_vretW hX h hT d_C_leaveInTrace_32
  · refine q_aload_n hX d_C_leaveInTrace_12 rfl ?_
    refine q_getR hX fl_C_99 kc_0 (rfl : qRF 0 13 = some 103) d_C_leaveInTrace_13 ?_
    refine q_aload_n hX d_C_leaveInTrace_16 rfl ?_
    refine q_getI hX fl_C_102 kc_0 d_C_leaveInTrace_17 ?_
    refine q_iload_n hX d_C_leaveInTrace_20 rfl ?_
    refine q_iast hX kc_103 qKS_len d_C_leaveInTrace_21 h (fun hi1 h => ?_)
    refine q_aload_n hX d_C_leaveInTrace_22 rfl ?_
    refine q_dup hX rfl d_C_leaveInTrace_23 ?_
    refine q_getI hX fl_C_102 kc_0 d_C_leaveInTrace_24 ?_
    refine q_iconst hX d_C_leaveInTrace_27 ic_1 ?_
    refine q_iadd hX d_C_leaveInTrace_28 ?_
    refine q_putI hX fl_C_102 kc_0 rfl qKS_len d_C_leaveInTrace_29 ?_
    exact q_vretW hX h hT d_C_leaveInTrace_32
set_option maxHeartbeats 4000000 in
theorem c_C_sizeAs_body (l : Launch) (G : qG) (hA : qAd G) (f : Nat) {dd : Nat} (hdd : 4 ≤ dd) {rec_sizeAs : qMem → Int32 → Int32 → Int32 → Option (Int32 × qMem)} {rec_markAs : qMem → Int32 → Int32 → Int32 → Option (Int32 × qMem)} (ih_sizeAs : ∀ (σ : qMem) (x1 : Int32) (x2 : Int32) (x3 : Int32) (u : Int32 × qMem), rec_sizeAs σ x1 x2 x3 = some u → qCt l y_C_sizeAs prog_1_method_59_code 4 (some .int) dd G qKS qRF σ [(.ref 0), (.int x1), (.int x2), (.int x3)] (some (.int u.1)) qKS qRF u.2 0 0) (ih_markAs : ∀ (σ : qMem) (x1 : Int32) (x2 : Int32) (x3 : Int32) (u : Int32 × qMem), rec_markAs σ x1 x2 x3 = some u → qCt l y_C_markAs prog_1_method_60_code 4 (some .int) dd G qKS qRF σ [(.ref 0), (.int x1), (.int x2), (.int x3)] (some (.int u.1)) qKS qRF u.2 0 0) (σ : qMem) (x1 : Int32) (x2 : Int32) (x3 : Int32) {u : Int32 × qMem} (h : p_C_sizeAs_body f rec_sizeAs rec_markAs σ x1 x2 x3 = some u) : qCt l y_C_sizeAs prog_1_method_59_code 4 (some .int) (dd + 1) G qKS qRF σ [(.ref 0), (.int x1), (.int x2), (.int x3)] (some (.int u.1)) qKS qRF u.2 0 0 := by
  refine qCt.of (lv := [some (.ref 0), some (.int x1), some (.int x2), some (.int x3)]) (by decide) hA (Nat.le_of_ble_eq_true rfl) rfl ?_
  intro X hl _ _ _ hX hT
  subst hl
  unfold p_C_sizeAs_body at h
  refine q_iload_n hX d_C_sizeAs_0 rfl ?_
  refine q_bipush hX d_C_sizeAs_1 bp_16 ?_
  refine q_icmp_le hX d_C_sizeAs_3 rfl h (fun _ h => ?_) (fun _ h => ?_)
  · refine q_iload_n hX d_C_sizeAs_8 rfl ?_
    by_cases hs9_1 : x1 = (1 : Int32)
    · have h := q_dec0 h hs9_1
      refine q_tabIn hX hs9_1 d_C_sizeAs_9 (by decide) (by decide) rfl rfl ?_
      refine q_aload_n hX d_C_sizeAs_103 rfl ?_
      refine q_bipush hX d_C_sizeAs_104 bp_11 ?_
      obtain ⟨u1, hc2, h⟩ := qbind h
      refine q_cVv hX (c_C_leaveInTrace X.l G hX.ad f _ _ hc2) cw_C_365 rfl kc_0 rfl (by omega) rfl (Nat.le_of_ble_eq_true rfl) d_C_sizeAs_106 ?_
      refine q_aload_n hX d_C_sizeAs_109 rfl ?_
      refine q_iconst hX d_C_sizeAs_110 ic_0 ?_
      refine q_iload_n hX d_C_sizeAs_111 rfl ?_
      refine q_iload_n hX d_C_sizeAs_112 rfl ?_
      refine q_iconst hX d_C_sizeAs_113 ic_1 ?_
      refine q_iadd hX d_C_sizeAs_114 ?_
      obtain ⟨u3, hc4, h⟩ := qbind h
      refine q_cVr hX (ih_sizeAs _ _ _ _ _ hc4) cw_C_334 rfl kc_0 rfl (Nat.le_refl _) rfl (Nat.le_of_ble_eq_true rfl) d_C_sizeAs_115 ?_
      refine q_aload_n hX d_C_sizeAs_118 rfl ?_
      refine q_iload_n hX d_C_sizeAs_119 rfl ?_
      refine q_aload_n hX d_C_sizeAs_120 rfl ?_
      refine q_getI hX fl_C_106 kc_0 d_C_sizeAs_121 ?_
      obtain ⟨u5, hc6, h⟩ := qbind h
      refine q_cVr hX (c_C_owedTill X.l G hX.ad f _ _ _ hc6) cw_C_196 rfl kc_0 rfl (by omega) rfl (Nat.le_of_ble_eq_true rfl) d_C_sizeAs_124 ?_
      refine q_iadd hX d_C_sizeAs_127 ?_
      exact q_iretW hX h hT d_C_sizeAs_128
    have h := q_dec1 h hs9_1
    by_cases hs9_2 : x1 = (2 : Int32)
    · have h := q_dec0 h hs9_2
      refine q_tabIn hX hs9_2 d_C_sizeAs_9 (by decide) (by decide) rfl rfl ?_
      refine q_aload_n hX d_C_sizeAs_85 rfl ?_
      refine q_bipush hX d_C_sizeAs_86 bp_12 ?_
      obtain ⟨u7, hc8, h⟩ := qbind h
      refine q_cVv hX (c_C_leaveInTrace X.l G hX.ad f _ _ hc8) cw_C_365 rfl kc_0 rfl (by omega) rfl (Nat.le_of_ble_eq_true rfl) d_C_sizeAs_88 ?_
      refine q_iconst hX d_C_sizeAs_91 ic_2 ?_
      refine q_aload_n hX d_C_sizeAs_92 rfl ?_
      refine q_iconst hX d_C_sizeAs_93 ic_1 ?_
      refine q_iload_n hX d_C_sizeAs_94 rfl ?_
      refine q_iload_n hX d_C_sizeAs_95 rfl ?_
      refine q_iconst hX d_C_sizeAs_96 ic_1 ?_
      refine q_iadd hX d_C_sizeAs_97 ?_
      obtain ⟨u9, hc10, h⟩ := qbind h
      refine q_cVr hX (ih_sizeAs _ _ _ _ _ hc10) cw_C_334 rfl kc_0 rfl (Nat.le_refl _) rfl (Nat.le_of_ble_eq_true rfl) d_C_sizeAs_98 ?_
      refine q_imul hX d_C_sizeAs_101 ?_
      exact q_iretW hX h hT d_C_sizeAs_102
    have h := q_dec1 h hs9_2
    by_cases hs9_3 : x1 = (3 : Int32)
    · have h := q_dec0 h hs9_3
      refine q_tabIn hX hs9_3 d_C_sizeAs_9 (by decide) (by decide) rfl rfl ?_
      refine q_aload_n hX d_C_sizeAs_58 rfl ?_
      refine q_bipush hX d_C_sizeAs_59 bp_13 ?_
      obtain ⟨u11, hc12, h⟩ := qbind h
      refine q_cVv hX (c_C_leaveInTrace X.l G hX.ad f _ _ hc12) cw_C_365 rfl kc_0 rfl (by omega) rfl (Nat.le_of_ble_eq_true rfl) d_C_sizeAs_61 ?_
      refine q_aload_n hX d_C_sizeAs_64 rfl ?_
      refine q_iconst hX d_C_sizeAs_65 ic_0 ?_
      refine q_iload_n hX d_C_sizeAs_66 rfl ?_
      refine q_iload_n hX d_C_sizeAs_67 rfl ?_
      refine q_iconst hX d_C_sizeAs_68 ic_1 ?_
      refine q_iadd hX d_C_sizeAs_69 ?_
      obtain ⟨u13, hc14, h⟩ := qbind h
      refine q_cVr hX (ih_sizeAs _ _ _ _ _ hc14) cw_C_334 rfl kc_0 rfl (Nat.le_refl _) rfl (Nat.le_of_ble_eq_true rfl) d_C_sizeAs_70 ?_
      refine q_aload_n hX d_C_sizeAs_73 rfl ?_
      refine q_getR hX fl_C_19 kc_0 (rfl : qRF 0 1 = some 13) d_C_sizeAs_74 ?_
      refine q_iload_n hX d_C_sizeAs_77 rfl ?_
      refine q_bipush hX d_C_sizeAs_78 bp_9 ?_
      obtain ⟨u15, hc16, h⟩ := qbind h
      refine q_cVr hX (c_Promises_of X.l G hX.ad f _ _ _ hc16) cw_C_174 rfl kc_13 rfl (by omega) rfl (Nat.le_of_ble_eq_true rfl) d_C_sizeAs_80 ?_
      refine q_iadd hX d_C_sizeAs_83 ?_
      exact q_iretW hX h hT d_C_sizeAs_84
    have h := q_dec1 h hs9_3
    by_cases hs9_4 : x1 = (4 : Int32)
    · have h := q_dec0 h hs9_4
      refine q_tabIn hX hs9_4 d_C_sizeAs_9 (by decide) (by decide) rfl rfl ?_
      refine q_aload_n hX d_C_sizeAs_40 rfl ?_
      refine q_bipush hX d_C_sizeAs_41 bp_14 ?_
      obtain ⟨u17, hc18, h⟩ := qbind h
      refine q_cVv hX (c_C_leaveInTrace X.l G hX.ad f _ _ hc18) cw_C_365 rfl kc_0 rfl (by omega) rfl (Nat.le_of_ble_eq_true rfl) d_C_sizeAs_43 ?_
      refine q_iconst hX d_C_sizeAs_46 ic_0 ?_
      refine q_aload_n hX d_C_sizeAs_47 rfl ?_
      refine q_iload_n hX d_C_sizeAs_48 rfl ?_
      refine q_iload_n hX d_C_sizeAs_49 rfl ?_
      refine q_iload_n hX d_C_sizeAs_50 rfl ?_
      refine q_iconst hX d_C_sizeAs_51 ic_1 ?_
      refine q_iadd hX d_C_sizeAs_52 ?_
      obtain ⟨u19, hc20, h⟩ := qbind h
      refine q_cVr hX (ih_markAs _ _ _ _ _ hc20) cw_C_337 rfl kc_0 rfl (Nat.le_refl _) rfl (Nat.le_of_ble_eq_true rfl) d_C_sizeAs_53 ?_
      refine q_isub hX d_C_sizeAs_56 ?_
      exact q_iretW hX h hT d_C_sizeAs_57
    have h := q_dec1 h hs9_4
    have hout : (x1).toInt < 1 ∨ 4 < (x1).toInt := by
      have e1 : (x1).toInt ≠ 1 := q_ne32 hs9_1
      have e2 : (x1).toInt ≠ 2 := q_ne32 hs9_2
      have e3 : (x1).toInt ≠ 3 := q_ne32 hs9_3
      have e4 : (x1).toInt ≠ 4 := q_ne32 hs9_4
      omega
    refine q_tabOut hX hout d_C_sizeAs_9 rfl ?_
    refine q_aload_n hX d_C_sizeAs_129 rfl ?_
    refine q_bipush hX d_C_sizeAs_130 bp_10 ?_
    obtain ⟨u21, hc22, h⟩ := qbind h
    refine q_cVv hX (c_C_leaveInTrace X.l G hX.ad f _ _ hc22) cw_C_365 rfl kc_0 rfl (by omega) rfl (Nat.le_of_ble_eq_true rfl) d_C_sizeAs_132 ?_
    refine q_aload_n hX d_C_sizeAs_135 rfl ?_
    refine q_getR hX fl_C_19 kc_0 (rfl : qRF 0 1 = some 13) d_C_sizeAs_136 ?_
    refine q_iload_n hX d_C_sizeAs_139 rfl ?_
    refine q_iconst hX d_C_sizeAs_140 ic_4 ?_
    obtain ⟨u23, hc24, h⟩ := qbind h
    refine q_cVr hX (c_Promises_of X.l G hX.ad f _ _ _ hc24) cw_C_174 rfl kc_13 rfl (by omega) rfl (Nat.le_of_ble_eq_true rfl) d_C_sizeAs_141 ?_
    exact q_iretW hX h hT d_C_sizeAs_144
  · refine q_iconst hX d_C_sizeAs_6 ic_0 ?_
    exact q_iretW hX h hT d_C_sizeAs_7
set_option maxHeartbeats 4000000 in
theorem c_C_markAs_body (l : Launch) (G : qG) (hA : qAd G) (f : Nat) {dd : Nat} (hdd : 4 ≤ dd) {rec_sizeAs : qMem → Int32 → Int32 → Int32 → Option (Int32 × qMem)} {rec_markAs : qMem → Int32 → Int32 → Int32 → Option (Int32 × qMem)} (ih_sizeAs : ∀ (σ : qMem) (x1 : Int32) (x2 : Int32) (x3 : Int32) (u : Int32 × qMem), rec_sizeAs σ x1 x2 x3 = some u → qCt l y_C_sizeAs prog_1_method_59_code 4 (some .int) dd G qKS qRF σ [(.ref 0), (.int x1), (.int x2), (.int x3)] (some (.int u.1)) qKS qRF u.2 0 0) (ih_markAs : ∀ (σ : qMem) (x1 : Int32) (x2 : Int32) (x3 : Int32) (u : Int32 × qMem), rec_markAs σ x1 x2 x3 = some u → qCt l y_C_markAs prog_1_method_60_code 4 (some .int) dd G qKS qRF σ [(.ref 0), (.int x1), (.int x2), (.int x3)] (some (.int u.1)) qKS qRF u.2 0 0) (σ : qMem) (x1 : Int32) (x2 : Int32) (x3 : Int32) {u : Int32 × qMem} (h : p_C_markAs_body f rec_sizeAs rec_markAs σ x1 x2 x3 = some u) : qCt l y_C_markAs prog_1_method_60_code 4 (some .int) (dd + 1) G qKS qRF σ [(.ref 0), (.int x1), (.int x2), (.int x3)] (some (.int u.1)) qKS qRF u.2 0 0 := by
  refine qCt.of (lv := [some (.ref 0), some (.int x1), some (.int x2), some (.int x3)]) (by decide) hA (Nat.le_of_ble_eq_true rfl) rfl ?_
  intro X hl _ _ _ hX hT
  subst hl
  unfold p_C_markAs_body at h
  refine q_iload_n hX d_C_markAs_0 rfl ?_
  refine q_bipush hX d_C_markAs_1 bp_16 ?_
  refine q_icmp_le hX d_C_markAs_3 rfl h (fun _ h => ?_) (fun _ h => ?_)
  · refine q_iload_n hX d_C_markAs_8 rfl ?_
    by_cases hs9_1 : x1 = (1 : Int32)
    · have h := q_dec0 h hs9_1
      refine q_tabIn hX hs9_1 d_C_markAs_9 (by decide) (by decide) rfl rfl ?_
      refine q_aload_n hX d_C_markAs_91 rfl ?_
      refine q_bipush hX d_C_markAs_92 bp_21 ?_
      obtain ⟨u1, hc2, h⟩ := qbind h
      refine q_cVv hX (c_C_leaveInTrace X.l G hX.ad f _ _ hc2) cw_C_365 rfl kc_0 rfl (by omega) rfl (Nat.le_of_ble_eq_true rfl) d_C_markAs_94 ?_
      refine q_aload_n hX d_C_markAs_97 rfl ?_
      refine q_iconst hX d_C_markAs_98 ic_0 ?_
      refine q_iload_n hX d_C_markAs_99 rfl ?_
      refine q_iload_n hX d_C_markAs_100 rfl ?_
      refine q_iconst hX d_C_markAs_101 ic_1 ?_
      refine q_iadd hX d_C_markAs_102 ?_
      obtain ⟨u3, hc4, h⟩ := qbind h
      refine q_cVr hX (ih_markAs _ _ _ _ _ hc4) cw_C_337 rfl kc_0 rfl (Nat.le_refl _) rfl (Nat.le_of_ble_eq_true rfl) d_C_markAs_103 ?_
      refine q_bipush hX d_C_markAs_106 bp_100 ?_
      refine q_aload_n hX d_C_markAs_108 rfl ?_
      refine q_getR hX fl_C_19 kc_0 (rfl : qRF 0 1 = some 13) d_C_markAs_109 ?_
      refine q_iload_n hX d_C_markAs_112 rfl ?_
      refine q_iconst hX d_C_markAs_113 ic_2 ?_
      obtain ⟨u5, hc6, h⟩ := qbind h
      refine q_cVr hX (c_Promises_of X.l G hX.ad f _ _ _ hc6) cw_C_174 rfl kc_13 rfl (by omega) rfl (Nat.le_of_ble_eq_true rfl) d_C_markAs_114 ?_
      refine q_imul hX d_C_markAs_117 ?_
      refine q_iadd hX d_C_markAs_118 ?_
      exact q_iretW hX h hT d_C_markAs_119
    have h := q_dec1 h hs9_1
    by_cases hs9_2 : x1 = (2 : Int32)
    · have h := q_dec0 h hs9_2
      refine q_tabIn hX hs9_2 d_C_markAs_9 (by decide) (by decide) rfl rfl ?_
      refine q_aload_n hX d_C_markAs_62 rfl ?_
      refine q_bipush hX d_C_markAs_63 bp_22 ?_
      obtain ⟨u7, hc8, h⟩ := qbind h
      refine q_cVv hX (c_C_leaveInTrace X.l G hX.ad f _ _ hc8) cw_C_365 rfl kc_0 rfl (by omega) rfl (Nat.le_of_ble_eq_true rfl) d_C_markAs_65 ?_
      refine q_aload_n hX d_C_markAs_68 rfl ?_
      refine q_iconst hX d_C_markAs_69 ic_1 ?_
      refine q_iload_n hX d_C_markAs_70 rfl ?_
      refine q_iload_n hX d_C_markAs_71 rfl ?_
      refine q_iconst hX d_C_markAs_72 ic_1 ?_
      refine q_iadd hX d_C_markAs_73 ?_
      obtain ⟨u9, hc10, h⟩ := qbind h
      refine q_cVr hX (ih_markAs _ _ _ _ _ hc10) cw_C_337 rfl kc_0 rfl (Nat.le_refl _) rfl (Nat.le_of_ble_eq_true rfl) d_C_markAs_74 ?_
      refine q_aload_n hX d_C_markAs_77 rfl ?_
      refine q_getR hX fl_C_69 kc_0 (rfl : qRF 0 8 = some 48) d_C_markAs_78 ?_
      refine q_iload_n hX d_C_markAs_81 rfl ?_
      refine q_aload_n hX d_C_markAs_82 rfl ?_
      refine q_getI hX fl_C_106 kc_0 d_C_markAs_83 ?_
      obtain ⟨u11, hc12, h⟩ := qbind h
      refine q_cVr hX (c_Joins_otherOf X.l G hX.ad f _ _ _ hc12) cw_C_359 rfl kc_48 rfl (by omega) rfl (Nat.le_of_ble_eq_true rfl) d_C_markAs_86 ?_
      refine q_iadd hX d_C_markAs_89 ?_
      exact q_iretW hX h hT d_C_markAs_90
    have h := q_dec1 h hs9_2
    by_cases hs9_3 : x1 = (3 : Int32)
    · have h := q_dec0 h hs9_3
      refine q_tabIn hX hs9_3 d_C_markAs_9 (by decide) (by decide) rfl rfl ?_
      refine q_aload_n hX d_C_markAs_36 rfl ?_
      refine q_bipush hX d_C_markAs_37 bp_23 ?_
      obtain ⟨u13, hc14, h⟩ := qbind h
      refine q_cVv hX (c_C_leaveInTrace X.l G hX.ad f _ _ hc14) cw_C_365 rfl kc_0 rfl (by omega) rfl (Nat.le_of_ble_eq_true rfl) d_C_markAs_39 ?_
      refine q_aload_n hX d_C_markAs_42 rfl ?_
      refine q_iconst hX d_C_markAs_43 ic_0 ?_
      refine q_iload_n hX d_C_markAs_44 rfl ?_
      refine q_iload_n hX d_C_markAs_45 rfl ?_
      refine q_iconst hX d_C_markAs_46 ic_1 ?_
      refine q_iadd hX d_C_markAs_47 ?_
      obtain ⟨u15, hc16, h⟩ := qbind h
      refine q_cVr hX (ih_markAs _ _ _ _ _ hc16) cw_C_337 rfl kc_0 rfl (Nat.le_refl _) rfl (Nat.le_of_ble_eq_true rfl) d_C_markAs_48 ?_
      refine q_aload_n hX d_C_markAs_51 rfl ?_
      refine q_iload_n hX d_C_markAs_52 rfl ?_
      refine q_iload_n hX d_C_markAs_53 rfl ?_
      refine q_iload_n hX d_C_markAs_54 rfl ?_
      refine q_iconst hX d_C_markAs_55 ic_1 ?_
      refine q_iadd hX d_C_markAs_56 ?_
      obtain ⟨u17, hc18, h⟩ := qbind h
      refine q_cVr hX (ih_sizeAs _ _ _ _ _ hc18) cw_C_334 rfl kc_0 rfl (Nat.le_refl _) rfl (Nat.le_of_ble_eq_true rfl) d_C_markAs_57 ?_
      refine q_iadd hX d_C_markAs_60 ?_
      exact q_iretW hX h hT d_C_markAs_61
    have h := q_dec1 h hs9_3
    have hout : (x1).toInt < 1 ∨ 3 < (x1).toInt := by
      have e1 : (x1).toInt ≠ 1 := q_ne32 hs9_1
      have e2 : (x1).toInt ≠ 2 := q_ne32 hs9_2
      have e3 : (x1).toInt ≠ 3 := q_ne32 hs9_3
      omega
    refine q_tabOut hX hout d_C_markAs_9 rfl ?_
    refine q_aload_n hX d_C_markAs_120 rfl ?_
    refine q_bipush hX d_C_markAs_121 bp_20 ?_
    obtain ⟨u19, hc20, h⟩ := qbind h
    refine q_cVv hX (c_C_leaveInTrace X.l G hX.ad f _ _ hc20) cw_C_365 rfl kc_0 rfl (by omega) rfl (Nat.le_of_ble_eq_true rfl) d_C_markAs_123 ?_
    refine q_aload_n hX d_C_markAs_126 rfl ?_
    refine q_getR hX fl_C_19 kc_0 (rfl : qRF 0 1 = some 13) d_C_markAs_127 ?_
    refine q_iload_n hX d_C_markAs_130 rfl ?_
    refine q_iconst hX d_C_markAs_131 ic_1 ?_
    obtain ⟨u21, hc22, h⟩ := qbind h
    refine q_cVr hX (c_Promises_of X.l G hX.ad f _ _ _ hc22) cw_C_174 rfl kc_13 rfl (by omega) rfl (Nat.le_of_ble_eq_true rfl) d_C_markAs_132 ?_
    exact q_iretW hX h hT d_C_markAs_135
  · refine q_iconst hX d_C_markAs_6 ic_0 ?_
    exact q_iretW hX h hT d_C_markAs_7
theorem c_C_grp (l : Launch) (G : qG) (hA : qAd G) (f : Nat) : ∀ (n : Nat), (∀ (σ : qMem) (x1 : Int32) (x2 : Int32) (x3 : Int32) (u : Int32 × qMem), (p_C_grp f n).1 σ x1 x2 x3 = some u → qCt l y_C_sizeAs prog_1_method_59_code 4 (some .int) (4 + n) G qKS qRF σ [(.ref 0), (.int x1), (.int x2), (.int x3)] (some (.int u.1)) qKS qRF u.2 0 0) ∧ (∀ (σ : qMem) (x1 : Int32) (x2 : Int32) (x3 : Int32) (u : Int32 × qMem), (p_C_grp f n).2 σ x1 x2 x3 = some u → qCt l y_C_markAs prog_1_method_60_code 4 (some .int) (4 + n) G qKS qRF σ [(.ref 0), (.int x1), (.int x2), (.int x3)] (some (.int u.1)) qKS qRF u.2 0 0)
  | 0 => ⟨(fun _ _ _ _ _ h => by cases h), (fun _ _ _ _ _ h => by cases h)⟩
  | n + 1 => ⟨(fun σ x1 x2 x3 _ h => c_C_sizeAs_body l G hA f (Nat.le_add_right 4 n) (c_C_grp l G hA f n).1 (c_C_grp l G hA f n).2 σ x1 x2 x3 h), (fun σ x1 x2 x3 _ h => c_C_markAs_body l G hA f (Nat.le_add_right 4 n) (c_C_grp l G hA f n).1 (c_C_grp l G hA f n).2 σ x1 x2 x3 h)⟩
theorem c_C_sizeAs (l : Launch) (G : qG) (hA : qAd G) (f n : Nat) (σ : qMem) (x1 : Int32) (x2 : Int32) (x3 : Int32) {u : Int32 × qMem} (h : p_C_sizeAs f n σ x1 x2 x3 = some u) : qCt l y_C_sizeAs prog_1_method_59_code 4 (some .int) (4 + n) G qKS qRF σ [(.ref 0), (.int x1), (.int x2), (.int x3)] (some (.int u.1)) qKS qRF u.2 0 0 := (c_C_grp l G hA f n).1 σ x1 x2 x3 _ h
theorem c_C_markAs (l : Launch) (G : qG) (hA : qAd G) (f n : Nat) (σ : qMem) (x1 : Int32) (x2 : Int32) (x3 : Int32) {u : Int32 × qMem} (h : p_C_markAs f n σ x1 x2 x3 = some u) : qCt l y_C_markAs prog_1_method_60_code 4 (some .int) (4 + n) G qKS qRF σ [(.ref 0), (.int x1), (.int x2), (.int x3)] (some (.int u.1)) qKS qRF u.2 0 0 := (c_C_grp l G hA f n).2 σ x1 x2 x3 _ h
set_option maxHeartbeats 4000000 in
theorem c_C_ask (l : Launch) (G : qG) (hA : qAd G) (f : Nat) (σ : qMem) (x1 : Int32) (x2 : Int32) {u : Int32 × qMem} (h : p_C_ask f σ x1 x2 = some u) : qCt l y_C_ask prog_1_method_38_code 4 (some .int) 13 G qKS qRF σ [(.ref 0), (.int x1), (.int x2)] (some (.int u.1)) qKS qRF u.2 0 0 := by
  refine qCt.of (lv := [some (.ref 0), some (.int x1), some (.int x2), none]) (by decide) hA (Nat.le_of_ble_eq_true rfl) rfl ?_
  intro X hl _ _ _ hX hT
  subst hl
  unfold p_C_ask at h
  refine q_aload_n hX d_C_ask_0 rfl ?_
  refine q_getR hX fl_C_19 kc_0 (rfl : qRF 0 1 = some 13) d_C_ask_1 ?_
  refine q_iload_n hX d_C_ask_4 rfl ?_
  obtain ⟨u1, hc2, h⟩ := qbind h
  refine q_cVr hX (c_Promises_has X.l G hX.ad f _ _ hc2) cw_C_171 rfl kc_13 rfl (Nat.le_of_ble_eq_true rfl) rfl (Nat.le_of_ble_eq_true rfl) d_C_ask_5 ?_
  refine q_if_eq hX d_C_ask_8 rfl h (fun _ h => ?_) (fun _ h => ?_)
  · refine q_ldc hX w_383 d_C_ask_20 ?_
    exact q_iretW hX h hT d_C_ask_22
  · refine q_iload_n hX d_C_ask_11 rfl ?_
    refine q_iconst hX d_C_ask_12 ic_0 ?_
    refine q_iconst hX d_C_ask_13 ic_1 ?_
    obtain ⟨u3, hc4, h⟩ := qbind h
    refine q_cSr hX (c_C_outside X.l G hX.ad f _ _ _ _ hc4) cw_C_122 rfl (Nat.le_of_ble_eq_true rfl) rfl (Nat.le_of_ble_eq_true rfl) d_C_ask_14 ?_
    refine q_if_eq hX d_C_ask_17 rfl h (fun _ h => ?_) (fun _ h => ?_)
    · refine q_aload_n hX d_C_ask_23 rfl ?_
      refine q_iconst hX d_C_ask_24 ic_0 ?_
      refine q_putI hX fl_C_102 kc_0 rfl qKS_len d_C_ask_25 ?_
      refine q_aload_n hX d_C_ask_28 rfl ?_
      refine q_iload_n hX d_C_ask_29 rfl ?_
      obtain ⟨u5, hc6, h⟩ := qbind h
      refine q_cVr hX (c_C_kindToday X.l G hX.ad f _ _ hc6) cw_C_331 rfl kc_0 rfl (Nat.le_of_ble_eq_true rfl) rfl (Nat.le_of_ble_eq_true rfl) d_C_ask_30 ?_
      refine q_istore_n hX d_C_ask_33 (by decide) rfl rfl ?_
      refine q_iload_n hX d_C_ask_34 rfl ?_
      refine q_if_ne hX d_C_ask_35 rfl h (fun _ h => ?_) (fun _ h => ?_)
      · refine q_aload_n hX d_C_ask_48 rfl ?_
        refine q_iload_n hX d_C_ask_49 rfl ?_
        refine q_iload_n hX d_C_ask_50 rfl ?_
        refine q_iconst hX d_C_ask_51 ic_0 ?_
        obtain ⟨u7, hc8, h⟩ := qbind h
        refine q_cVr hX (c_C_markAs X.l G hX.ad f 8 _ _ _ _ hc8) cw_C_337 rfl kc_0 rfl (Nat.le_of_ble_eq_true rfl) rfl (Nat.le_of_ble_eq_true rfl) d_C_ask_52 ?_
        exact q_iretW hX h hT d_C_ask_55
      · refine q_aload_n hX d_C_ask_38 rfl ?_
        refine q_iload_n hX d_C_ask_39 rfl ?_
        refine q_iload_n hX d_C_ask_40 rfl ?_
        refine q_iconst hX d_C_ask_41 ic_0 ?_
        obtain ⟨u9, hc10, h⟩ := qbind h
        refine q_cVr hX (c_C_sizeAs X.l G hX.ad f 8 _ _ _ _ hc10) cw_C_334 rfl kc_0 rfl (Nat.le_of_ble_eq_true rfl) rfl (Nat.le_of_ble_eq_true rfl) d_C_ask_42 ?_
        refine q_goto hX d_C_ask_45 rfl ?_
        exact q_iretW hX h hT d_C_ask_55
    · refine q_ldc hX w_383 d_C_ask_20 ?_
      exact q_iretW hX h hT d_C_ask_22
set_option maxHeartbeats 4000000 in
theorem c_C_trace (l : Launch) (G : qG) (hA : qAd G) (f : Nat) (σ : qMem) (x1 : Int32) {u : Int32} (h : p_C_trace f σ x1 = some u) : qCt l y_C_trace prog_1_method_39_code 2 (some .int) 2 G qKS qRF σ [(.ref 0), (.int x1)] (some (.int u)) qKS qRF σ 0 0 := by
  refine qCt.of (lv := [some (.ref 0), some (.int x1)]) (by decide) hA (Nat.le_of_ble_eq_true rfl) rfl ?_
  intro X hl _ _ _ hX hT
  subst hl
  unfold p_C_trace at h
  refine q_iload_n hX d_C_trace_0 rfl ?_
  refine q_iconst hX d_C_trace_1 ic_0 ?_
  refine q_aload_n hX d_C_trace_2 rfl ?_
  refine q_getI hX fl_C_102 kc_0 d_C_trace_3 ?_
  refine q_iconst hX d_C_trace_6 ic_1 ?_
  refine q_isub hX d_C_trace_7 ?_
  obtain ⟨u1, hc2, h⟩ := qbind h
  refine q_cSr hX (c_C_outside X.l G hX.ad f _ _ _ _ hc2) cw_C_122 rfl (Nat.le_of_ble_eq_true rfl) rfl (Nat.le_of_ble_eq_true rfl) d_C_trace_8 ?_
  refine q_if_eq hX d_C_trace_11 rfl h (fun _ h => ?_) (fun _ h => ?_)
  · refine q_aload_n hX d_C_trace_20 rfl ?_
    refine q_getR hX fl_C_99 kc_0 (rfl : qRF 0 13 = some 103) d_C_trace_21 ?_
    refine q_iload_n hX d_C_trace_24 rfl ?_
    refine q_iald hX kc_103 d_C_trace_25 h (fun hi3 h => ?_)
    exact q_iretR hX h hT d_C_trace_26
  · refine q_ldcw hX w_860 d_C_trace_14 ?_
    refine q_goto hX d_C_trace_17 rfl ?_
    exact q_iretR hX h hT d_C_trace_26
set_option maxHeartbeats 4000000 in
theorem t_Sheets_howMany_lb4 {G : qG} {X : qX} (hX : qOk G X "ChantryRolls$Sheets" prog_11_method_12_code 3 (some .int) 2) {u : Int32} {f : Nat} {σ : qMem} (hT : qTg G X 0 0 qKS qRF σ (some (.int u))) {k4 : Int32 → Int32 → Option (Int32)} (hk4 : ∀ (x1 : Int32) (x2 : Int32), k4 x1 x2 = some u → qV G X 0 0 qKS qRF σ 4 [some (.ref 1), some (.int x1), some (.int x2)] []) {x1 : Int32} {x2 : Int32} (h : p_Sheets_howMany_l4 f  σ  k4 x1 x2 = some u) : qV G X 0 0 qKS qRF σ 4 [some (.ref 1), some (.int x1), some (.int x2)] [] := by
  unfold p_Sheets_howMany_l4 at h
  refine q_iload_n hX d_Sheets_howMany_4 rfl ?_
  refine q_bipush hX d_Sheets_howMany_5 bp_8 ?_
  refine q_icmp_ge hX d_Sheets_howMany_7 rfl h (fun _ h => ?_) (fun _ h => ?_)
  · refine q_iload_n hX d_Sheets_howMany_27 rfl ?_
    exact q_iretR hX h hT d_Sheets_howMany_28
  · refine q_aload_n hX d_Sheets_howMany_10 rfl ?_
    refine q_iload_n hX d_Sheets_howMany_11 rfl ?_
    obtain ⟨u1, hc2, h⟩ := qbind h
    refine q_cVr hX (c_Sheets_missing X.l G hX.ad f _ _ hc2) cw_Sheets_43 rfl kc_1 rfl (Nat.le_of_ble_eq_true rfl) rfl (Nat.le_of_ble_eq_true rfl) d_Sheets_howMany_12 ?_
    refine q_if_ne hX d_Sheets_howMany_15 rfl h (fun _ h => ?_) (fun _ h => ?_)
    · refine q_iinc hX d_Sheets_howMany_21 rfl (ii_1 _) (by decide) rfl rfl ?_
      refine q_goto hX d_Sheets_howMany_24 rfl ?_
      exact q_mask [true, true, true] rfl (hk4 _ _ h)
    · refine q_iinc hX d_Sheets_howMany_18 rfl (ii_1 _) (by decide) rfl rfl ?_
      refine q_iinc hX d_Sheets_howMany_21 rfl (ii_1 _) (by decide) rfl rfl ?_
      refine q_goto hX d_Sheets_howMany_24 rfl ?_
      exact q_mask [true, true, true] rfl (hk4 _ _ h)
theorem t_Sheets_howMany_l4 {G : qG} {X : qX} (hX : qOk G X "ChantryRolls$Sheets" prog_11_method_12_code 3 (some .int) 2) {u : Int32} {f : Nat} {σ : qMem} (hT : qTg G X 0 0 qKS qRF σ (some (.int u))) : ∀ (n : Nat) (x1 : Int32) (x2 : Int32), qfix2 (p_Sheets_howMany_l4 f  σ ) n x1 x2 = some u → qV G X 0 0 qKS qRF σ 4 [some (.ref 1), some (.int x1), some (.int x2)] [] :=
  qfix2_ind (fun k hk _ _ h => t_Sheets_howMany_lb4 hX   hT  hk h)
set_option maxHeartbeats 4000000 in
theorem c_Sheets_howMany (l : Launch) (G : qG) (hA : qAd G) (f : Nat) (σ : qMem) {u : Int32} (h : p_Sheets_howMany f σ  = some u) : qCt l y_Sheets_howMany prog_11_method_12_code 3 (some .int) 2 G qKS qRF σ [(.ref 1)] (some (.int u)) qKS qRF σ 0 0 := by
  refine qCt.of (lv := [some (.ref 1), none, none]) (by decide) hA (Nat.le_of_ble_eq_true rfl) rfl ?_
  intro X hl _ _ _ hX hT
  subst hl
  unfold p_Sheets_howMany at h
  refine q_iconst hX d_Sheets_howMany_0 ic_0 ?_
  refine q_istore_n hX d_Sheets_howMany_1 (by decide) rfl rfl ?_
  refine q_iconst hX d_Sheets_howMany_2 ic_0 ?_
  refine q_istore_n hX d_Sheets_howMany_3 (by decide) rfl rfl ?_
  exact q_mask [true, true, true] rfl (t_Sheets_howMany_l4 hX hT f _ _ h)
set_option maxHeartbeats 4000000 in
theorem c_Feasts_size (l : Launch) (G : qG) (hA : qAd G) (f : Nat) (σ : qMem) {u : Int32} (h : p_Feasts_size f σ  = some u) : qCt l y_Feasts_size prog_5_method_2_code 1 (some .int) 1 G qKS qRF σ [(.ref 29)] (some (.int u)) qKS qRF σ 0 0 := by
  refine qCt.of (lv := [some (.ref 29)]) (by decide) hA (Nat.le_of_ble_eq_true rfl) rfl ?_
  intro X hl _ _ _ hX hT
  subst hl
  unfold p_Feasts_size at h
  refine q_aload_n hX d_Feasts_size_0 rfl ?_
  refine q_getI hX fl_Feasts_20 kc_29 d_Feasts_size_1 ?_
  exact q_iretR hX h hT d_Feasts_size_4
set_option maxHeartbeats 4000000 in
theorem t_Lines_howManyGood_lb4 {G : qG} {X : qX} (hX : qOk G X "ChantryRolls$Lines" prog_8_method_10_code 3 (some .int) 1) {u : Int32} {f : Nat} {σ : qMem} (hT : qTg G X 0 0 qKS qRF σ (some (.int u))) {k4 : Int32 → Int32 → Option (Int32)} (hk4 : ∀ (x1 : Int32) (x2 : Int32), k4 x1 x2 = some u → qV G X 0 0 qKS qRF σ 4 [some (.ref 42), some (.int x1), some (.int x2)] []) {x1 : Int32} {x2 : Int32} (h : p_Lines_howManyGood_l4 f  σ  k4 x1 x2 = some u) : qV G X 0 0 qKS qRF σ 4 [some (.ref 42), some (.int x1), some (.int x2)] [] := by
  unfold p_Lines_howManyGood_l4 at h
  refine q_iload_n hX d_Lines_howManyGood_4 rfl ?_
  refine q_aload_n hX d_Lines_howManyGood_5 rfl ?_
  refine q_getI hX fl_Lines_28 kc_42 d_Lines_howManyGood_6 ?_
  refine q_icmp_ge hX d_Lines_howManyGood_9 rfl h (fun _ h => ?_) (fun _ h => ?_)
  · refine q_iload_n hX d_Lines_howManyGood_35 rfl ?_
    exact q_iretR hX h hT d_Lines_howManyGood_36
  · refine q_iload_n hX d_Lines_howManyGood_12 rfl ?_
    refine q_aload_n hX d_Lines_howManyGood_13 rfl ?_
    refine q_getR hX fl_Lines_21 kc_42 (rfl : qRF 42 7 = some 46) d_Lines_howManyGood_14 ?_
    refine q_iload_n hX d_Lines_howManyGood_17 rfl ?_
    refine q_zald hX kc_46 d_Lines_howManyGood_18 h (fun hi1 h => ?_)
    refine q_if_eq hX d_Lines_howManyGood_19 rfl h (fun _ h => ?_) (fun _ h => ?_)
    · refine q_iconst hX d_Lines_howManyGood_26 ic_0 ?_
      refine q_iadd hX d_Lines_howManyGood_27 ?_
      refine q_istore_n hX d_Lines_howManyGood_28 (by decide) rfl rfl ?_
      refine q_iinc hX d_Lines_howManyGood_29 rfl (ii_1 _) (by decide) rfl rfl ?_
      refine q_goto hX d_Lines_howManyGood_32 rfl ?_
      exact q_mask [true, true, true] rfl (hk4 _ _ h)
    · refine q_iconst hX d_Lines_howManyGood_22 ic_1 ?_
      refine q_goto hX d_Lines_howManyGood_23 rfl ?_
      refine q_iadd hX d_Lines_howManyGood_27 ?_
      refine q_istore_n hX d_Lines_howManyGood_28 (by decide) rfl rfl ?_
      refine q_iinc hX d_Lines_howManyGood_29 rfl (ii_1 _) (by decide) rfl rfl ?_
      refine q_goto hX d_Lines_howManyGood_32 rfl ?_
      exact q_mask [true, true, true] rfl (hk4 _ _ h)
theorem t_Lines_howManyGood_l4 {G : qG} {X : qX} (hX : qOk G X "ChantryRolls$Lines" prog_8_method_10_code 3 (some .int) 1) {u : Int32} {f : Nat} {σ : qMem} (hT : qTg G X 0 0 qKS qRF σ (some (.int u))) : ∀ (n : Nat) (x1 : Int32) (x2 : Int32), qfix2 (p_Lines_howManyGood_l4 f  σ ) n x1 x2 = some u → qV G X 0 0 qKS qRF σ 4 [some (.ref 42), some (.int x1), some (.int x2)] [] :=
  qfix2_ind (fun k hk _ _ h => t_Lines_howManyGood_lb4 hX   hT  hk h)
set_option maxHeartbeats 4000000 in
theorem c_Lines_howManyGood (l : Launch) (G : qG) (hA : qAd G) (f : Nat) (σ : qMem) {u : Int32} (h : p_Lines_howManyGood f σ  = some u) : qCt l y_Lines_howManyGood prog_8_method_10_code 3 (some .int) 1 G qKS qRF σ [(.ref 42)] (some (.int u)) qKS qRF σ 0 0 := by
  refine qCt.of (lv := [some (.ref 42), none, none]) (by decide) hA (Nat.le_of_ble_eq_true rfl) rfl ?_
  intro X hl _ _ _ hX hT
  subst hl
  unfold p_Lines_howManyGood at h
  refine q_iconst hX d_Lines_howManyGood_0 ic_0 ?_
  refine q_istore_n hX d_Lines_howManyGood_1 (by decide) rfl rfl ?_
  refine q_iconst hX d_Lines_howManyGood_2 ic_0 ?_
  refine q_istore_n hX d_Lines_howManyGood_3 (by decide) rfl rfl ?_
  exact q_mask [true, true, true] rfl (t_Lines_howManyGood_l4 hX hT f _ _ h)
set_option maxHeartbeats 4000000 in
theorem t_C_howManyGone_lb4 {G : qG} {X : qX} (hX : qOk G X "ChantryRolls" prog_1_method_57_code 3 (some .int) 6) {u : Int32} {f : Nat} {σ : qMem} (hT : qTg G X 0 0 qKS qRF σ (some (.int u))) {k4 : Int32 → Int32 → Option (Int32)} (hk4 : ∀ (x1 : Int32) (x2 : Int32), k4 x1 x2 = some u → qV G X 0 0 qKS qRF σ 4 [some (.ref 0), some (.int x1), some (.int x2)] []) {x1 : Int32} {x2 : Int32} (h : p_C_howManyGone_l4 f  σ  k4 x1 x2 = some u) : qV G X 0 0 qKS qRF σ 4 [some (.ref 0), some (.int x1), some (.int x2)] [] := by
  unfold p_C_howManyGone_l4 at h
  refine q_iload_n hX d_C_howManyGone_4 rfl ?_
  refine q_aload_n hX d_C_howManyGone_5 rfl ?_
  refine q_getR hX fl_C_19 kc_0 (rfl : qRF 0 1 = some 13) d_C_howManyGone_6 ?_
  obtain ⟨u1, hc2, h⟩ := qbind h
  refine q_cVr hX (c_Promises_size X.l G hX.ad f _  hc2) cw_C_274 rfl kc_13 rfl (Nat.le_of_ble_eq_true rfl) rfl (Nat.le_of_ble_eq_true rfl) d_C_howManyGone_9 ?_
  refine q_icmp_ge hX d_C_howManyGone_12 rfl h (fun _ h => ?_) (fun _ h => ?_)
  · refine q_iload_n hX d_C_howManyGone_33 rfl ?_
    exact q_iretR hX h hT d_C_howManyGone_34
  · refine q_aload_n hX d_C_howManyGone_15 rfl ?_
    refine q_iload_n hX d_C_howManyGone_16 rfl ?_
    obtain ⟨u3, hc4, h⟩ := qbind h
    refine q_cVr hX (c_C_kindToday X.l G hX.ad f _ _ hc4) cw_C_331 rfl kc_0 rfl (Nat.le_of_ble_eq_true rfl) rfl (Nat.le_of_ble_eq_true rfl) d_C_howManyGone_17 ?_
    refine q_iconst hX d_C_howManyGone_20 ic_4 ?_
    refine q_icmp_ne hX d_C_howManyGone_21 rfl h (fun _ h => ?_) (fun _ h => ?_)
    · refine q_iinc hX d_C_howManyGone_27 rfl (ii_1 _) (by decide) rfl rfl ?_
      refine q_goto hX d_C_howManyGone_30 rfl ?_
      exact q_mask [true, true, true] rfl (hk4 _ _ h)
    · refine q_iinc hX d_C_howManyGone_24 rfl (ii_1 _) (by decide) rfl rfl ?_
      refine q_iinc hX d_C_howManyGone_27 rfl (ii_1 _) (by decide) rfl rfl ?_
      refine q_goto hX d_C_howManyGone_30 rfl ?_
      exact q_mask [true, true, true] rfl (hk4 _ _ h)
theorem t_C_howManyGone_l4 {G : qG} {X : qX} (hX : qOk G X "ChantryRolls" prog_1_method_57_code 3 (some .int) 6) {u : Int32} {f : Nat} {σ : qMem} (hT : qTg G X 0 0 qKS qRF σ (some (.int u))) : ∀ (n : Nat) (x1 : Int32) (x2 : Int32), qfix2 (p_C_howManyGone_l4 f  σ ) n x1 x2 = some u → qV G X 0 0 qKS qRF σ 4 [some (.ref 0), some (.int x1), some (.int x2)] [] :=
  qfix2_ind (fun k hk _ _ h => t_C_howManyGone_lb4 hX   hT  hk h)
set_option maxHeartbeats 4000000 in
theorem c_C_howManyGone (l : Launch) (G : qG) (hA : qAd G) (f : Nat) (σ : qMem) {u : Int32} (h : p_C_howManyGone f σ  = some u) : qCt l y_C_howManyGone prog_1_method_57_code 3 (some .int) 6 G qKS qRF σ [(.ref 0)] (some (.int u)) qKS qRF σ 0 0 := by
  refine qCt.of (lv := [some (.ref 0), none, none]) (by decide) hA (Nat.le_of_ble_eq_true rfl) rfl ?_
  intro X hl _ _ _ hX hT
  subst hl
  unfold p_C_howManyGone at h
  refine q_iconst hX d_C_howManyGone_0 ic_0 ?_
  refine q_istore_n hX d_C_howManyGone_1 (by decide) rfl rfl ?_
  refine q_iconst hX d_C_howManyGone_2 ic_0 ?_
  refine q_istore_n hX d_C_howManyGone_3 (by decide) rfl rfl ?_
  exact q_mask [true, true, true] rfl (t_C_howManyGone_l4 hX hT f _ _ h)
set_option maxHeartbeats 4000000 in
theorem c_Acts_size (l : Launch) (G : qG) (hA : qAd G) (f : Nat) (σ : qMem) {u : Int32} (h : p_Acts_size f σ  = some u) : qCt l y_Acts_size prog_2_method_2_code 1 (some .int) 1 G qKS qRF σ [(.ref 37)] (some (.int u)) qKS qRF σ 0 0 := by
  refine qCt.of (lv := [some (.ref 37)]) (by decide) hA (Nat.le_of_ble_eq_true rfl) rfl ?_
  intro X hl _ _ _ hX hT
  subst hl
  unfold p_Acts_size at h
  refine q_aload_n hX d_Acts_size_0 rfl ?_
  refine q_getI hX fl_Acts_24 kc_37 d_Acts_size_1 ?_
  exact q_iretR hX h hT d_Acts_size_4
set_option maxHeartbeats 4000000 in
theorem c_Houses_howManyBids (l : Launch) (G : qG) (hA : qAd G) (f : Nat) (σ : qMem) {u : Int32} (h : p_Houses_howManyBids f σ  = some u) : qCt l y_Houses_howManyBids prog_6_method_10_code 1 (some .int) 1 G qKS qRF σ [(.ref 53)] (some (.int u)) qKS qRF σ 0 0 := by
  refine qCt.of (lv := [some (.ref 53)]) (by decide) hA (Nat.le_of_ble_eq_true rfl) rfl ?_
  intro X hl _ _ _ hX hT
  subst hl
  unfold p_Houses_howManyBids at h
  refine q_aload_n hX d_Houses_howManyBids_0 rfl ?_
  refine q_getI hX fl_Houses_47 kc_53 d_Houses_howManyBids_1 ?_
  exact q_iretR hX h hT d_Houses_howManyBids_4
set_option maxHeartbeats 4000000 in
theorem c_Deeds_size (l : Launch) (G : qG) (hA : qAd G) (f : Nat) (σ : qMem) {u : Int32} (h : p_Deeds_size f σ  = some u) : qCt l y_Deeds_size prog_4_method_2_code 1 (some .int) 1 G qKS qRF σ [(.ref 27)] (some (.int u)) qKS qRF σ 0 0 := by
  refine qCt.of (lv := [some (.ref 27)]) (by decide) hA (Nat.le_of_ble_eq_true rfl) rfl ?_
  intro X hl _ _ _ hX hT
  subst hl
  unfold p_Deeds_size at h
  refine q_aload_n hX d_Deeds_size_0 rfl ?_
  refine q_getI hX fl_Deeds_15 kc_27 d_Deeds_size_1 ?_
  exact q_iretR hX h hT d_Deeds_size_4
set_option maxHeartbeats 4000000 in
theorem c_C_all (l : Launch) (G : qG) (hA : qAd G) (f : Nat) (σ : qMem) (x1 : Int32) {u : Int32} (h : p_C_all f σ x1 = some u) : qCt l y_C_all prog_1_method_40_code 2 (some .int) 7 G qKS qRF σ [(.ref 0), (.int x1)] (some (.int u)) qKS qRF σ 0 0 := by
  refine qCt.of (lv := [some (.ref 0), some (.int x1)]) (by decide) hA (Nat.le_of_ble_eq_true rfl) rfl ?_
  intro X hl _ _ _ hX hT
  subst hl
  unfold p_C_all at h
  refine q_iload_n hX d_C_all_0 rfl ?_
  by_cases hs1_0 : x1 = (0 : Int32)
  · have h := q_dec0 h hs1_0
    refine q_tabIn hX hs1_0 d_C_all_1 (by decide) (by decide) rfl rfl ?_
    refine q_aload_n hX d_C_all_52 rfl ?_
    refine q_getR hX fl_C_10 kc_0 (rfl : qRF 0 0 = some 1) d_C_all_53 ?_
    obtain ⟨u1, hc2, h⟩ := qbind h
    refine q_cVr hX (c_Sheets_howMany X.l G hX.ad f _  hc2) cw_C_340 rfl kc_1 rfl (Nat.le_of_ble_eq_true rfl) rfl (Nat.le_of_ble_eq_true rfl) d_C_all_56 ?_
    exact q_iretR hX h hT d_C_all_59
  have h := q_dec1 h hs1_0
  by_cases hs1_1 : x1 = (1 : Int32)
  · have h := q_dec0 h hs1_1
    refine q_tabIn hX hs1_1 d_C_all_1 (by decide) (by decide) rfl rfl ?_
    refine q_aload_n hX d_C_all_60 rfl ?_
    refine q_getR hX fl_C_19 kc_0 (rfl : qRF 0 1 = some 13) d_C_all_61 ?_
    obtain ⟨u3, hc4, h⟩ := qbind h
    refine q_cVr hX (c_Promises_size X.l G hX.ad f _  hc4) cw_C_274 rfl kc_13 rfl (Nat.le_of_ble_eq_true rfl) rfl (Nat.le_of_ble_eq_true rfl) d_C_all_64 ?_
    exact q_iretR hX h hT d_C_all_67
  have h := q_dec1 h hs1_1
  by_cases hs1_2 : x1 = (2 : Int32)
  · have h := q_dec0 h hs1_2
    refine q_tabIn hX hs1_2 d_C_all_1 (by decide) (by decide) rfl rfl ?_
    refine q_aload_n hX d_C_all_68 rfl ?_
    refine q_getR hX fl_C_33 kc_0 (rfl : qRF 0 3 = some 29) d_C_all_69 ?_
    obtain ⟨u5, hc6, h⟩ := qbind h
    refine q_cVr hX (c_Feasts_size X.l G hX.ad f _  hc6) cw_C_341 rfl kc_29 rfl (Nat.le_of_ble_eq_true rfl) rfl (Nat.le_of_ble_eq_true rfl) d_C_all_72 ?_
    exact q_iretR hX h hT d_C_all_75
  have h := q_dec1 h hs1_2
  by_cases hs1_3 : x1 = (3 : Int32)
  · have h := q_dec0 h hs1_3
    refine q_tabIn hX hs1_3 d_C_all_1 (by decide) (by decide) rfl rfl ?_
    refine q_aload_n hX d_C_all_76 rfl ?_
    refine q_getR hX fl_C_62 kc_0 (rfl : qRF 0 7 = some 42) d_C_all_77 ?_
    obtain ⟨u7, hc8, h⟩ := qbind h
    refine q_cVr hX (c_Lines_size X.l G hX.ad f _  hc8) cw_C_216 rfl kc_42 rfl (Nat.le_of_ble_eq_true rfl) rfl (Nat.le_of_ble_eq_true rfl) d_C_all_80 ?_
    exact q_iretR hX h hT d_C_all_83
  have h := q_dec1 h hs1_3
  by_cases hs1_4 : x1 = (4 : Int32)
  · have h := q_dec0 h hs1_4
    refine q_tabIn hX hs1_4 d_C_all_1 (by decide) (by decide) rfl rfl ?_
    refine q_aload_n hX d_C_all_84 rfl ?_
    refine q_getR hX fl_C_62 kc_0 (rfl : qRF 0 7 = some 42) d_C_all_85 ?_
    obtain ⟨u9, hc10, h⟩ := qbind h
    refine q_cVr hX (c_Lines_howManyGood X.l G hX.ad f _  hc10) cw_C_342 rfl kc_42 rfl (Nat.le_of_ble_eq_true rfl) rfl (Nat.le_of_ble_eq_true rfl) d_C_all_88 ?_
    exact q_iretR hX h hT d_C_all_91
  have h := q_dec1 h hs1_4
  by_cases hs1_5 : x1 = (5 : Int32)
  · have h := q_dec0 h hs1_5
    refine q_tabIn hX hs1_5 d_C_all_1 (by decide) (by decide) rfl rfl ?_
    refine q_aload_n hX d_C_all_92 rfl ?_
    obtain ⟨u11, hc12, h⟩ := qbind h
    refine q_cVr hX (c_C_howManyGone X.l G hX.ad f _  hc12) cw_C_345 rfl kc_0 rfl (Nat.le_of_ble_eq_true rfl) rfl (Nat.le_of_ble_eq_true rfl) d_C_all_93 ?_
    exact q_iretR hX h hT d_C_all_96
  have h := q_dec1 h hs1_5
  by_cases hs1_6 : x1 = (6 : Int32)
  · have h := q_dec0 h hs1_6
    refine q_tabIn hX hs1_6 d_C_all_1 (by decide) (by decide) rfl rfl ?_
    refine q_aload_n hX d_C_all_97 rfl ?_
    refine q_getR hX fl_C_53 kc_0 (rfl : qRF 0 6 = some 37) d_C_all_98 ?_
    obtain ⟨u13, hc14, h⟩ := qbind h
    refine q_cVr hX (c_Acts_size X.l G hX.ad f _  hc14) cw_C_348 rfl kc_37 rfl (Nat.le_of_ble_eq_true rfl) rfl (Nat.le_of_ble_eq_true rfl) d_C_all_101 ?_
    exact q_iretR hX h hT d_C_all_104
  have h := q_dec1 h hs1_6
  by_cases hs1_7 : x1 = (7 : Int32)
  · have h := q_dec0 h hs1_7
    refine q_tabIn hX hs1_7 d_C_all_1 (by decide) (by decide) rfl rfl ?_
    refine q_aload_n hX d_C_all_105 rfl ?_
    refine q_getR hX fl_C_76 kc_0 (rfl : qRF 0 9 = some 53) d_C_all_106 ?_
    obtain ⟨u15, hc16, h⟩ := qbind h
    refine q_cVr hX (c_Houses_howManyBids X.l G hX.ad f _  hc16) cw_C_349 rfl kc_53 rfl (Nat.le_of_ble_eq_true rfl) rfl (Nat.le_of_ble_eq_true rfl) d_C_all_109 ?_
    exact q_iretR hX h hT d_C_all_112
  have h := q_dec1 h hs1_7
  by_cases hs1_8 : x1 = (8 : Int32)
  · have h := q_dec0 h hs1_8
    refine q_tabIn hX hs1_8 d_C_all_1 (by decide) (by decide) rfl rfl ?_
    refine q_aload_n hX d_C_all_113 rfl ?_
    refine q_getR hX fl_C_26 kc_0 (rfl : qRF 0 2 = some 27) d_C_all_114 ?_
    obtain ⟨u17, hc18, h⟩ := qbind h
    refine q_cVr hX (c_Deeds_size X.l G hX.ad f _  hc18) cw_C_352 rfl kc_27 rfl (Nat.le_of_ble_eq_true rfl) rfl (Nat.le_of_ble_eq_true rfl) d_C_all_117 ?_
    exact q_iretR hX h hT d_C_all_120
  have h := q_dec1 h hs1_8
  have hout : (x1).toInt < 0 ∨ 8 < (x1).toInt := by
    have e0 : (x1).toInt ≠ 0 := q_ne32 hs1_0
    have e1 : (x1).toInt ≠ 1 := q_ne32 hs1_1
    have e2 : (x1).toInt ≠ 2 := q_ne32 hs1_2
    have e3 : (x1).toInt ≠ 3 := q_ne32 hs1_3
    have e4 : (x1).toInt ≠ 4 := q_ne32 hs1_4
    have e5 : (x1).toInt ≠ 5 := q_ne32 hs1_5
    have e6 : (x1).toInt ≠ 6 := q_ne32 hs1_6
    have e7 : (x1).toInt ≠ 7 := q_ne32 hs1_7
    have e8 : (x1).toInt ≠ 8 := q_ne32 hs1_8
    omega
  refine q_tabOut hX hout d_C_all_1 rfl ?_
  refine q_ldc hX w_383 d_C_all_121 ?_
  exact q_iretR hX h hT d_C_all_123
