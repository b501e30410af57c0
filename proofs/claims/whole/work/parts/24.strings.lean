/-! String.length, String.charAt of the constants -/
theorem d_St_coder_0 : qd prog_17_method_152_code 0 (.getstatic 38) 3 3 := by decide +kernel
theorem d_St_coder_3 : qd prog_17_method_152_code 3 (.ifCond .eq 10) 3 6 := by decide +kernel
theorem d_St_coder_6 : qd prog_17_method_152_code 6 (.aload_n 0) 1 7 := by decide +kernel
theorem d_St_coder_7 : qd prog_17_method_152_code 7 (.getfield 15) 3 10 := by decide +kernel
theorem d_St_coder_10 : qd prog_17_method_152_code 10 (.goto 4) 3 13 := by decide +kernel
theorem d_St_coder_13 : qd prog_17_method_152_code 13 (.iconst 1) 1 14 := by decide +kernel
theorem d_St_coder_14 : qd prog_17_method_152_code 14 (.ireturn) 1 15 := by decide +kernel
theorem d_St_isLatin1_0 : qd prog_17_method_154_code 0 (.getstatic 38) 3 3 := by decide +kernel
theorem d_St_isLatin1_3 : qd prog_17_method_154_code 3 (.ifCond .eq 14) 3 6 := by decide +kernel
theorem d_St_isLatin1_6 : qd prog_17_method_154_code 6 (.aload_n 0) 1 7 := by decide +kernel
theorem d_St_isLatin1_7 : qd prog_17_method_154_code 7 (.getfield 15) 3 10 := by decide +kernel
theorem d_St_isLatin1_10 : qd prog_17_method_154_code 10 (.ifCond .ne 7) 3 13 := by decide +kernel
theorem d_St_isLatin1_13 : qd prog_17_method_154_code 13 (.iconst 1) 1 14 := by decide +kernel
theorem d_St_isLatin1_14 : qd prog_17_method_154_code 14 (.goto 4) 3 17 := by decide +kernel
theorem d_St_isLatin1_17 : qd prog_17_method_154_code 17 (.iconst 0) 1 18 := by decide +kernel
theorem d_St_isLatin1_18 : qd prog_17_method_154_code 18 (.ireturn) 1 19 := by decide +kernel
theorem d_St_length_0 : qd prog_17_method_54_code 0 (.aload_n 0) 1 1 := by decide +kernel
theorem d_St_length_1 : qd prog_17_method_54_code 1 (.getfield 9) 3 4 := by decide +kernel
theorem d_St_length_4 : qd prog_17_method_54_code 4 (.arraylength) 1 5 := by decide +kernel
theorem d_St_length_5 : qd prog_17_method_54_code 5 (.aload_n 0) 1 6 := by decide +kernel
theorem d_St_length_6 : qd prog_17_method_54_code 6 (.invokevirtual 335) 3 9 := by decide +kernel
theorem d_St_length_9 : qd prog_17_method_54_code 9 (.ishr) 1 10 := by decide +kernel
theorem d_St_length_10 : qd prog_17_method_54_code 10 (.ireturn) 1 11 := by decide +kernel
theorem d_Pc_checkIndex_0 : qd prog_22_method_11_code 0 (.iload_n 0) 1 1 := by decide +kernel
theorem d_Pc_checkIndex_1 : qd prog_22_method_11_code 1 (.ifCond .lt 8) 3 4 := by decide +kernel
theorem d_Pc_checkIndex_4 : qd prog_22_method_11_code 4 (.iload_n 0) 1 5 := by decide +kernel
theorem d_Pc_checkIndex_5 : qd prog_22_method_11_code 5 (.iload_n 1) 1 6 := by decide +kernel
theorem d_Pc_checkIndex_6 : qd prog_22_method_11_code 6 (.if_icmp .lt 10) 3 9 := by decide +kernel
theorem d_Pc_checkIndex_9 : qd prog_22_method_11_code 9 (.aload_n 2) 1 10 := by decide +kernel
theorem d_Pc_checkIndex_10 : qd prog_22_method_11_code 10 (.iload_n 0) 1 11 := by decide +kernel
theorem d_Pc_checkIndex_11 : qd prog_22_method_11_code 11 (.iload_n 1) 1 12 := by decide +kernel
theorem d_Pc_checkIndex_12 : qd prog_22_method_11_code 12 (.invokestatic 95) 3 15 := by decide +kernel
theorem d_Pc_checkIndex_16 : qd prog_22_method_11_code 16 (.iload_n 0) 1 17 := by decide +kernel
theorem d_Pc_checkIndex_17 : qd prog_22_method_11_code 17 (.ireturn) 1 18 := by decide +kernel
theorem d_St_checkIndex_0 : qd prog_17_method_155_code 0 (.iload_n 0) 1 1 := by decide +kernel
theorem d_St_checkIndex_1 : qd prog_17_method_155_code 1 (.iload_n 1) 1 2 := by decide +kernel
theorem d_St_checkIndex_2 : qd prog_17_method_155_code 2 (.getstatic 1053) 3 5 := by decide +kernel
theorem d_St_checkIndex_5 : qd prog_17_method_155_code 5 (.invokestatic 1059) 3 8 := by decide +kernel
theorem d_St_checkIndex_8 : qd prog_17_method_155_code 8 (.pop) 1 9 := by decide +kernel
theorem d_St_checkIndex_9 : qd prog_17_method_155_code 9 (.return_) 1 10 := by decide +kernel
theorem d_Sl_charAt_0 : qd prog_18_method_2_code 0 (.iload_n 1) 1 1 := by decide +kernel
theorem d_Sl_charAt_1 : qd prog_18_method_2_code 1 (.aload_n 0) 1 2 := by decide +kernel
theorem d_Sl_charAt_2 : qd prog_18_method_2_code 2 (.arraylength) 1 3 := by decide +kernel
theorem d_Sl_charAt_3 : qd prog_18_method_2_code 3 (.invokestatic 9) 3 6 := by decide +kernel
theorem d_Sl_charAt_6 : qd prog_18_method_2_code 6 (.aload_n 0) 1 7 := by decide +kernel
theorem d_Sl_charAt_7 : qd prog_18_method_2_code 7 (.iload_n 1) 1 8 := by decide +kernel
theorem d_Sl_charAt_8 : qd prog_18_method_2_code 8 (.baload) 1 9 := by decide +kernel
theorem d_Sl_charAt_9 : qd prog_18_method_2_code 9 (.sipush 255) 3 12 := by decide +kernel
theorem d_Sl_charAt_12 : qd prog_18_method_2_code 12 (.iand) 1 13 := by decide +kernel
theorem d_Sl_charAt_13 : qd prog_18_method_2_code 13 (.i2c) 1 14 := by decide +kernel
theorem d_Sl_charAt_14 : qd prog_18_method_2_code 14 (.ireturn) 1 15 := by decide +kernel
theorem d_St_charAt_0 : qd prog_17_method_56_code 0 (.aload_n 0) 1 1 := by decide +kernel
theorem d_St_charAt_1 : qd prog_17_method_56_code 1 (.invokevirtual 492) 3 4 := by decide +kernel
theorem d_St_charAt_4 : qd prog_17_method_56_code 4 (.ifCond .eq 12) 3 7 := by decide +kernel
theorem d_St_charAt_7 : qd prog_17_method_56_code 7 (.aload_n 0) 1 8 := by decide +kernel
theorem d_St_charAt_8 : qd prog_17_method_56_code 8 (.getfield 9) 3 11 := by decide +kernel
theorem d_St_charAt_11 : qd prog_17_method_56_code 11 (.iload_n 1) 1 12 := by decide +kernel
theorem d_St_charAt_12 : qd prog_17_method_56_code 12 (.invokestatic 495) 3 15 := by decide +kernel
theorem d_St_charAt_15 : qd prog_17_method_56_code 15 (.ireturn) 1 16 := by decide +kernel
theorem d_St_charAt_16 : qd prog_17_method_56_code 16 (.aload_n 0) 1 17 := by decide +kernel
theorem d_St_charAt_17 : qd prog_17_method_56_code 17 (.getfield 9) 3 20 := by decide +kernel
theorem d_St_charAt_20 : qd prog_17_method_56_code 20 (.iload_n 1) 1 21 := by decide +kernel
theorem d_St_charAt_21 : qd prog_17_method_56_code 21 (.invokestatic 498) 3 24 := by decide +kernel
theorem d_St_charAt_24 : qd prog_17_method_56_code 24 (.ireturn) 1 25 := by decide +kernel
theorem sw_1 : Cond.fieldLink "java/lang/String" 9 "java/lang/String" "value" "[B" ∈ qAW := qw 1715 (by decide +kernel) rfl
theorem sw_2 : Cond.fieldLink "java/lang/String" 15 "java/lang/String" "coder" "B" ∈ qAW := qw 1716 (by decide +kernel) rfl
theorem sw_3 : Cond.fieldLink "java/lang/String" 38 "java/lang/String" "COMPACT_STRINGS" "Z" ∈ qAW := qw 559 (by decide +kernel) rfl
theorem sw_4 : Cond.fieldLink "java/lang/String" 1053 "jdk/internal/util/Preconditions" "SIOOBE_FORMATTER" "Ljava/util/function/BiFunction;" ∈ qAW := qw 575 (by decide +kernel) rfl
theorem sw_5 : Cond.code y_St_coder prog_17_method_152_code 1 (some .byte) ∈ qAW := qw 558 (by decide +kernel) rfl
theorem sw_6 : Cond.methodLink "java/lang/String" 335 y_St_coder ∈ qAW := qw 555 (by decide +kernel) rfl
theorem sw_7 : Cond.initialized "java/lang/String" ∈ qAW := qw 86 (by decide +kernel) rfl
theorem sw_8 : Cond.instanceMethod y_St_coder ∈ qAW := qw 556 (by decide +kernel) rfl
theorem sw_9 : Cond.selects "java/lang/String" y_St_coder y_St_coder ∈ qAW := qw 557 (by decide +kernel) rfl
theorem scw_St_335 : qVw "java/lang/String" 335 "java/lang/String" y_St_coder prog_17_method_152_code 1 (some .byte) 0 := ⟨⟨sw_6, sw_8, sw_9, sw_7, sw_5⟩, rfl, ⟨by decide +kernel, by decide +kernel, by decide +kernel⟩, by decide⟩
theorem sw_10 : Cond.code y_St_isLatin1 prog_17_method_154_code 1 (some .boolean) ∈ qAW := qw 568 (by decide +kernel) rfl
theorem sw_11 : Cond.methodLink "java/lang/String" 492 y_St_isLatin1 ∈ qAW := qw 565 (by decide +kernel) rfl
theorem sw_12 : Cond.initialized "java/lang/String" ∈ qAW := qw 86 (by decide +kernel) rfl
theorem sw_13 : Cond.instanceMethod y_St_isLatin1 ∈ qAW := qw 566 (by decide +kernel) rfl
theorem sw_14 : Cond.selects "java/lang/String" y_St_isLatin1 y_St_isLatin1 ∈ qAW := qw 567 (by decide +kernel) rfl
theorem scw_St_492 : qVw "java/lang/String" 492 "java/lang/String" y_St_isLatin1 prog_17_method_154_code 1 (some .boolean) 0 := ⟨⟨sw_11, sw_13, sw_14, sw_12, sw_10⟩, rfl, ⟨by decide +kernel, by decide +kernel, by decide +kernel⟩, by decide⟩
theorem sw_15 : Cond.code y_Sl_charAt prog_18_method_2_code 2 (some .char) ∈ qAW := qw 571 (by decide +kernel) rfl
theorem sw_16 : Cond.methodLink "java/lang/String" 495 y_Sl_charAt ∈ qAW := qw 569 (by decide +kernel) rfl
theorem sw_17 : Cond.initialized "java/lang/StringLatin1" ∈ qAW := qw 87 (by decide +kernel) rfl
theorem sw_18 : Cond.static y_Sl_charAt ∈ qAW := qw 570 (by decide +kernel) rfl
theorem scw_St_495 : qSw "java/lang/String" 495 y_Sl_charAt prog_18_method_2_code 2 (some .char) 2 := ⟨⟨sw_16, sw_18, sw_17, sw_15⟩, ⟨by decide +kernel, by decide +kernel, by decide +kernel⟩, by decide⟩
theorem sw_19 : Cond.code y_St_checkIndex prog_17_method_155_code 2 none ∈ qAW := qw 574 (by decide +kernel) rfl
theorem sw_20 : Cond.methodLink "java/lang/StringLatin1" 9 y_St_checkIndex ∈ qAW := qw 572 (by decide +kernel) rfl
theorem sw_21 : Cond.initialized "java/lang/String" ∈ qAW := qw 86 (by decide +kernel) rfl
theorem sw_22 : Cond.static y_St_checkIndex ∈ qAW := qw 573 (by decide +kernel) rfl
theorem scw_Sl_9 : qSw "java/lang/StringLatin1" 9 y_St_checkIndex prog_17_method_155_code 2 none 2 := ⟨⟨sw_20, sw_22, sw_21, sw_19⟩, ⟨by decide +kernel, by decide +kernel, by decide +kernel⟩, by decide⟩
theorem sw_23 : Cond.code y_Pc_checkIndex prog_22_method_11_code 3 (some .int) ∈ qAW := qw 579 (by decide +kernel) rfl
theorem sw_24 : Cond.methodLink "java/lang/String" 1059 y_Pc_checkIndex ∈ qAW := qw 577 (by decide +kernel) rfl
theorem sw_25 : Cond.initialized "jdk/internal/util/Preconditions" ∈ qAW := qw 88 (by decide +kernel) rfl
theorem sw_26 : Cond.static y_Pc_checkIndex ∈ qAW := qw 578 (by decide +kernel) rfl
theorem scw_St_1059 : qSw "java/lang/String" 1059 y_Pc_checkIndex prog_22_method_11_code 3 (some .int) 3 := ⟨⟨sw_24, sw_26, sw_25, sw_23⟩, ⟨by decide +kernel, by decide +kernel, by decide +kernel⟩, by decide⟩
theorem mw_max_s : Cond.static Lib.Math.max.name ∈ qAW := qw 685 (by decide +kernel) rfl
theorem mw_max_c : Cond.code Lib.Math.max.name Lib.Math.max.code 2 (some .int) ∈ qAW := qw 686 (by decide +kernel) rfl
theorem mw_min_s : Cond.static Lib.Math.min.name ∈ qAW := qw 646 (by decide +kernel) rfl
theorem mw_min_c : Cond.code Lib.Math.min.name Lib.Math.min.code 2 (some .int) ∈ qAW := qw 647 (by decide +kernel) rfl
theorem mw_i : Cond.initialized "java/lang/Math" ∈ qAW := qw 90 (by decide +kernel) rfl
theorem lt_St_length {f : Nat} {σ : qMem} {w : Nat} {u : Int32} (h : p_St_length f σ w = some u) : w < 12 := by
  unfold p_St_length at h
  by_cases e : w < 12
  · exact e
  · rw [if_neg e] at h; cases h
theorem lt_St_charAt {f : Nat} {σ : qMem} {w : Nat} {x u : Int32} (h : p_St_charAt f σ w x = some u) : w < 12 := by
  unfold p_St_charAt at h
  by_cases e : w < 12
  · exact e
  · rw [if_neg e] at h; cases h
section QSTR
variable {G : qG} {X : qX} {own : String} {cc : ByteArray} {nL : Nat} {ret : Option FieldType} {d nc ns : Nat} {ks : List qKd} {ρ : qRf} {σ : qMem} {pc pc' : Nat} {lv lv' : qLv} {st : List Value}
theorem q_sval (hX : qOk G X "java/lang/String" cc nL ret d) {w : Nat} (hw : w < 12) (hd : qd cc pc (.getfield 9) 3 pc') (K : qV G X nc ns ks ρ σ pc' lv (.ref (1048676 + w) :: st)) : qV G X nc ns ks ρ σ pc lv (.ref (1048576 + w) :: st) := by
  obtain ⟨hd, rfl⟩ := hd
  obtain ⟨-, -, -, k1, k2, k3, k4, k5, k6, k7, k8⟩ := hX.kn
  exact fun H locs ls hR hS hl => vk_getf hX.ex hX.cd (k2.1 w hw).2.2.1 hS hX.ow (hX.ts _ sw_1) (fun _ h => h) hd (K H locs ls hR hS hl)
theorem q_scod (hX : qOk G X "java/lang/String" cc nL ret d) {w : Nat} (hw : w < 12) (hd : qd cc pc (.getfield 15) 3 pc') (K : qV G X nc ns ks ρ σ pc' lv (.int 0 :: st)) : qV G X nc ns ks ρ σ pc lv (.ref (1048576 + w) :: st) := by
  obtain ⟨hd, rfl⟩ := hd
  obtain ⟨-, -, -, k1, k2, k3, k4, k5, k6, k7, k8⟩ := hX.kn
  exact fun H locs ls hR hS hl => vk_getf hX.ex hX.cd (k2.1 w hw).2.1 hS hX.ow (hX.ts _ sw_2) (fun _ h => h) hd (K H locs ls hR hS hl)
theorem q_scs (hX : qOk G X "java/lang/String" cc nL ret d) (hd : qd cc pc (.getstatic 38) 3 pc') (K : qV G X nc ns ks ρ σ pc' lv (.int 1 :: st)) : qV G X nc ns ks ρ σ pc lv st := by
  obtain ⟨hd, rfl⟩ := hd
  obtain ⟨-, -, -, k1, k2, k3, k4, k5, k6, k7, k8⟩ := hX.kn
  exact fun H locs ls hR hS hl => va_gets hX.ex hX.cd k3 hS hX.ow (hX.ts _ sw_3) (fun _ h => h) hd (K H locs ls hR hS hl)
theorem q_sfm (hX : qOk G X "java/lang/String" cc nL ret d) (hd : qd cc pc (.getstatic 1053) 3 pc') (K : ∀ v : Value, v = .null ∨ v = .ref 1048900 → qV G X nc ns ks ρ σ pc' lv (v :: st)) : qV G X nc ns ks ρ σ pc lv st := by
  obtain ⟨hd, rfl⟩ := hd
  obtain ⟨-, -, -, k1, k2, k3, k4, k5, k6, k7, k8⟩ := hX.kn
  rcases k8 with k8 | k8
  · exact fun H locs ls hR hS hl => va_gets hX.ex hX.cd k8 hS hX.ow (hX.ts _ sw_4) (fun _ h => h) hd (K _ (Or.inl rfl) H locs ls hR hS hl)
  · exact fun H locs ls hR hS hl => va_gets hX.ex hX.cd k8 hS hX.ow (hX.ts _ sw_4) (fun _ h => h) hd (K _ (Or.inr rfl) H locs ls hR hS hl)
theorem q_slen (hX : qOk G X own cc nL ret d) {w : Nat} (hw : w < 12) (hd : qd cc pc (.arraylength) 1 pc') (K : qV G X nc ns ks ρ σ pc' lv (.int (Int32.ofNat (qSl.getD w 0)) :: st)) : qV G X nc ns ks ρ σ pc lv (.ref (1048676 + w) :: st) := by
  obtain ⟨hd, rfl⟩ := hd
  obtain ⟨-, -, -, k1, k2, k3, k4, k5, k6, k7, k8⟩ := hX.kn
  exact fun H locs ls hR hS hl => va_tlen hX.ex hX.cd (k2.1 w hw).2.2.2 hS rfl hd (K H locs ls hR hS hl)
theorem q_sbald (hX : qOk G X own cc nL ret d) {w : Nat} (hw : w < 12) {i : Int32} (hin : qin i (qSl.getD w 0) = true) (hd : qd cc pc (.baload) 1 pc') (K : qV G X nc ns ks ρ σ pc' lv (.int ((qSb.getD w []).getD (qi i) 0) :: st)) : qV G X nc ns ks ρ σ pc lv (.int i :: .ref (1048676 + w) :: st) := by
  obtain ⟨hd, rfl⟩ := hd
  obtain ⟨-, -, -, k1, k2, k3, k4, k5, k6, k7, k8⟩ := hX.kn
  exact fun H locs ls hR hS hl => va_tb hX.ex hX.cd (k2.1 w hw).2.2.2 hS (qin_vp hin) rfl hd (K H locs ls hR hS hl)
theorem q_cStr (hX : qOk G X own cc nL ret d) {i n maxL d' w : Nat} {y : MethodName} {bytes : ByteArray} {rt : Option FieldType} {As : List Value} {v : Value} {stk : List Value}
    (hC : qCt X.l y bytes maxL rt d' G ks ρ σ (.ref (1048576 + w) :: As) (some v) ks ρ σ 0 0) (hw12 : w < 12) (hw : qVw own i "java/lang/String" y bytes maxL rt n) (hn : As.length = n) (hdd : d' + 1 ≤ d) (hstk : stk = As.reverse ++ .ref (1048576 + w) :: st) (hcat : (st.map fun v => v.category).sum ≤ 8)
    (hd : qd cc pc (.invokevirtual i) 3 pc') (K : qV G X 0 0 ks ρ σ pc' lv (v :: st)) : qV G X 0 0 ks ρ σ pc lv stk := by
  obtain ⟨hd, rfl⟩ := hd
  subst hstk
  obtain ⟨⟨w1, w2, w3, w4, w5⟩, hyC, hdd2, hmL⟩ := hw
  intro H locs ls hR hS hl
  have hfr := hX.fr
  have hlo := hX.lo
  obtain ⟨-, -, -, k1, k2, k3, k4, k5, k6, k7, k8⟩ := hX.kn
  rw [qmaprev]
  refine q_run (r := some v) (mc := 0) (ms := 0) (va_runV (As := As.map (qv G.2.2)) (rest := st.map (qv G.2.2)) (n := n) ⟨hX.ex, hX.cd, hX.ml, hX.ow, hX.ts⟩ hC (cwV (C := "java/lang/String") n hX.ts (fun w hw => ?_) rfl rfl rfl ⟨hyC, hdd2⟩ ⟨by show d' + 1 ≤ _; omega, by show 8 + (maxL + 11) + 100 * d' ≤ _; omega⟩) ⟨qBlind, vk_recv k2 hw12 hS, fun U hU hW => ⟨rfl, hX.kn.move hW (by rw [hU]; exact hS), by rw [hU]; exact hR⟩⟩ rfl (by simp [hn]) (by rw [← hX.ml]; exact hl.1) rfl (lv_room (by rw [qcat]; exact hcat)) hd q00) hS hl K
  unfold wsV at hw
  rcases List.mem_append.mp hw with hw | hw
  · have hm : w ∈ qAW := by
      simp only [List.mem_cons, List.not_mem_nil, or_false] at hw
      rcases hw with rfl | rfl | rfl | rfl
      · exact w1
      · exact w2
      · exact w3
      · exact w4
    exact ⟨hm, qAW_good hm⟩
  · exact qGood w5 w hw
theorem q_nret {ty : FieldType} (hX : qOk G X own cc nL (some ty) d) {v v' : Int32} (hv : narrow ty (.int v) = .int v') (hT : qTg G X nc ns ks ρ σ (some (.int v'))) (hd : qd cc pc .ireturn 1 pc') : qV G X nc ns ks ρ σ pc lv [.int v] := by
  intro H locs ls hR hS hl
  unfold qTg at hT
  rw [hT]
  exact qW_zret hX.ex hX.cd hX.rt hv (fun t ht hW => ⟨rfl, by rw [ht]; exact hR, hS.F ht⟩) hS.2.2 hd.1 hX.lk
end QSTR
theorem c_St_coder (l : Launch) (G : qG) (hA : qAd G) (σ : qMem) {w : Nat} (hw : w < 12) : qCt l y_St_coder prog_17_method_152_code 1 (some .byte) 1 G qKS qRF σ [.ref (1048576 + w)] (some (.int 0)) qKS qRF σ 0 0 := by
  refine qCt.of (lv := [some (.ref (1048576 + w))]) (by decide) hA (Nat.le_of_ble_eq_true rfl) rfl ?_
  intro X hl _ _ _ hX hT
  refine q_scs hX d_St_coder_0 ?_
  refine q_if_eq (α := Unit) (a := none) (b := some ()) (q := ()) hX d_St_coder_3 rfl (by decide) (fun z h => by cases h) (fun _ _ => ?_)
  refine q_aload_n hX d_St_coder_6 rfl ?_
  refine q_scod hX hw d_St_coder_7 ?_
  refine q_goto hX d_St_coder_10 rfl ?_
  exact q_nret hX rfl hT d_St_coder_14
theorem c_St_isLatin1 (l : Launch) (G : qG) (hA : qAd G) (σ : qMem) {w : Nat} (hw : w < 12) : qCt l y_St_isLatin1 prog_17_method_154_code 1 (some .boolean) 1 G qKS qRF σ [.ref (1048576 + w)] (some (.int 1)) qKS qRF σ 0 0 := by
  refine qCt.of (lv := [some (.ref (1048576 + w))]) (by decide) hA (Nat.le_of_ble_eq_true rfl) rfl ?_
  intro X hl _ _ _ hX hT
  refine q_scs hX d_St_isLatin1_0 ?_
  refine q_if_eq (α := Unit) (a := none) (b := some ()) (q := ()) hX d_St_isLatin1_3 rfl (by decide) (fun z h => by cases h) (fun _ _ => ?_)
  refine q_aload_n hX d_St_isLatin1_6 rfl ?_
  refine q_scod hX hw d_St_isLatin1_7 ?_
  refine q_if_ne (α := Unit) (b := some ()) (a := none) (q := ()) hX d_St_isLatin1_10 rfl (by decide) (fun z h => by cases h) (fun _ _ => ?_)
  refine q_iconst hX d_St_isLatin1_13 ic_1 ?_
  refine q_goto hX d_St_isLatin1_14 rfl ?_
  exact q_zret hX zn_1 hT d_St_isLatin1_18
theorem qsh0 (x : Int32) : x >>> ((0 : Int32) &&& 31) = x := by
  have e : ((0 : Int32) &&& 31) = 0 := by decide
  rw [e]
  simp
theorem c_St_length (l : Launch) (G : qG) (hA : qAd G) (f : Nat) (σ : qMem) (w : Nat) {u : Int32} (h : p_St_length f σ w = some u) : qCt l y_St_length prog_17_method_54_code 1 (some .int) 4 G qKS qRF σ [.ref (1048576 + w)] (some (.int u)) qKS qRF σ 0 0 := by
  have hw := lt_St_length h
  unfold p_St_length at h
  rw [if_pos hw] at h
  refine qCt.of (lv := [some (.ref (1048576 + w))]) (by decide) hA (Nat.le_of_ble_eq_true rfl) rfl ?_
  intro X hl _ _ _ hX hT
  subst hl
  refine q_aload_n hX d_St_length_0 rfl ?_
  refine q_sval hX hw d_St_length_1 ?_
  refine q_slen hX hw d_St_length_4 ?_
  refine q_aload_n hX d_St_length_5 rfl ?_
  refine q_cStr hX (c_St_coder X.l G hX.ad σ hw) hw scw_St_335 rfl (Nat.le_of_ble_eq_true rfl) rfl (Nat.le_of_ble_eq_true rfl) d_St_length_6 ?_
  refine q_ishr hX d_St_length_9 ?_
  rw [qsh0]
  exact q_iretR hX h hT d_St_length_10
theorem c_Pc_checkIndex (l : Launch) (G : qG) (hA : qAd G) (σ : qMem) {i n : Int32} (v : Value) (hv : v = .null ∨ v = .ref 1048900) (h1 : ¬ i < 0) (h2 : i < n) : qCt l y_Pc_checkIndex prog_22_method_11_code 3 (some .int) 1 G qKS qRF σ [.int i, .int n, v] (some (.int i)) qKS qRF σ 0 0 := by
  have hq : qen [.int i, .int n, v] = [some (.int i), some (.int n), some v] := by rcases hv with rfl | rfl <;> rfl
  refine qCt.of (lv := [some (.int i), some (.int n), some v]) (by decide) hA (by rw [hq]; exact Nat.le_refl 3) (by rw [hq]; rfl) ?_
  intro X hl _ _ _ hX hT
  refine q_iload_n hX d_Pc_checkIndex_0 rfl ?_
  refine q_if_lt (α := Unit) (a := none) (b := some ()) (q := ()) hX d_Pc_checkIndex_1 rfl (by rw [if_neg h1]) (fun z h => by cases h) (fun _ _ => ?_)
  refine q_iload_n hX d_Pc_checkIndex_4 rfl ?_
  refine q_iload_n hX d_Pc_checkIndex_5 rfl ?_
  refine q_icmp_lt (α := Unit) (a := some ()) (b := none) (q := ()) hX d_Pc_checkIndex_6 rfl (by rw [if_pos h2]) (fun _ _ => ?_) (fun z h => by cases h)
  refine q_iload_n hX d_Pc_checkIndex_16 rfl ?_
  exact q_iret hX hT d_Pc_checkIndex_17
theorem c_St_checkIndex (l : Launch) (G : qG) (hA : qAd G) (σ : qMem) {i n : Int32} (h1 : ¬ i < 0) (h2 : i < n) : qCt l y_St_checkIndex prog_17_method_155_code 2 none 2 G qKS qRF σ [.int i, .int n] none qKS qRF σ 0 0 := by
  refine qCt.of (lv := [some (.int i), some (.int n)]) (by decide) hA (Nat.le_of_ble_eq_true rfl) rfl ?_
  intro X hl _ _ _ hX hT
  subst hl
  refine q_iload_n hX d_St_checkIndex_0 rfl ?_
  refine q_iload_n hX d_St_checkIndex_1 rfl ?_
  refine q_sfm hX d_St_checkIndex_2 (fun v hv => ?_)
  refine q_cSr hX (c_Pc_checkIndex X.l G hX.ad σ v hv h1 h2) scw_St_1059 rfl (Nat.le_of_ble_eq_true rfl) rfl (Nat.le_of_ble_eq_true rfl) d_St_checkIndex_5 ?_
  refine q_pop hX rfl d_St_checkIndex_8 ?_
  exact q_vret hX hT d_St_checkIndex_9
theorem qsb_ok : ∀ w, w < 12 → ∀ j, j < qSl.getD w 0 → (((((qSb.getD w []).getD j 0) &&& 255).toUInt32 % 65536).toInt32) = (qSb.getD w []).getD j 0 ∧ narrow .char (.int ((qSb.getD w []).getD j 0)) = .int ((qSb.getD w []).getD j 0) := by decide +kernel
theorem qsl_lt : ∀ w, w < 12 → qSl.getD w 0 < 100 := by decide +kernel
theorem qin_lt {i : Int32} {n : Nat} (hn : n < 2 ^ 31) (h : qin i n = true) : ¬ i < 0 ∧ i < Int32.ofNat n := by
  have h3 := qin_vp h
  obtain ⟨j, hj, rfl⟩ := vp_in_of h3 hn
  refine ⟨nI_pos (by omega), nI_lt hj hn⟩
theorem qin_idx {i : Int32} {n : Nat} (h : qin i n = true) : qi i < n := by
  unfold qin at h
  simp only [Bool.and_eq_true, decide_eq_true_eq] at h
  exact h.2
theorem c_Sl_charAt (l : Launch) (G : qG) (hA : qAd G) (σ : qMem) {w : Nat} (hw : w < 12) {i : Int32} (hin : qin i (qSl.getD w 0) = true) : qCt l y_Sl_charAt prog_18_method_2_code 2 (some .char) 3 G qKS qRF σ [.ref (1048676 + w), .int i] (some (.int ((qSb.getD w []).getD (qi i) 0))) qKS qRF σ 0 0 := by
  refine qCt.of (lv := [some (.ref (1048676 + w)), some (.int i)]) (by decide) hA (Nat.le_of_ble_eq_true rfl) rfl ?_
  intro X hl _ _ _ hX hT
  subst hl
  obtain ⟨h1, h2⟩ := qin_lt (by have := qsl_lt w hw; omega) hin
  refine q_iload_n hX d_Sl_charAt_0 rfl ?_
  refine q_aload_n hX d_Sl_charAt_1 rfl ?_
  refine q_slen hX hw d_Sl_charAt_2 ?_
  refine q_cSv hX (c_St_checkIndex X.l G hX.ad σ h1 h2) scw_Sl_9 rfl (Nat.le_of_ble_eq_true rfl) rfl (Nat.le_of_ble_eq_true rfl) d_Sl_charAt_3 ?_
  refine q_aload_n hX d_Sl_charAt_6 rfl ?_
  refine q_iload_n hX d_Sl_charAt_7 rfl ?_
  refine q_sbald hX hw hin d_Sl_charAt_8 ?_
  refine q_sipush hX (v := 255) d_Sl_charAt_9 (by decide +kernel) ?_
  refine q_iand hX d_Sl_charAt_12 ?_
  refine q_i2c hX d_Sl_charAt_13 ?_
  obtain ⟨e1, e2⟩ := qsb_ok w hw (qi i) (qin_idx hin)
  rw [e1]
  exact q_nret hX e2 hT d_Sl_charAt_14
theorem c_St_charAt (l : Launch) (G : qG) (hA : qAd G) (f : Nat) (σ : qMem) (w : Nat) (x1 : Int32) {u : Int32} (h : p_St_charAt f σ w x1 = some u) : qCt l y_St_charAt prog_17_method_56_code 2 (some .char) 4 G qKS qRF σ [.ref (1048576 + w), .int x1] (some (.int u)) qKS qRF σ 0 0 := by
  have hw := lt_St_charAt h
  unfold p_St_charAt at h
  rw [if_pos hw] at h
  obtain ⟨hin, h⟩ := qg_pos h
  cases h
  refine qCt.of (lv := [some (.ref (1048576 + w)), some (.int x1)]) (by decide) hA (Nat.le_of_ble_eq_true rfl) rfl ?_
  intro X hl _ _ _ hX hT
  subst hl
  refine q_aload_n hX d_St_charAt_0 rfl ?_
  refine q_cStr hX (c_St_isLatin1 X.l G hX.ad σ hw) hw scw_St_492 rfl (Nat.le_of_ble_eq_true rfl) rfl (Nat.le_of_ble_eq_true rfl) d_St_charAt_1 ?_
  refine q_if_eq (α := Unit) (a := none) (b := some ()) (q := ()) hX d_St_charAt_4 rfl (by decide) (fun z h => by cases h) (fun _ _ => ?_)
  refine q_aload_n hX d_St_charAt_7 rfl ?_
  refine q_sval hX hw d_St_charAt_8 ?_
  refine q_iload_n hX d_St_charAt_11 rfl ?_
  refine q_cSr hX (c_Sl_charAt X.l G hX.ad σ hw hin) scw_St_495 rfl (Nat.le_of_ble_eq_true rfl) rfl (Nat.le_of_ble_eq_true rfl) d_St_charAt_12 ?_
  exact q_nret hX (qsb_ok w hw (qi x1) (qin_idx hin)).2 hT d_St_charAt_15

section QMATH
variable {G : qG} {X : qX} {own : String} {cc : ByteArray} {nL : Nat} {ret : Option FieldType} {d : Nat} {ks : List qKd} {ρ : qRf} {σ : qMem} {pc pc' : Nat} {lv lv' : qLv} {st : List Value}
theorem q_mmax (hX : qOk G X own cc nL ret d) {i : Nat} {x y : Int32} (w1 : Cond.methodLink own i Lib.Math.max.name ∈ qAW) (hdd : 1 ≤ d) (hcat : (st.map fun v => v.category).sum ≤ 8) (hd : qd cc pc (.invokestatic i) 3 pc') (K : qV G X 0 0 ks ρ σ pc' lv (.int (if x < y then y else x) :: st)) : qV G X 0 0 ks ρ σ pc lv (.int y :: .int x :: st) := by
  obtain ⟨hd, rfl⟩ := hd
  have hfr := hX.fr
  have hlo := hX.lo
  exact fun H locs ls hR hS hl => va_mmax hX.ex hX.cd hl.1.symm hX.ow (hX.ts _ w1) (hX.ts _ mw_max_s) (hX.ts _ mw_i) (hX.ts _ mw_max_c) (by omega) (by rw [qcat]; omega) (Nat.zero_le _) (Nat.zero_le _) hd (K H locs ls hR hS hl)
theorem q_mmin (hX : qOk G X own cc nL ret d) {i : Nat} {x y : Int32} (w1 : Cond.methodLink own i Lib.Math.min.name ∈ qAW) (hdd : 1 ≤ d) (hcat : (st.map fun v => v.category).sum ≤ 8) (hd : qd cc pc (.invokestatic i) 3 pc') (K : qV G X 0 0 ks ρ σ pc' lv (.int (if y < x then y else x) :: st)) : qV G X 0 0 ks ρ σ pc lv (.int y :: .int x :: st) := by
  obtain ⟨hd, rfl⟩ := hd
  have hfr := hX.fr
  have hlo := hX.lo
  exact fun H locs ls hR hS hl => va_mmin hX.ex hX.cd hl.1.symm hX.ow (hX.ts _ w1) (hX.ts _ mw_min_s) (hX.ts _ mw_i) (hX.ts _ mw_min_c) (by omega) (by rw [qcat]; omega) (Nat.zero_le _) (Nat.zero_le _) hd (K H locs ls hR hS hl)
end QMATH
