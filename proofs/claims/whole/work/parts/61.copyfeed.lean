/-! copy -/
theorem copy_inv {σ : qMem} (h : Inv σ) {a i b j n : Nat} (ha : a < 8) (hb : b < 8) (hi : i + n ≤ 60) (hj : j + n ≤ 60) : Inv (cpM (qmu (qmu (qmu (qcp σ (5 + a) i (5 + b) j n) 0 16 0) 104 0 0) 104 1 0) (60 * a + i) (60 * b + j) n) := by
  obtain ⟨a1, a2, a3, a4, a5⟩ := h.sh
  refine h.u_sh_fi ?_ ⟨?_, ?_, ?_, ?_, ?_⟩ ?_
  · intro A B hn
    unfold P_sh_fi at hn
    simp only [qmu, cpM, qcp, true_and]
    repeat (first | rw [if_neg (by omega)] | rw [if_pos (by omega)])
  · funext B
    simp only [qmu, cpM, qcp, true_and]
    repeat (first | rw [if_neg (by omega)] | rw [if_pos (by omega)])
    rw [a1]
  · funext B
    simp only [qmu, cpM, qcp, true_and]
    repeat (first | rw [if_neg (by omega)] | rw [if_pos (by omega)])
    rw [a2]
  · intro t ht u hu
    simp only [qmu, cpM, qcp, true_and]
    by_cases c : t = b ∧ j ≤ u ∧ u < j + n
    · repeat (first | rw [if_neg (by omega)] | rw [if_pos (by omega)])
      rw [a3 a ha _ (by omega)]
      congr 1
      omega
    · have c' : ¬ (60 * b + j ≤ 60 * t + u ∧ 60 * t + u < 60 * b + j + n) := by
        rcases Nat.lt_trichotomy t b with q | q | q <;> omega
      repeat (first | rw [if_neg (by omega)] | rw [if_pos (by omega)])
      exact a3 t ht u hu
  · intro t ht
    simp only [qmu, cpM, qcp, true_and]
    repeat (first | rw [if_neg (by omega)] | rw [if_pos (by omega)])
    exact a4 t ht
  · intro t ht
    simp only [qmu, cpM, qcp, true_and]
    repeat (first | rw [if_neg (by omega)] | rw [if_pos (by omega)])
    exact a5 t ht
  · unfold g_fi
    simp only [qmu, cpM, qcp, true_and, and_self, if_true]
    repeat (first | rw [if_neg (by omega)] | rw [if_pos (by omega)])
theorem find_ok {σ : qMem} (h : Inv σ) (v : Int32) : Inv (qmu (qmu (qmu (qmu σ 0 16 v) 104 0 0) 104 1 0) 104 1 v) := fi_ok h (by repeat (first | exact agr_rf | refine agr_mu ?_ (by unfold P_fi; omega))) (by simp [mu_c, upd])
theorem copy_ok {f : Nat} {σ : qMem} (h : Inv σ) (hf : 100 < f) (x1 x2 x3 x4 x5 : Int32) : PairW (p_C_copy f σ x1 x2 x3 x4 x5) (fun s => p_M_copy f s x1 x2 x3 x4 x5) := by
  by_cases c1 : rg x1 0 7
  · by_cases c2 : rg x3 0 7
    · obtain ⟨a, ha, rfl⟩ := rg_nat (b := 7) c1
      obtain ⟨b, hb, rfl⟩ := rg_nat (b := 7) c2
      obtain ⟨a1, a2, a3, a4, a5⟩ := h.sh
      obtain ⟨m, hm, em⟩ := a5 a (by omega)
      obtain ⟨w, hw, ew⟩ := a5 b (by omega)
      have hqa := qin_nI (k := a) (n := 8) (by omega) (by omega)
      have hia : (nI a).toNatClampNeg = a := qi_nI (by omega)
      have hqb := qin_nI (k := b) (n := 8) (by omega) (by omega)
      have hib : (nI b).toNatClampNeg = b := qi_nI (by omega)
      have hla := lane_neg h.sh (s := a) (by omega)
      have hlb := lane_neg h.sh (s := b) (by omega)
      have hma := missL (f := f) (σ := σ) (show a < 8 by omega)
      have hmb := missL (f := f) (σ := σ) (show b < 8 by omega)
      by_cases d1 : σ 2 a = -1
      · refine ⟨-1000011, qmu σ 0 16 1, _, ?_, ?_, find_ok h 1⟩
        · simp [p_C_copy, noSheetL, c1, c2, hma, d1, p_C_copy_b39, p_C_found]
        · simp [p_M_copy, isSheetL, c1, c2, hqa, hia, mu_c, ← a1, d1, p_M_copy_b45, p_M_finding]
      · by_cases d2 : σ 2 b = -1
        · refine ⟨-1000011, qmu σ 0 16 1, _, ?_, ?_, find_ok h 1⟩
          · simp [p_C_copy, noSheetL, c1, c2, hma, hmb, d1, d2, p_C_copy_b39, p_C_found]
          · simp [p_M_copy, isSheetL, c1, c2, hqa, hia, hqb, hib, mu_c, ← a1, d2, hla.1, d1, p_M_copy_b45, p_M_finding]
        · by_cases d3 : σ 2 a = σ 2 b
          · have hC : p_C_copy f σ (nI a) x2 (nI b) x4 x5 = (p_Sheets_holds f σ (nI a) x2 x5).bind fun u15 => if u15 = 0 then p_C_copy_b92 f σ else (p_Sheets_holds f σ (nI b) x4 x5).bind fun u17 => if u17 = 0 then p_C_copy_b92 f σ else (p_Sheets_move f σ (nI a) x2 (nI b) x4 x5).bind fun u19 => (p_C_foundNothing f u19 x5).bind fun u21 => some (u21.1, u21.2) := by
              simp [p_C_copy, noSheetL, c1, c2, hma, hmb, d1, d2, p_Sheets_alike, hqa, hqb, hia, hib, d3]
            have hb2 : p_C_copy_b92 f σ = some (-1000012, qmu σ 0 16 2) := by simp [p_C_copy_b92, p_C_found]
            have d3' : σ 2 b = σ 2 a := d3.symm
            by_cases g0 : 0 ≤ x2.toInt ∧ 0 ≤ x5.toInt ∧ x2.toInt + x5.toInt ≤ m ∧ 0 ≤ x4.toInt ∧ x4.toInt + x5.toInt ≤ w
            · obtain ⟨g1, g2, g3, g4, g5⟩ := g0
              obtain ⟨i, hi, rfl⟩ := rg_nat (x := x2) (b := 60) ⟨by omega, by omega⟩
              obtain ⟨j, hj, rfl⟩ := rg_nat (x := x4) (b := 60) ⟨by omega, by omega⟩
              obtain ⟨n, hn, rfl⟩ := rg_nat (x := x5) (b := 60) ⟨by omega, by omega⟩
              have k1 : (nI i).toInt = i := nI_toInt (by omega)
              have k2 : (nI j).toInt = j := nI_toInt (by omega)
              have k3 : (nI n).toInt = n := nI_toInt (by omega)
              rw [k1, k3] at g3
              rw [k2, k3] at g5
              have n1 : ¬ nI i < 0 := nI_pos (by omega)
              have n2 : ¬ nI j < 0 := nI_pos (by omega)
              have n3 : ¬ nI n < 0 := nI_pos (by omega)
              have q1 : qcg (nI i) (nI j) (nI n) 60 60 = true := by
                unfold qcg
                rw [nI_clamp (by omega), nI_clamp (by omega), nI_clamp (by omega)]
                simp [n1, n2, n3]
                omega
              have i1 : (nI i).toNatClampNeg = i := qi_nI (by omega)
              have i2 : (nI j).toNatClampNeg = j := qi_nI (by omega)
              have i3 : (nI n).toNatClampNeg = n := qi_nI (by omega)
              have L1 : ¬ 0 < lg_cmp ((nI i).toInt64 + (nI n).toInt64) (nI m).toInt64 := by
                rw [lg_cmp_gt, i64_lt, lg_add2, tl_int, k1, k3, nI_toInt (by omega)]
                omega
              have L2 : lg_cmp ((nI j).toInt64 + (nI n).toInt64) (nI w).toInt64 ≤ 0 := by
                rw [lg_cmp_le, i64_le, lg_add2, tl_int, k2, k3, nI_toInt (by omega)]
                omega
              refine ⟨nI n, qmu (qcp σ (5 + a) i (5 + b) j n) 0 16 0, _, ?_, ?_, copy_inv h (a := a) (i := i) (b := b) (j := j) (n := n) (by omega) (by omega) (by omega) (by omega)⟩
              · rw [hC, holdsL (by omega) em hm, holdsL (by omega) ew hw, if_pos (by rw [k1, k3]; omega), if_pos (by rw [k2, k3]; omega)]
                simp [p_Sheets_move, hqa, hqb, q1, hia, hib, i1, i2, i3, p_C_foundNothing]
              · have mem : ∀ A B, 105 ≤ A → A ≤ 106 → (qmu (qmu (qmu (qcp σ (5 + a) i (5 + b) j n) 0 16 0) 104 0 0) 104 1 0) A B = σ A B := by
                  intro A B hA hA2
                  simp only [qmu, qcp, true_and]
                  repeat (first | rw [if_neg (by omega)] | rw [if_pos (by omega)])
                have e105a := mem 105 a (by omega) (by omega)
                have e105b := mem 105 b (by omega) (by omega)
                have e106a := mem 106 a (by omega) (by omega)
                have e106b := mem 106 b (by omega) (by omega)
                rw [← a1] at e105a e105b
                rw [← a2] at e106a e106b
                have na : ¬ σ 2 a < 0 := fun e => d1 (hla.1.mp e)
                have pa : 0 ≤ σ 2 a := hla.2.mpr d1
                by_cases up' : i < j
                · have up : nI i < nI j := (nI_ltI (by omega) (by omega)).mpr up'
                  simp only [p_M_copy, isSheetL, c1, c2, if_true, Option.bind_some, hqa, hia, hqb, hib, e105a, e105b, e106a, e106b, na, pa, n1, n2, n3, L1, L2, em, ew, up, d3', if_false, not_false_eq_true, copy_dn (f := f) (σ := qmu (qmu (qmu (qcp σ (5 + a) i (5 + b) j n) 0 16 0) 104 0 0) 104 1 0) (show a < 8 by omega) (show b < 8 by omega) (show i + n ≤ 60 by omega) (show j + n ≤ 60 by omega) up' hf]
                  simp
                · have up : ¬ nI i < nI j := fun q => up' ((nI_ltI (by omega) (by omega)).mp q)
                  have up' : j ≤ i := by omega
                  simp only [p_M_copy, isSheetL, c1, c2, if_true, Option.bind_some, hqa, hia, hqb, hib, e105a, e105b, e106a, e106b, na, pa, n1, n2, n3, L1, L2, em, ew, up, d3', if_false, not_false_eq_true, copy_up (f := f) (σ := qmu (qmu (qmu (qcp σ (5 + a) i (5 + b) j n) 0 16 0) 104 0 0) 104 1 0) (show a < 8 by omega) (show b < 8 by omega) (show i + n ≤ 60 by omega) (show j + n ≤ 60 by omega) up' hf]
                  simp
            · refine ⟨-1000012, qmu σ 0 16 2, _, ?_, ?_, find_ok h 2⟩
              · rw [hC, holdsL (by omega) em hm, holdsL (by omega) ew hw, hb2]
                by_cases t1 : 0 ≤ x2.toInt ∧ 0 ≤ x5.toInt ∧ x2.toInt + x5.toInt ≤ m
                · rw [if_pos t1, if_neg (fun t2 => g0 ⟨t1.1, t1.2.1, t1.2.2, t2.1, t2.2.2⟩)]
                  simp
                · rw [if_neg t1]
                  simp
              · have z0 : (0 : Int32).toInt = 0 := rfl
                have hm2 : p_M_copy_b121 f (qmu (qmu (qmu σ 0 16 2) 104 0 0) 104 1 0) = some (-1000012, qmu (qmu (qmu (qmu σ 0 16 2) 104 0 0) 104 1 0) 104 1 2) := by simp [p_M_copy_b121, p_M_finding]
                have hM : p_M_copy f (qmu σ 0 16 2) (nI a) x2 (nI b) x4 x5 = if x2 < 0 then p_M_copy_b121 f (qmu (qmu (qmu σ 0 16 2) 104 0 0) 104 1 0) else if x4 < 0 then p_M_copy_b121 f (qmu (qmu (qmu σ 0 16 2) 104 0 0) 104 1 0) else if x5 < 0 then p_M_copy_b121 f (qmu (qmu (qmu σ 0 16 2) 104 0 0) 104 1 0) else if 0 < (lg_cmp ((x2).toInt64 + (x5).toInt64) (nI m).toInt64) then p_M_copy_b121 f (qmu (qmu (qmu σ 0 16 2) 104 0 0) 104 1 0) else if (lg_cmp ((x4).toInt64 + (x5).toInt64) (nI w).toInt64) ≤ 0 then (if x2 < x4 then qfix2 (p_M_copy_l143 f (nI a) x2 (nI b) x4 x5 (0 : Int32) ) f (qmu (qmu (qmu σ 0 16 2) 104 0 0) 104 1 0) (0 : Int32) else qfix2 (p_M_copy_l143 f (nI a) x2 (nI b) x4 x5 (1 : Int32) ) f (qmu (qmu (qmu σ 0 16 2) 104 0 0) 104 1 0) (0 : Int32)) else p_M_copy_b121 f (qmu (qmu (qmu σ 0 16 2) 104 0 0) 104 1 0) := by
                  simp [p_M_copy, isSheetL, c1, c2, hqa, hia, hqb, hib, mu_c, ← a1, ← a2, hla.1, hlb.2, d1, d2, em, ew, d3']
                show p_M_copy f (qmu σ 0 16 2) (nI a) x2 (nI b) x4 x5 = _
                rw [hM, hm2]
                refine ite_t (fun _ => rfl) (fun t1 => ite_t (fun _ => rfl) (fun t2 => ite_t (fun _ => rfl) (fun t3 => ite_t (fun _ => rfl) (fun t4 => ?_))))
                rw [if_neg]
                rw [i32_lt, z0] at t1 t2 t3
                rw [lg_cmp_gt, i64_lt, lg_add2, tl_int, nI_toInt (by omega)] at t4
                rw [lg_cmp_le, i64_le, lg_add2, tl_int, nI_toInt (by omega)]
                omega
          · refine ⟨-1000015, qmu σ 0 16 5, _, ?_, ?_, find_ok h 5⟩
            · simp [p_C_copy, noSheetL, c1, c2, hma, hmb, d1, d2, p_Sheets_alike, hqa, hqb, hia, hib, d3, p_C_found]
            · simp [p_M_copy, isSheetL, c1, c2, hqa, hia, hqb, hib, mu_c, ← a1, hla.1, hlb.2, d1, d2, d3, p_M_finding]
    · refine badW (r := -1000001) h ?_ ?_
      · simp [p_C_copy, noSheetL, c1, c2]
      · simp [p_M_copy, isSheetL, c1, c2]
  · refine badW (r := -1000001) h ?_ ?_
    · simp [p_C_copy, noSheetL, c1]
    · simp [p_M_copy, isSheetL, c1]
