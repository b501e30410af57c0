/-! tests as one -/
theorem outL {f : Nat} {σ : qMem} {x a b : Int32} : p_C_outside f σ x a b = some (@ite Int32 (rg x a.toInt b.toInt) (Classical.propDecidable _) 0 1) := by
  by_cases h : rg x a.toInt b.toInt
  · rw [if_pos h, out_p h]
  · rw [if_neg h, out_n h]
theorem inL {f : Nat} {σ : qMem} {x : Int32} {a b : Int64} : p_M_in f σ x.toInt64 a b = some (@ite Int32 (rg x a.toInt b.toInt) (Classical.propDecidable _) 1 0) := by
  by_cases h : rg x a.toInt b.toInt
  · rw [if_pos h, in_pi h]
  · rw [if_neg h, in_ni h]
theorem noDayL {f : Nat} {σ : qMem} {x : Int32} : p_C_noDay f σ x = some (@ite Int32 (rg x 0 9999) (Classical.propDecidable _) 0 1) := by
  by_cases h : rg x 0 9999
  · rw [if_pos h, noDay_p h]
  · rw [if_neg h, noDay_n h]
theorem isDayL {f : Nat} {σ : qMem} {x : Int32} : p_M_isDay f σ x = some (@ite Int32 (rg x 0 9999) (Classical.propDecidable _) 1 0) := by
  by_cases h : rg x 0 9999
  · rw [if_pos h, isDay_p h]
  · rw [if_neg h, isDay_n h]
theorem noHouseL {f : Nat} {σ : qMem} {x : Int32} : p_C_noHouse f σ x = some (@ite Int32 (rg x 0 5) (Classical.propDecidable _) 0 1) := by
  by_cases h : rg x 0 5
  · rw [if_pos h, (house_p h).1]
  · rw [if_neg h, (house_n h).1]
theorem isHouseL {f : Nat} {σ : qMem} {x : Int32} : p_M_isHouse f σ x = some (@ite Int32 (rg x 0 5) (Classical.propDecidable _) 1 0) := by
  by_cases h : rg x 0 5
  · rw [if_pos h, (house_p h).2]
  · rw [if_neg h, (house_n h).2]
theorem noYearL {f : Nat} {σ : qMem} {x : Int32} : p_C_noYear f σ x = some (@ite Int32 (rg x 0 27) (Classical.propDecidable _) 0 1) := by
  by_cases h : rg x 0 27
  · rw [if_pos h, (year_p h).1]
  · rw [if_neg h, (year_n h).1]
theorem isYearL {f : Nat} {σ : qMem} {x : Int32} : p_M_isYear f σ x = some (@ite Int32 (rg x 0 27) (Classical.propDecidable _) 1 0) := by
  by_cases h : rg x 0 27
  · rw [if_pos h, (year_p h).2]
  · rw [if_neg h, (year_n h).2]
theorem noSheetL {f : Nat} {σ : qMem} {x : Int32} : p_Sheets_noSuch f σ x = some (@ite Int32 (rg x 0 7) (Classical.propDecidable _) 0 1) := by
  unfold p_Sheets_noSuch
  rw [outL, Option.bind_some, show rg x (0 : Int32).toInt (7 : Int32).toInt = rg x 0 7 from rfl]
  by_cases h : rg x 0 7
  · rw [if_pos h, zn_0]
  · rw [if_neg h, zn_1]
theorem isSheetL {f : Nat} {σ : qMem} {x : Int32} : p_M_isSheet f σ x = some (@ite Int32 (rg x 0 7) (Classical.propDecidable _) 1 0) := by
  unfold p_M_isSheet
  rw [inL, Option.bind_some, show rg x (0 : Int64).toInt (7 : Int64).toInt = rg x 0 7 from rfl]
  by_cases h : rg x 0 7
  · rw [if_pos h, zn_1]
  · rw [if_neg h, zn_0]
theorem isPriestL {f : Nat} {σ : qMem} {x : Int32} : p_M_isPriest f σ x = some (@ite Int32 (rg x 0 7) (Classical.propDecidable _) 1 0) := by
  unfold p_M_isPriest
  rw [inL, Option.bind_some, show rg x (0 : Int64).toInt (7 : Int64).toInt = rg x 0 7 from rfl]
  by_cases h : rg x 0 7
  · rw [if_pos h, zn_1]
  · rw [if_neg h, zn_0]
theorem rg_p {x : Int32} {n : Nat} (h : rg x 0 ((n : Int) - 1)) (hn : n ≤ 1000) : ∃ p : Nat, p < n ∧ x = nI p := by
  obtain ⟨k, hk, rfl⟩ := rg_nat (b := 2147483647) ⟨h.1, by have := h.2; omega⟩
  have := h.2
  rw [nI_toInt (by omega)] at this
  exact ⟨k, by omega, rfl⟩
theorem hasL {f : Nat} {σ : qMem} {x : Int32} {n : Nat} (hn : σ 13 1 = nI n) (hn2 : n ≤ 12) : p_Promises_has f σ x = some (@ite Int32 (rg x 0 ((n : Int) - 1)) (Classical.propDecidable _) 1 0) := by
  by_cases h : rg x 0 ((n : Int) - 1)
  · obtain ⟨p, hp, rfl⟩ := rg_p h (by omega)
    rw [if_pos h, has_p hn hn2 hp]
  · rw [if_neg h, has_n hn hn2 h]
theorem isPL {f : Nat} {σ : qMem} {x : Int32} {n : Nat} (hn : σ 104 5 = nI n) (hn2 : n ≤ 12) : p_M_isPromise f σ x = some (@ite Int32 (rg x 0 ((n : Int) - 1)) (Classical.propDecidable _) 1 0) := by
  by_cases h : rg x 0 ((n : Int) - 1)
  · obtain ⟨p, hp, rfl⟩ := rg_p h (by omega)
    rw [if_pos h, isP_p hn hn2 hp]
  · rw [if_neg h, isP_n hn hn2 h]
theorem upd_id {g : Nat → Int32} {j : Nat} : upd g j (g j) = g := by
  funext b
  unfold upd
  by_cases h : b = j
  · rw [if_pos h, h]
  · rw [if_neg h]
theorem badW {pc : Option (Int32 × qMem)} {pm : qMem → Option (Int32 × qMem)} {σ : qMem} {r : Int32} (h : Inv σ) (h1 : pc = some (r, σ)) (h2 : pm σ = some (r, qmu σ 104 0 0)) : PairW pc pm := ⟨r, σ, _, h1, h2, h.thr 0⟩
theorem badR {pc : Option Int32} {pm : Option (Int32 × qMem)} {σ : qMem} {r : Int32} (h : Inv σ) (h1 : pc = some r) (h2 : pm = some (r, qmu σ 104 0 0)) : PairR pc pm := ⟨r, _, h1, h2, h.thr 0⟩
theorem Inv.tr {σ : qMem} (h : Inv σ) : g_tr σ := h.1
theorem Inv.dy {σ : qMem} (h : Inv σ) : g_dy σ := h.2.1
theorem Inv.fi {σ : qMem} (h : Inv σ) : g_fi σ := h.2.2.1
theorem Inv.sh {σ : qMem} (h : Inv σ) : g_sh σ := h.2.2.2.2.1
theorem Inv.pr {σ : qMem} (h : Inv σ) : g_pr σ := h.2.2.2.2.2.1
theorem Inv.tp {σ : qMem} (h : Inv σ) : g_tp σ := h.2.2.2.2.2.2.1
theorem Inv.vo {σ : qMem} (h : Inv σ) : g_vo σ := h.2.2.2.2.2.2.2.1
theorem Inv.si {σ : qMem} (h : Inv σ) : g_si σ := h.2.2.2.2.2.2.2.2.1
theorem Inv.ac {σ : qMem} (h : Inv σ) : g_ac σ := h.2.2.2.2.2.2.2.2.2.1
theorem Inv.ho {σ : qMem} (h : Inv σ) : g_ho σ := h.2.2.2.2.2.2.2.2.2.2.1
theorem Inv.re {σ : qMem} (h : Inv σ) : g_re σ := h.2.2.2.2.2.2.2.2.2.2.2.1
theorem Inv.em {σ : qMem} (h : Inv σ) : g_em σ := h.2.2.2.2.2.2.2.2.2.2.2.2.1
theorem Inv.bi {σ : qMem} (h : Inv σ) : g_bi σ := h.2.2.2.2.2.2.2.2.2.2.2.2.2.1
theorem Inv.pc {σ : qMem} (h : Inv σ) : g_pc σ := h.2.2.2.2.2.2.2.2.2.2.2.2.2.2.1
theorem Inv.na {σ : qMem} (h : Inv σ) : g_na σ := h.2.2.2.2.2.2.2.2.2.2.2.2.2.2.2.1
theorem Inv.fe {σ : qMem} (h : Inv σ) : g_fe σ := h.2.2.2.2.2.2.2.2.2.2.2.2.2.2.2.2.1
theorem Inv.jo {σ : qMem} (h : Inv σ) : g_jo σ := h.2.2.2.2.2.2.2.2.2.2.2.2.2.2.2.2.2.1
theorem Inv.li {σ : qMem} (h : Inv σ) : g_li σ := h.2.2.2.2.2.2.2.2.2.2.2.2.2.2.2.2.2.2
theorem in_zero {f : Nat} {σ : qMem} : p_M_in f σ (0 : Int64) 0 1 = some 1 := in_p (by decide) (by decide)
theorem in_one {f : Nat} {σ : qMem} : p_M_in f σ (1 : Int64) 0 1 = some 1 := in_p (by decide) (by decide)
/-! house, bid, empty, trace, taken -/
theorem house_ok {f : Nat} {σ : qMem} (h : Inv σ) (x y z : Int32) : PairW (p_C_house f σ x y z) (fun s => p_M_house f s x y z) := by
  obtain ⟨a1, a2⟩ := h.ho
  by_cases c1 : rg x 0 5
  · by_cases c2 : rg y 0 1
    · obtain ⟨k, hk, rfl⟩ := rg_nat (b := 5) c1
      have hq := qin_nI (k := k) (n := 6) (by omega) (by omega)
      have hi : (nI k).toNatClampNeg = k := qi_nI (by omega)
      by_cases c0 : y = 0
      · subst c0
        by_cases c3 : rg z 0 10000
        · refine ⟨σ 54 k, qmu σ 54 k z, qmu (qmu (qmu (qmu σ 54 k z) 104 0 0) 124 k z) 125 k (σ 125 k), ?_, ?_, ?_⟩
          · simp [p_C_house, p_C_house_b30, noHouseL, outL, c1, c2, c3, p_Houses_changeRent, hq, hi]
          · simp [p_M_house, p_M_house_b38, p_M_house_b66, p_M_house_b87, isHouseL, inL, in_zero, c1, c2, c3, hq, hi, mu_c, a1]
          · refine h.u_ho (by repeat (first | exact agr_rf | refine agr_mu ?_ (by unfold P_ho; omega))) ⟨by simp [mu_c, a1], by simp [mu_c, a2, upd_id]⟩
        · refine badW (r := -1000001) h ?_ ?_
          · simp [p_C_house, p_C_house_b30, noHouseL, outL, c1, c2, c3]
          · simp [p_M_house, p_M_house_b38, isHouseL, inL, in_zero, c1, c2, c3]
      · have cy : y = 1 := by
          obtain ⟨j, hj, rfl⟩ := rg_nat (b := 1) c2
          have : j ≠ 0 := fun e => c0 (by rw [e]; rfl)
          rw [show j = 1 by omega]; rfl
        subst cy
        by_cases c3 : rg z 0 100
        · refine ⟨σ 55 k, qmu σ 55 k z, qmu (qmu (qmu (qmu σ 55 k z) 104 0 0) 124 k (σ 124 k)) 125 k z, ?_, ?_, ?_⟩
          · simp [p_C_house, p_C_house_b30, noHouseL, outL, c1, c2, c3, p_Houses_changeShrink, hq, hi]
          · simp [p_M_house, p_M_house_b38, p_M_house_b66, p_M_house_b87, isHouseL, inL, in_one, c1, c2, c3, hq, hi, mu_c, a2]
          · refine h.u_ho (by repeat (first | exact agr_rf | refine agr_mu ?_ (by unfold P_ho; omega))) ⟨by simp [mu_c, a1, upd_id], by simp [mu_c, a2]⟩
        · refine badW (r := -1000001) h ?_ ?_
          · simp [p_C_house, p_C_house_b30, noHouseL, outL, c1, c2, c3]
          · simp [p_M_house, p_M_house_b38, isHouseL, inL, in_one, c1, c2, c3]
    · refine badW (r := -1000001) h ?_ ?_
      · simp [p_C_house, noHouseL, outL, c1, c2]
      · simp [p_M_house, isHouseL, inL, c1, c2]
  · refine badW (r := -1000001) h ?_ ?_
    · simp [p_C_house, noHouseL, outL, c1]
    · simp [p_M_house, isHouseL, inL, c1]
theorem bid_ok {f : Nat} {σ : qMem} (h : Inv σ) (x y z : Int32) : PairW (p_C_bid f σ x y z) (fun s => p_M_bid f s x y z) := by
  obtain ⟨a1, a2, a3, n, hn, e1, e2, hr⟩ := h.bi
  by_cases c1 : rg x 0 5
  · by_cases c2 : rg y 0 9
    · by_cases c3 : rg z 1 100000
      · by_cases c4 : n < 20
        · have hq := qin_nI (k := n) (n := 20) c4 (by omega)
          have hi : (nI n).toNatClampNeg = n := qi_nI (by omega)
          have hne : ¬ nI n = 20 := fun e => by have := (full20 hn).2.mp e; omega
          have hlt : nI n < 20 := (full20 hn).1.mpr c4
          refine ⟨nI (n + 1), qmu (qmu (qmu (qmu σ 63 n x) 64 n y) 65 n z) 53 10 (nI (n + 1)), qmu (qmu (qmu (qmu (qmu (qmu (qmu (qmu (qmu σ 63 n x) 64 n y) 65 n z) 53 10 (nI (n + 1))) 104 0 0) 140 n x) 141 n y) 142 n z) 104 55 (nI (n + 1)), ?_, ?_, ?_⟩
          · simp [p_C_bid, noHouseL, outL, c1, c2, c3, p_Houses_bidsFull, p_Houses_addBid, e1, hlt, hq, hi, mu_c, nI_1, upd]
          · simp [p_M_bid, isHouseL, inL, c1, c2, c3, e2, hne, hq, hi, mu_c, nI_1, upd]
          · refine h.u_bi (by repeat (first | exact agr_rf | refine agr_mu ?_ (by unfold P_bi; omega))) ⟨by simp [mu_c, a1], by simp [mu_c, a2], by simp [mu_c, a3], n + 1, by omega, by simp [mu_c, upd], by simp [mu_c, upd], ?_⟩
            intro i hi2
            by_cases ci : i = n
            · simp [mu_c, upd, ci, c2, c3]
            · simp [mu_c, upd, ci, hr i (by omega)]
        · have hn20 : nI n = 20 := (full20 hn).2.mpr (by omega)
          refine badW (r := -1000003) h ?_ ?_
          · simp [p_C_bid, noHouseL, outL, c1, c2, c3, p_Houses_bidsFull, e1, hn20]
          · simp [p_M_bid, isHouseL, inL, c1, c2, c3, mu_c, upd, e2, hn20]
      · refine badW (r := -1000001) h ?_ ?_
        · simp [p_C_bid, noHouseL, outL, c1, c2, c3]
        · simp [p_M_bid, isHouseL, inL, c1, c2, c3]
    · refine badW (r := -1000001) h ?_ ?_
      · simp [p_C_bid, noHouseL, outL, c1, c2]
      · simp [p_M_bid, isHouseL, inL, c1, c2]
  · refine badW (r := -1000001) h ?_ ?_
    · simp [p_C_bid, noHouseL, outL, c1]
    · simp [p_M_bid, isHouseL, inL, c1]
theorem noSpanL {f : Nat} {σ : qMem} {x y : Int32} : p_C_noSpan f σ x y = some (@ite Int32 (rg x 0 9999 ∧ rg y x.toInt 9999) (Classical.propDecidable _) 0 1) := by
  unfold p_C_noSpan
  by_cases c1 : rg x 0 9999
  · by_cases c2 : rg y x.toInt 9999
    · simp [noDayL, outL, c1, c2]
    · simp [noDayL, outL, c1, c2]
  · simp [noDayL, c1]
theorem span_nI {x y : Int32} (c1 : rg x 0 9999) (c2 : rg y x.toInt 9999) : ∃ a b : Nat, a ≤ b ∧ b ≤ 9999 ∧ x = nI a ∧ y = nI b := by
  obtain ⟨a, ha, rfl⟩ := rg_nat (b := 9999) c1
  rw [nI_toInt (by omega)] at c2
  obtain ⟨b, hb, rfl⟩ := rg_nat (b := 9999) ⟨by have := c2.1; omega, c2.2⟩
  have := c2.1
  rw [nI_toInt (by omega)] at this
  exact ⟨a, b, by omega, hb, rfl, rfl⟩
theorem empty_ok {f : Nat} {σ : qMem} (h : Inv σ) (x y z : Int32) : PairW (p_C_empty f σ x y z) (fun s => p_M_empty f s x y z) := by
  obtain ⟨a1, a2, a3, n, hn, e1, e2, hr⟩ := h.em
  by_cases c1 : rg x 0 5
  · by_cases c2 : rg y 0 9999
    · by_cases c3 : rg z y.toInt 9999
      · by_cases c4 : n < 20
        · have hq := qin_nI (k := n) (n := 20) c4 (by omega)
          have hi : (nI n).toNatClampNeg = n := qi_nI (by omega)
          have hne : ¬ nI n = 20 := fun e => by have := (full20 hn).2.mp e; omega
          have hlt : nI n < 20 := (full20 hn).1.mpr c4
          refine ⟨nI (n + 1), qmu (qmu (qmu (qmu σ 60 n x) 61 n y) 62 n z) 59 3 (nI (n + 1)), qmu (qmu (qmu (qmu (qmu (qmu (qmu (qmu (qmu σ 60 n x) 61 n y) 62 n z) 59 3 (nI (n + 1))) 104 0 0) 129 n x) 130 n y) 131 n z) 104 42 (nI (n + 1)), ?_, ?_, ?_⟩
          · simp [p_C_empty, noHouseL, noSpanL, c1, c2, c3, p_Houses_emptiesFull, p_Spans_full_59, p_Houses_addEmpty, p_Spans_add_59, e1, hlt, hq, hi, mu_c, nI_1, upd, zn_0]
          · simp [p_M_empty, isHouseL, isDayL, inL, c1, c2, c3, e2, hne, hq, hi, mu_c, nI_1, upd]
          · refine h.u_em (by repeat (first | exact agr_rf | refine agr_mu ?_ (by unfold P_em; omega))) ⟨by simp [mu_c, a1], by simp [mu_c, a2], by simp [mu_c, a3], n + 1, by omega, by simp [mu_c, upd], by simp [mu_c, upd], ?_⟩
            intro i hi2
            by_cases ci : i = n
            · simp [mu_c, upd, ci, span_nI c2 c3]
            · simp [mu_c, upd, ci, hr i (by omega)]
        · have hn20 : nI n = 20 := (full20 hn).2.mpr (by omega)
          refine badW (r := -1000003) h ?_ ?_
          · simp [p_C_empty, noHouseL, noSpanL, c1, c2, c3, p_Houses_emptiesFull, p_Spans_full_59, e1, hn20, zn_1]
          · simp [p_M_empty, isHouseL, isDayL, inL, c1, c2, c3, mu_c, upd, e2, hn20]
      · refine badW (r := -1000001) h ?_ ?_
        · simp [p_C_empty, noHouseL, noSpanL, c1, c2, c3]
        · simp [p_M_empty, isHouseL, isDayL, inL, c1, c2, c3]
    · refine badW (r := -1000001) h ?_ ?_
      · simp [p_C_empty, noHouseL, noSpanL, c1, c2]
      · simp [p_M_empty, isHouseL, isDayL, inL, c1, c2]
  · refine badW (r := -1000001) h ?_ ?_
    · simp [p_C_empty, noHouseL, c1]
    · simp [p_M_empty, isHouseL, c1]
theorem trace_ok {f : Nat} {σ : qMem} (h : Inv σ) (x : Int32) : PairR (p_C_trace f σ x) (p_M_trace f σ x) := by
  obtain ⟨a1, n, hn, e1, e2⟩ := h.tr
  by_cases c1 : rg x 0 ((n : Int) - 1)
  · obtain ⟨k, hk, rfl⟩ := rg_p c1 (by omega)
    have hq := qin_nI (k := k) (n := 16) (by omega) (by omega)
    have hi : (nI k).toNatClampNeg = k := qi_nI (by omega)
    refine badR (r := σ 103 k) h ?_ ?_
    · simp [p_C_trace, outL, e1, nI_m1 (show n ≤ 1000 by omega), c1, hq, hi]
    · simp [p_M_trace, inL, mu_c, upd, e2, nI_m1 (show n ≤ 1000 by omega), c1, hq, hi, a1]
  · refine badR (r := -1000000) h ?_ ?_
    · simp [p_C_trace, outL, e1, nI_m1 (show n ≤ 1000 by omega), c1]
    · simp [p_M_trace, inL, mu_c, upd, e2, nI_m1 (show n ≤ 1000 by omega), c1]
theorem Inv.pn {σ : qMem} (h : Inv σ) : ∃ n : Nat, n ≤ 12 ∧ σ 13 1 = nI n ∧ σ 104 5 = nI n := by
  obtain ⟨n, h1, h2, h3, -⟩ := h.pr
  exact ⟨n, h1, h2, h3⟩
theorem Inv.an {σ : qMem} (h : Inv σ) : ∃ n : Nat, n ≤ 10 ∧ σ 37 5 = nI n := by
  obtain ⟨-, -, -, -, n, h1, h2, -⟩ := h.ac
  exact ⟨n, h1, h2⟩
theorem taken_ok {f : Nat} {σ : qMem} (h : Inv σ) (hf : 100 < f) (x : Int32) : PairR (p_C_taken f σ x) (p_M_taken f σ x) := by
  obtain ⟨n, hn, e1, e2⟩ := h.pn
  obtain ⟨nA, hA, eA⟩ := h.an
  have hp : (qmu σ 104 0 0) 104 5 = nI n := thr_pr e2
  by_cases c1 : rg x 0 ((n : Int) - 1)
  · obtain ⟨p, hp', rfl⟩ := rg_p c1 (by omega)
    have h' := h.thr 0
    have hd := dayT_m (f := f) (p := p) h'.ac (h'.pr.row (n := n) (by rw [mu_k (by decide)]; exact e1) hn hp') (by omega) (n := nA) (by rw [mu_k (by decide)]; exact eA) hA hf
    have hd2 := dayT_c (f := f) (σ := σ) (p := p) (by omega) eA hA hf
    have e3 : tkN (qmu σ 104 0 0) p nA 0 (-1000000) = tkN σ p nA 0 (-1000000) := tkN_cg (by funext j; exact mu_k (by omega)) (by funext j; exact mu_k (by omega)) (by funext j; exact mu_k (by omega)) (by funext j; exact mu_k (by omega)) (by funext j; exact mu_k (by omega)) _ _ _
    refine badR (r := tkN σ p nA 0 (-1000000)) h ?_ ?_
    · simp [p_C_taken, hasL e1 hn, c1, hd2]
    · simp [p_M_taken, isPL hp hn, c1, hd, e3]
  · refine badR (r := -1000001) h ?_ ?_
    · simp [p_C_taken, hasL e1 hn, c1]
    · simp [p_M_taken, isPL hp hn, c1]
