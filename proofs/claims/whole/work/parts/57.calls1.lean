/-! day, price, house, repair, bid, empty, trace, taken -/
theorem day_ok {f : Nat} {σ : qMem} (h : Inv σ) (x : Int32) : PairW (p_C_day f σ x) (fun s => p_M_day f s x) := by
  have hh := h
  obtain ⟨-, ⟨d, hd, e1, e2⟩, -⟩ := hh
  by_cases c : rg x 0 9999
  · refine ⟨nI d, qmu σ 0 15 x, qmu (qmu (qmu σ 0 15 x) 104 0 0) 104 62 x, ?_, ?_, ?_⟩
    · simp [p_C_day, noDay_p c, e1]
    · simp [p_M_day, isDay_p c, mu_c, upd, e2]
    · refine h.u_dy (agr_mu (agr_mu (agr_mu agr_rf (by unfold P_dy; omega)) (by unfold P_dy; omega)) (by unfold P_dy; omega)) ?_
      obtain ⟨k, hk, rfl⟩ := rg_nat (b := 9999) c
      exact ⟨k, hk, by simp [mu_c, upd], by simp [mu_c, upd]⟩
  · refine ⟨-1000001, σ, qmu σ 104 0 0, ?_, ?_, h.thr 0⟩
    · simp [p_C_day, noDay_n c]
    · simp [p_M_day, isDay_n c]
theorem price_ok {f : Nat} {σ : qMem} (h : Inv σ) (x y : Int32) : PairW (p_C_price f σ x y) (fun s => p_M_price f s x y) := by
  have hp : σ 66 = σ 132 := h.2.2.2.2.2.2.2.2.2.2.2.2.2.2.1
  by_cases c : rg x 0 2
  · obtain ⟨k, hk, rfl⟩ := rg_nat (b := 2) c
    have hq := qin_nI (k := k) (n := 3) (by omega) (by omega)
    have hi : (nI k).toNatClampNeg = k := qi_nI (by omega)
    have key : ∀ (a : Int32) (b : Int64), a.toInt = b.toInt → PairW (p_C_price_b23 f σ (nI k) y y 0 a) (fun s => p_M_price_b33 f (qmu s 104 0 0) (nI k) y y.toInt64 0 b) := by
      intro a b hab
      by_cases c2 : rg y 0 a.toInt
      · refine ⟨σ 66 k, qmu σ 66 k y, qmu (qmu (qmu σ 66 k y) 104 0 0) 132 k y, ?_, ?_, ?_⟩
        · simp [p_C_price_b23, out_p (show rg y (0 : Int32).toInt a.toInt from c2), hq, hi]
        · simp [p_M_price_b33, in_pi (show rg y (0 : Int64).toInt b.toInt from by rw [← hab]; exact c2), hq, hi, mu_c, hp]
        · refine h.u_pc (agr_mu (agr_mu (agr_mu agr_rf (by unfold P_pc; omega)) (by unfold P_pc; omega)) (by unfold P_pc; omega)) ?_
          simp [g_pc, mu_c, hp]
      · refine ⟨-1000001, σ, qmu σ 104 0 0, ?_, ?_, h.thr 0⟩
        · simp [p_C_price_b23, out_n (show ¬ rg y (0 : Int32).toInt a.toInt from c2)]
        · simp [p_M_price_b33, in_ni (show ¬ rg y (0 : Int64).toInt b.toInt from by rw [← hab]; exact c2)]
    unfold p_C_price p_M_price
    by_cases c0 : nI k = 0
    · simp only [out_p (show rg (nI k) (0 : Int32).toInt (2 : Int32).toInt from c), in_pi (show rg (nI k) (0 : Int64).toInt (2 : Int64).toInt from c), Option.bind_some, if_pos c0, if_neg bad_ne, if_true]
      exact key 10000 10000 rfl
    · simp only [out_p (show rg (nI k) (0 : Int32).toInt (2 : Int32).toInt from c), in_pi (show rg (nI k) (0 : Int64).toInt (2 : Int64).toInt from c), Option.bind_some, if_neg c0, if_neg bad_ne, if_true]
      exact key 99 99 rfl
  · refine ⟨-1000001, σ, qmu σ 104 0 0, ?_, ?_, h.thr 0⟩
    · simp [p_C_price, out_n (show ¬ rg x (0 : Int32).toInt (2 : Int32).toInt from c)]
    · simp [p_M_price, in_ni (show ¬ rg x (0 : Int64).toInt (2 : Int64).toInt from c)]
theorem full20 {n : Nat} (hn : n ≤ 20) : (nI n < 20 ↔ n < 20) ∧ (nI n = 20 ↔ n = 20) := ⟨nI_ltI (a := n) (b := 20) (by omega) (by omega), nI_eq (a := n) (b := 20) (by omega) (by omega)⟩
theorem repair_ok {f : Nat} {σ : qMem} (h : Inv σ) (x y z : Int32) : PairW (p_C_repair f σ x y z) (fun s => p_M_repair f s x y z) := by
  have hg : g_re σ := h.2.2.2.2.2.2.2.2.2.2.2.1
  obtain ⟨a1, a2, a3, n, hn, e1, e2⟩ := hg
  by_cases c1 : rg x 0 5
  · by_cases c2 : rg y 0 27
    · by_cases c3 : rg z 1 10000
      · by_cases c4 : n < 20
        · refine ⟨nI (n + 1), qmu (qmu (qmu (qmu σ 56 n x) 57 n y) 58 n z) 53 5 (nI (n + 1)), qmu (qmu (qmu (qmu (qmu (qmu (qmu (qmu (qmu σ 56 n x) 57 n y) 58 n z) 53 5 (nI (n + 1))) 104 0 0) 126 n x) 127 n y) 128 n z) 104 38 (nI (n + 1)), ?_, repair_m (n := n) (by simp [mu_c, e2]) c4 c1 c2 c3, ?_⟩
          · simp [p_C_repair, (house_p c1).1, (year_p c2).1, out_p (show rg z (1 : Int32).toInt (10000 : Int32).toInt from c3), p_Houses_repairsFull, e1, (full20 hn).1, c4, addRepair_c e1 c4]
          · refine h.u_re (by repeat (first | exact agr_rf | refine agr_mu ?_ (by unfold P_re; omega))) ⟨by simp [mu_c, a1], by simp [mu_c, a2], by simp [mu_c, a3], n + 1, by omega, by simp [mu_c, upd], by simp [mu_c, upd]⟩
        · have hn20 : nI n = 20 := (full20 hn).2.mpr (by omega)
          refine ⟨-1000003, σ, qmu σ 104 0 0, ?_, ?_, h.thr 0⟩
          · simp [p_C_repair, (house_p c1).1, (year_p c2).1, out_p (show rg z (1 : Int32).toInt (10000 : Int32).toInt from c3), p_Houses_repairsFull, e1, (full20 hn).1, c4]
          · simp [p_M_repair, (house_p c1).2, (year_p c2).2, in_pi (show rg z (1 : Int64).toInt (10000 : Int64).toInt from c3), mu_c, upd, e2, hn20]
      · refine ⟨-1000001, σ, qmu σ 104 0 0, ?_, ?_, h.thr 0⟩
        · simp [p_C_repair, (house_p c1).1, (year_p c2).1, out_n (show ¬ rg z (1 : Int32).toInt (10000 : Int32).toInt from c3)]
        · simp [p_M_repair, (house_p c1).2, (year_p c2).2, in_ni (show ¬ rg z (1 : Int64).toInt (10000 : Int64).toInt from c3)]
    · refine ⟨-1000001, σ, qmu σ 104 0 0, ?_, ?_, h.thr 0⟩
      · simp [p_C_repair, (house_p c1).1, (year_n c2).1]
      · simp [p_M_repair, (house_p c1).2, (year_n c2).2]
  · refine ⟨-1000001, σ, qmu σ 104 0 0, ?_, ?_, h.thr 0⟩
    · simp [p_C_repair, (house_n c1).1]
    · simp [p_M_repair, (house_n c1).2]
