/-! the simple calls -/
theorem bad_ne : ¬ ((1 : Int32) = 0) := by decide
theorem fault_ok {f : Nat} {σ : qMem} (h : Inv σ) : PairR (p_C_fault f σ) (p_M_fault f σ) := by
  obtain ⟨h1, h2, h3, h4, h5⟩ := id h
  refine ⟨σ 27 2, qmu σ 104 0 0, rfl, ?_, h.thr 0⟩
  unfold p_M_fault
  rw [mu_j (by decide), ← h4]
theorem status_ok {f : Nat} {σ : qMem} (h : Inv σ) : PairR (p_C_status f σ) (p_M_status f σ) := by
  obtain ⟨h1, h2, h3, h4, h5⟩ := id h
  refine ⟨σ 0 16, qmu σ 104 0 0, rfl, ?_, h.thr 0⟩
  unfold p_M_status
  rw [mu_j (by decide), ← h3]
theorem thr_pr {σ : qMem} {n : Nat} (hn : σ 104 5 = nI n) : (qmu σ 104 0 0) 104 5 = nI n := by rw [mu_j (by decide)]; exact hn
theorem told_ok {f : Nat} {σ : qMem} (h : Inv σ) (x1 x2 : Int32) : PairR (p_C_told f σ x1 x2) (p_M_told f σ x1 x2) := by
  obtain ⟨h1, h2, h3, h4, h5, h6, h7⟩ := id h
  obtain ⟨n, hn, e1, e2, hr⟩ := h6
  have e2' := thr_pr e2
  unfold p_C_told p_M_told
  by_cases c1 : rg x1 0 ((n : Int) - 1)
  · obtain ⟨p, hp, rfl⟩ : ∃ p : Nat, p < n ∧ x1 = nI p := by
      obtain ⟨k, hk, rfl⟩ := rg_nat (b := 2147483647) ⟨c1.1, by have := c1.2; omega⟩
      have := c1.2
      rw [nI_toInt (by omega)] at this
      exact ⟨k, by omega, rfl⟩
    rw [has_p e1 hn hp, Option.bind_some, isP_p e2' hn hp, Option.bind_some, if_neg bad_ne, if_neg bad_ne]
    by_cases c2 : rg x2 0 10
    · obtain ⟨j, hj, rfl⟩ := rg_nat (b := 10) c2
      rw [out_p (by exact c2), in_pi (by exact c2), Option.bind_some, Option.bind_some, if_pos rfl, if_neg bad_ne, of_c (by omega) (by omega), of_m (by omega) (by omega), Option.bind_some, Option.bind_some]
      refine ⟨_, _, rfl, ?_, h.thr 0⟩
      rw [mu_k (by decide), (hr p hp j (by omega)).1]
    · rw [out_n (by exact c2), in_ni (by exact c2), Option.bind_some, Option.bind_some, if_neg bad_ne, if_pos rfl]
      exact ⟨_, _, rfl, rfl, h.thr 0⟩
  · rw [has_n e1 hn c1, isP_n e2' hn c1, Option.bind_some, Option.bind_some, if_pos rfl, if_pos rfl]
    exact ⟨_, _, rfl, rfl, h.thr 0⟩
theorem house_p {f : Nat} {σ : qMem} {x : Int32} (h : rg x 0 5) : p_C_noHouse f σ x = some 0 ∧ p_M_isHouse f σ x = some 1 := by
  unfold p_C_noHouse p_M_isHouse
  rw [out_p (by exact h), in_pi (by exact h), Option.bind_some, Option.bind_some, zn_0, zn_1]
  exact ⟨rfl, rfl⟩
theorem house_n {f : Nat} {σ : qMem} {x : Int32} (h : ¬ rg x 0 5) : p_C_noHouse f σ x = some 1 ∧ p_M_isHouse f σ x = some 0 := by
  unfold p_C_noHouse p_M_isHouse
  rw [out_n (by exact h), in_ni (by exact h), Option.bind_some, Option.bind_some, zn_0, zn_1]
  exact ⟨rfl, rfl⟩
theorem year_p {f : Nat} {σ : qMem} {x : Int32} (h : rg x 0 27) : p_C_noYear f σ x = some 0 ∧ p_M_isYear f σ x = some 1 := by
  unfold p_C_noYear p_M_isYear
  rw [out_p (by exact h), in_pi (by exact h), Option.bind_some, Option.bind_some, zn_0, zn_1]
  exact ⟨rfl, rfl⟩
theorem year_n {f : Nat} {σ : qMem} {x : Int32} (h : ¬ rg x 0 27) : p_C_noYear f σ x = some 1 ∧ p_M_isYear f σ x = some 0 := by
  unfold p_C_noYear p_M_isYear
  rw [out_n (by exact h), in_ni (by exact h), Option.bind_some, Option.bind_some, zn_0, zn_1]
  exact ⟨rfl, rfl⟩
theorem addRepair_c {f n : Nat} {σ : qMem} {x y z : Int32} (hn : σ 53 5 = nI n) (hl : n < 20) : p_Houses_addRepair f σ x y z = some (nI (n + 1), qmu (qmu (qmu (qmu σ 56 n x) 57 n y) 58 n z) 53 5 (nI (n + 1))) := by
  have hq := qin_nI (k := n) (n := 20) hl (by omega)
  have hi : (nI n).toNatClampNeg = n := qi_nI (by omega)
  simp [p_Houses_addRepair, mu_c, hn, hq, hi, nI_1, upd]
theorem repair_m {f n : Nat} {σ : qMem} {x y z : Int32} (hn : σ 104 38 = nI n) (hl : n < 20) (c1 : rg x 0 5) (c2 : rg y 0 27) (c3 : rg z 1 10000) : p_M_repair f σ x y z = some (nI (n + 1), qmu (qmu (qmu (qmu (qmu σ 104 0 0) 126 n x) 127 n y) 128 n z) 104 38 (nI (n + 1))) := by
  have hq := qin_nI (k := n) (n := 20) hl (by omega)
  have hi : (nI n).toNatClampNeg = n := qi_nI (by omega)
  have hne : ¬ nI n = 20 := fun e => by have := (nI_eq (a := n) (b := 20) (by omega) (by omega)).mp e; omega
  simp [p_M_repair, (house_p c1).2, (year_p c2).2, in_pi (show rg z (1 : Int64).toInt (10000 : Int64).toInt from c3), mu_c, hn, hq, hi, nI_1, upd, hne]
