/-! the law: every script -/
theorem fl_k {σ : qMem} {k n : Nat} {v : Int32} {a b : Nat} (h : a ≠ k) : qfl σ k n v a b = σ a b := if_neg (fun w => h w.1)
theorem mu_z {σ : qMem} {k j a b : Nat} (h : σ a b = 0) : qmu σ k j 0 a b = 0 := by
  unfold qmu
  by_cases c : a = k ∧ b = j
  · rw [if_pos c]
  · rw [if_neg c]; exact h
theorem qF_0 {a b : Nat} (h : a ≠ 2 ∧ a ≠ 32 ∧ a ≠ 66 ∧ a ≠ 68 ∧ a ≠ 105 ∧ a ≠ 116 ∧ a ≠ 132) : qσF a b = 0 := by
  unfold qσF
  repeat (first | rw [mu_k (by omega)] | rw [fl_k (by omega)] | refine mu_z ?_)
theorem ql : qi (0 : Int32) = 0 ∧ qi (1 : Int32) = 1 ∧ qi (2 : Int32) = 2 ∧ qi (3 : Int32) = 3 ∧ qi (4 : Int32) = 4 ∧ qi (5 : Int32) = 5 ∧ qi (6 : Int32) = 6 ∧ qi (7 : Int32) = 7 := by decide
theorem mu_o {σ : qMem} {k j a b : Nat} {v : Int32} (h : b ≠ j) : qmu σ k j v a b = σ a b := if_neg (fun w => h w.2)
theorem fl_o {σ : qMem} {k n a b : Nat} {v : Int32} (h : ¬ b < n) : qfl σ k n v a b = σ a b := if_neg (fun w => h w.2)
theorem qF_8 {a b : Nat} (h : 8 ≤ b) (ha : a ≠ 68) : qσF a b = 0 := by
  obtain ⟨l0, l1, l2, l3, l4, l5, l6, l7⟩ := ql
  unfold qσF
  rw [l0, l1, l2, l3, l4, l5, l6, l7]
  repeat (first | rw [mu_o (by omega)] | refine mu_z ?_ | rw [fl_o (by omega)] | rw [fl_k ha])
theorem law_step {f L : Nat} {xs : Nat → Int32} (hf : 200000000 < f) (hL : L ≤ 3072) {σ : qMem} (h : Inv σ) {i : Nat} (hi : i + 6 ≤ L) {k : qMem → Int32 → Option Int32} (ih : ∀ σ', Inv σ' → k σ' (nI (i + 6)) = some 1) : p_law_l18 f xs L k σ (nI i) = some 1 := by
  have hx : ∀ j : Nat, j < 6 → qin (nI i + nI j) L = true := fun j hj => by rw [nI_add]; exact qin_nI (by omega) (by omega)
  have h1 : qin (nI i + 1) L = true := hx 1 (by omega)
  have h2 : qin (nI i + 2) L = true := hx 2 (by omega)
  have h3 : qin (nI i + 3) L = true := hx 3 (by omega)
  have h4 : qin (nI i + 4) L = true := hx 4 (by omega)
  have h5 : qin (nI i + 5) L = true := hx 5 (by omega)
  have h6 : nI i + 6 = nI (i + 6) := by rw [show (6 : Int32) = nI 6 from rfl, nI_add]
  have hlt : ¬ (Int32.ofNat L - 6) < nI i := by
    rw [i32_lt]
    have e : (Int32.ofNat L - 6).toInt = (L : Int) - 6 := pk_sub_toInt (a := L) (b := 6) (by omega) (by omega)
    rw [e, nI_toInt (by omega)]
    omega
  unfold p_law_l18
  rw [if_neg hlt, if_pos (qin_nI (by omega) (by omega))]
  by_cases c0 : xs (qi (nI i)) &&& 63 = 0
  · rw [if_pos c0]
    unfold p_law_b208
    obtain ⟨r, σ1, σ2, e1, e2, hI⟩ := sheet_ok (f := f) h (by omega) (xs (qi (nI i + (1 : Int32)))) (xs (qi (nI i + (2 : Int32)))) (xs (qi (nI i + (3 : Int32))))
    rw [if_pos h1, if_pos h2, if_pos h3, e1, Option.bind_some, if_pos h1, if_pos h2, if_pos h3]
    have e2' := e2
    rw [show p_M_sheet f σ1 (xs (qi (nI i + (1 : Int32)))) (xs (qi (nI i + (2 : Int32)))) (xs (qi (nI i + (3 : Int32)))) = some (r, σ2) from e2, Option.bind_some, if_pos rfl, h6]
    exact ih σ2 hI
  rw [if_neg c0]
  by_cases c1 : xs (qi (nI i)) &&& 63 = 1
  · rw [if_pos c1]
    unfold p_law_b251
    obtain ⟨r, σ1, σ2, e1, e2, hI⟩ := set_ok (f := f) h (xs (qi (nI i + (1 : Int32)))) (xs (qi (nI i + (2 : Int32)))) (xs (qi (nI i + (3 : Int32))))
    rw [if_pos h1, if_pos h2, if_pos h3, e1, Option.bind_some, if_pos h1, if_pos h2, if_pos h3]
    have e2' := e2
    rw [show p_M_set f σ1 (xs (qi (nI i + (1 : Int32)))) (xs (qi (nI i + (2 : Int32)))) (xs (qi (nI i + (3 : Int32)))) = some (r, σ2) from e2, Option.bind_some, if_pos rfl, h6]
    exact ih σ2 hI
  rw [if_neg c1]
  by_cases c2 : xs (qi (nI i)) &&& 63 = 2
  · rw [if_pos c2]
    unfold p_law_b294
    obtain ⟨r, σ1, σ2, e1, e2, hI⟩ := copy_ok (f := f) h (by omega) (xs (qi (nI i + (1 : Int32)))) (xs (qi (nI i + (2 : Int32)))) (xs (qi (nI i + (3 : Int32)))) (xs (qi (nI i + (4 : Int32)))) (xs (qi (nI i + (5 : Int32))))
    rw [if_pos h1, if_pos h2, if_pos h3, if_pos h4, if_pos h5, e1, Option.bind_some, if_pos h1, if_pos h2, if_pos h3, if_pos h4, if_pos h5]
    have e2' := e2
    rw [show p_M_copy f σ1 (xs (qi (nI i + (1 : Int32)))) (xs (qi (nI i + (2 : Int32)))) (xs (qi (nI i + (3 : Int32)))) (xs (qi (nI i + (4 : Int32)))) (xs (qi (nI i + (5 : Int32)))) = some (r, σ2) from e2, Option.bind_some, if_pos rfl, h6]
    exact ih σ2 hI
  rw [if_neg c2]
  by_cases c3 : xs (qi (nI i)) &&& 63 = 3
  · rw [if_pos c3]
    unfold p_law_b357
    obtain ⟨r, σ1, σ2, e1, e2, hI⟩ := drop_ok (f := f) h (xs (qi (nI i + (1 : Int32))))
    rw [if_pos h1, e1, Option.bind_some, if_pos h1]
    have e2' := e2
    rw [show p_M_drop f σ1 (xs (qi (nI i + (1 : Int32)))) = some (r, σ2) from e2, Option.bind_some, if_pos rfl, h6]
    exact ih σ2 hI
  rw [if_neg c3]
  by_cases c4 : xs (qi (nI i)) &&& 63 = 4
  · rw [if_pos c4]
    unfold p_law_b380
    obtain ⟨r, σ1, σ2, e1, e2, hI⟩ := feed_ok (f := f) h (by omega) ((((xs (qi (nI i + (1 : Int32))))).toInt64 <<< (((32 : Int32)).toInt64 &&& 63)) ||| (((xs (qi (nI i + (2 : Int32))))).toInt64 &&& (4294967295 : Int64))) (xs (qi (nI i + (3 : Int32))))
    rw [if_pos h1, if_pos h2, if_pos h3, e1, Option.bind_some, if_pos h1, if_pos h2, if_pos h3]
    have e2' := e2
    rw [show p_M_feed f σ1 ((((xs (qi (nI i + (1 : Int32))))).toInt64 <<< (((32 : Int32)).toInt64 &&& 63)) ||| (((xs (qi (nI i + (2 : Int32))))).toInt64 &&& (4294967295 : Int64))) (xs (qi (nI i + (3 : Int32)))) = some (r, σ2) from e2, Option.bind_some, if_pos rfl, h6]
    exact ih σ2 hI
  rw [if_neg c4]
  by_cases c5 : xs (qi (nI i)) &&& 63 = 5
  · rw [if_pos c5]
    unfold p_law_b443
    obtain ⟨r, σ1, σ2, e1, e2, hI⟩ := deeds_ok (f := f) h (by omega) 
    rw [e1, Option.bind_some]
    have e2' := e2
    rw [show p_M_deeds f σ1  = some (r, σ2) from e2, Option.bind_some, if_pos rfl, h6]
    exact ih σ2 hI
  rw [if_neg c5]
  by_cases c6 : xs (qi (nI i)) &&& 63 = 6
  · rw [if_pos c6]
    unfold p_law_b456
    obtain ⟨r, σ2, e1, e2, hI⟩ := fault_ok (f := f) h 
    rw [e1, Option.bind_some]
    have e2' := e2
    rw [show p_M_fault f σ  = some (r, σ2) from e2, Option.bind_some, if_pos rfl, h6]
    exact ih σ2 hI
  rw [if_neg c6]
  by_cases c7 : xs (qi (nI i)) &&& 63 = 7
  · rw [if_pos c7]
    unfold p_law_b469
    obtain ⟨r, σ2, e1, e2, hI⟩ := told_ok (f := f) h (xs (qi (nI i + (1 : Int32)))) (xs (qi (nI i + (2 : Int32))))
    rw [if_pos h1, if_pos h2, e1, Option.bind_some, if_pos h1, if_pos h2]
    have e2' := e2
    rw [show p_M_told f σ (xs (qi (nI i + (1 : Int32)))) (xs (qi (nI i + (2 : Int32)))) = some (r, σ2) from e2, Option.bind_some, if_pos rfl, h6]
    exact ih σ2 hI
  rw [if_neg c7]
  by_cases c8 : xs (qi (nI i)) &&& 63 = 8
  · rw [if_pos c8]
    unfold p_law_b502
    obtain ⟨r, σ1, σ2, e1, e2, hI⟩ := feast_ok (f := f) h (by omega) (xs (qi (nI i + (1 : Int32)))) (xs (qi (nI i + (2 : Int32))))
    rw [if_pos h1, if_pos h2, e1, Option.bind_some, if_pos h1, if_pos h2]
    have e2' := e2
    rw [show p_M_feast f σ1 (xs (qi (nI i + (1 : Int32)))) (xs (qi (nI i + (2 : Int32)))) = some (r, σ2) from e2, Option.bind_some, if_pos rfl, h6]
    exact ih σ2 hI
  rw [if_neg c8]
  by_cases c9 : xs (qi (nI i)) &&& 63 = 9
  · rw [if_pos c9]
    unfold p_law_b535
    obtain ⟨r, σ2, e1, e2, hI⟩ := count_ok (f := f) h (by omega) (xs (qi (nI i + (1 : Int32)))) (xs (qi (nI i + (2 : Int32)))) (xs (qi (nI i + (3 : Int32))))
    rw [if_pos h1, if_pos h2, if_pos h3, e1, Option.bind_some, if_pos h1, if_pos h2, if_pos h3]
    have e2' := e2
    rw [show p_M_count f σ (xs (qi (nI i + (1 : Int32)))) (xs (qi (nI i + (2 : Int32)))) (xs (qi (nI i + (3 : Int32)))) = some (r, σ2) from e2, Option.bind_some, if_pos rfl, h6]
    exact ih σ2 hI
  rw [if_neg c9]
  by_cases c10 : xs (qi (nI i)) &&& 63 = 10
  · rw [if_pos c10]
    unfold p_law_b578
    obtain ⟨r, σ1, σ2, e1, e2, hI⟩ := vow_ok (f := f) h (by omega) (xs (qi (nI i + (1 : Int32)))) (xs (qi (nI i + (2 : Int32))))
    rw [if_pos h1, if_pos h2, e1, Option.bind_some, if_pos h1, if_pos h2]
    have e2' := e2
    rw [show p_M_vow f σ1 (xs (qi (nI i + (1 : Int32)))) (xs (qi (nI i + (2 : Int32)))) = some (r, σ2) from e2, Option.bind_some, if_pos rfl, h6]
    exact ih σ2 hI
  rw [if_neg c10]
  by_cases c11 : xs (qi (nI i)) &&& 63 = 11
  · rw [if_pos c11]
    unfold p_law_b611
    obtain ⟨r, σ1, σ2, e1, e2, hI⟩ := sick_ok (f := f) h (by omega) (xs (qi (nI i + (1 : Int32)))) (xs (qi (nI i + (2 : Int32)))) (xs (qi (nI i + (3 : Int32))))
    rw [if_pos h1, if_pos h2, if_pos h3, e1, Option.bind_some, if_pos h1, if_pos h2, if_pos h3]
    have e2' := e2
    rw [show p_M_sick f σ1 (xs (qi (nI i + (1 : Int32)))) (xs (qi (nI i + (2 : Int32)))) (xs (qi (nI i + (3 : Int32)))) = some (r, σ2) from e2, Option.bind_some, if_pos rfl, h6]
    exact ih σ2 hI
  rw [if_neg c11]
  by_cases c12 : xs (qi (nI i)) &&& 63 = 12
  · rw [if_pos c12]
    unfold p_law_b654
    obtain ⟨r, σ1, σ2, e1, e2, hI⟩ := say_ok (f := f) h (by omega) (xs (qi (nI i + (1 : Int32)))) (xs (qi (nI i + (2 : Int32)))) (xs (qi (nI i + (3 : Int32))))
    rw [if_pos h1, if_pos h2, if_pos h3, e1, Option.bind_some, if_pos h1, if_pos h2, if_pos h3]
    have e2' := e2
    rw [show p_M_say f σ1 (xs (qi (nI i + (1 : Int32)))) (xs (qi (nI i + (2 : Int32)))) (xs (qi (nI i + (3 : Int32)))) = some (r, σ2) from e2, Option.bind_some, if_pos rfl, h6]
    exact ih σ2 hI
  rw [if_neg c12]
  by_cases c13 : xs (qi (nI i)) &&& 63 = 13
  · rw [if_pos c13]
    unfold p_law_b697
    obtain ⟨r, σ1, σ2, e1, e2, hI⟩ := lines_ok (f := f) h (by omega) (xs (qi (nI i + (1 : Int32)))) (xs (qi (nI i + (2 : Int32)))) (xs (qi (nI i + (3 : Int32))))
    rw [if_pos h1, if_pos h2, if_pos h3, e1, Option.bind_some, if_pos h1, if_pos h2, if_pos h3]
    have e2' := e2
    rw [show p_M_lines f σ1 (xs (qi (nI i + (1 : Int32)))) (xs (qi (nI i + (2 : Int32)))) (xs (qi (nI i + (3 : Int32)))) = some (r, σ2) from e2, Option.bind_some, if_pos rfl, h6]
    exact ih σ2 hI
  rw [if_neg c13]
  by_cases c14 : xs (qi (nI i)) &&& 63 = 14
  · rw [if_pos c14]
    unfold p_law_b740
    obtain ⟨r, σ2, e1, e2, hI⟩ := good_ok (f := f) h (by omega) (xs (qi (nI i + (1 : Int32))))
    rw [if_pos h1, e1, Option.bind_some, if_pos h1]
    have e2' := e2
    rw [show p_M_good f σ (xs (qi (nI i + (1 : Int32)))) = some (r, σ2) from e2, Option.bind_some, if_pos rfl, h6]
    exact ih σ2 hI
  rw [if_neg c14]
  by_cases c15 : xs (qi (nI i)) &&& 63 = 15
  · rw [if_pos c15]
    unfold p_law_b763
    obtain ⟨r, σ1, σ2, e1, e2, hI⟩ := join_ok (f := f) h (by omega) (xs (qi (nI i + (1 : Int32)))) (xs (qi (nI i + (2 : Int32)))) (xs (qi (nI i + (3 : Int32))))
    rw [if_pos h1, if_pos h2, if_pos h3, e1, Option.bind_some, if_pos h1, if_pos h2, if_pos h3]
    have e2' := e2
    rw [show p_M_join f σ1 (xs (qi (nI i + (1 : Int32)))) (xs (qi (nI i + (2 : Int32)))) (xs (qi (nI i + (3 : Int32)))) = some (r, σ2) from e2, Option.bind_some, if_pos rfl, h6]
    exact ih σ2 hI
  rw [if_neg c15]
  by_cases c16 : xs (qi (nI i)) &&& 63 = 16
  · rw [if_pos c16]
    unfold p_law_b806
    obtain ⟨r, σ1, σ2, e1, e2, hI⟩ := split_ok (f := f) h (by omega) (xs (qi (nI i + (1 : Int32)))) (xs (qi (nI i + (2 : Int32))))
    rw [if_pos h1, if_pos h2, e1, Option.bind_some, if_pos h1, if_pos h2]
    have e2' := e2
    rw [show p_M_split f σ1 (xs (qi (nI i + (1 : Int32)))) (xs (qi (nI i + (2 : Int32)))) = some (r, σ2) from e2, Option.bind_some, if_pos rfl, h6]
    exact ih σ2 hI
  rw [if_neg c16]
  by_cases c17 : xs (qi (nI i)) &&& 63 = 17
  · rw [if_pos c17]
    unfold p_law_b839
    obtain ⟨r, σ1, σ2, e1, e2, hI⟩ := house_ok (f := f) h (xs (qi (nI i + (1 : Int32)))) (xs (qi (nI i + (2 : Int32)))) (xs (qi (nI i + (3 : Int32))))
    rw [if_pos h1, if_pos h2, if_pos h3, e1, Option.bind_some, if_pos h1, if_pos h2, if_pos h3]
    have e2' := e2
    rw [show p_M_house f σ1 (xs (qi (nI i + (1 : Int32)))) (xs (qi (nI i + (2 : Int32)))) (xs (qi (nI i + (3 : Int32)))) = some (r, σ2) from e2, Option.bind_some, if_pos rfl, h6]
    exact ih σ2 hI
  rw [if_neg c17]
  by_cases c18 : xs (qi (nI i)) &&& 63 = 18
  · rw [if_pos c18]
    unfold p_law_b882
    obtain ⟨r, σ1, σ2, e1, e2, hI⟩ := repair_ok (f := f) h (xs (qi (nI i + (1 : Int32)))) (xs (qi (nI i + (2 : Int32)))) (xs (qi (nI i + (3 : Int32))))
    rw [if_pos h1, if_pos h2, if_pos h3, e1, Option.bind_some, if_pos h1, if_pos h2, if_pos h3]
    have e2' := e2
    rw [show p_M_repair f σ1 (xs (qi (nI i + (1 : Int32)))) (xs (qi (nI i + (2 : Int32)))) (xs (qi (nI i + (3 : Int32)))) = some (r, σ2) from e2, Option.bind_some, if_pos rfl, h6]
    exact ih σ2 hI
  rw [if_neg c18]
  by_cases c19 : xs (qi (nI i)) &&& 63 = 19
  · rw [if_pos c19]
    unfold p_law_b925
    obtain ⟨r, σ1, σ2, e1, e2, hI⟩ := empty_ok (f := f) h (xs (qi (nI i + (1 : Int32)))) (xs (qi (nI i + (2 : Int32)))) (xs (qi (nI i + (3 : Int32))))
    rw [if_pos h1, if_pos h2, if_pos h3, e1, Option.bind_some, if_pos h1, if_pos h2, if_pos h3]
    have e2' := e2
    rw [show p_M_empty f σ1 (xs (qi (nI i + (1 : Int32)))) (xs (qi (nI i + (2 : Int32)))) (xs (qi (nI i + (3 : Int32)))) = some (r, σ2) from e2, Option.bind_some, if_pos rfl, h6]
    exact ih σ2 hI
  rw [if_neg c19]
  by_cases c20 : xs (qi (nI i)) &&& 63 = 20
  · rw [if_pos c20]
    unfold p_law_b968
    obtain ⟨r, σ2, e1, e2, hI⟩ := rent_ok (f := f) h (by omega) (xs (qi (nI i + (1 : Int32)))) (xs (qi (nI i + (2 : Int32))))
    rw [if_pos h1, if_pos h2, e1, Option.bind_some, if_pos h1, if_pos h2]
    have e2' := e2
    rw [show p_M_rent f σ (xs (qi (nI i + (1 : Int32)))) (xs (qi (nI i + (2 : Int32)))) = some (r, σ2) from e2, Option.bind_some, if_pos rfl, h6]
    exact ih σ2 hI
  rw [if_neg c20]
  by_cases c21 : xs (qi (nI i)) &&& 63 = 21
  · rw [if_pos c21]
    unfold p_law_b1001
    obtain ⟨r, σ2, e1, e2, hI⟩ := comes_ok (f := f) h (by omega) (xs (qi (nI i + (1 : Int32)))) (xs (qi (nI i + (2 : Int32)))) (xs (qi (nI i + (3 : Int32))))
    rw [if_pos h1, if_pos h2, if_pos h3, e1, Option.bind_some, if_pos h1, if_pos h2, if_pos h3]
    have e2' := e2
    rw [show p_M_comes f σ (xs (qi (nI i + (1 : Int32)))) (xs (qi (nI i + (2 : Int32)))) (xs (qi (nI i + (3 : Int32)))) = some (r, σ2) from e2, Option.bind_some, if_pos rfl, h6]
    exact ih σ2 hI
  rw [if_neg c21]
  by_cases c22 : xs (qi (nI i)) &&& 63 = 22
  · rw [if_pos c22]
    unfold p_law_b1044
    obtain ⟨r, σ2, e1, e2, hI⟩ := fails_ok (f := f) h (by omega) (xs (qi (nI i + (1 : Int32))))
    rw [if_pos h1, e1, Option.bind_some, if_pos h1]
    have e2' := e2
    rw [show p_M_fails f σ (xs (qi (nI i + (1 : Int32)))) = some (r, σ2) from e2, Option.bind_some, if_pos rfl, h6]
    exact ih σ2 hI
  rw [if_neg c22]
  by_cases c23 : xs (qi (nI i)) &&& 63 = 23
  · rw [if_pos c23]
    unfold p_law_b1067
    obtain ⟨r, σ1, σ2, e1, e2, hI⟩ := price_ok (f := f) h (xs (qi (nI i + (1 : Int32)))) (xs (qi (nI i + (2 : Int32))))
    rw [if_pos h1, if_pos h2, e1, Option.bind_some, if_pos h1, if_pos h2]
    have e2' := e2
    rw [show p_M_price f σ1 (xs (qi (nI i + (1 : Int32)))) (xs (qi (nI i + (2 : Int32)))) = some (r, σ2) from e2, Option.bind_some, if_pos rfl, h6]
    exact ih σ2 hI
  rw [if_neg c23]
  by_cases c24 : xs (qi (nI i)) &&& 63 = 24
  · rw [if_pos c24]
    unfold p_law_b1100
    obtain ⟨r, σ2, e1, e2, hI⟩ := spent_ok (f := f) h (by omega) (xs (qi (nI i + (1 : Int32))))
    rw [if_pos h1, e1, Option.bind_some, if_pos h1]
    have e2' := e2
    rw [show p_M_spent f σ (xs (qi (nI i + (1 : Int32)))) = some (r, σ2) from e2, Option.bind_some, if_pos rfl, h6]
    exact ih σ2 hI
  rw [if_neg c24]
  by_cases c25 : xs (qi (nI i)) &&& 63 = 25
  · rw [if_pos c25]
    unfold p_law_b1123
    obtain ⟨r, σ1, σ2, e1, e2, hI⟩ := vacant_ok (f := f) h (by omega) (xs (qi (nI i + (1 : Int32)))) (xs (qi (nI i + (2 : Int32)))) (xs (qi (nI i + (3 : Int32)))) (xs (qi (nI i + (4 : Int32)))) (xs (qi (nI i + (5 : Int32))))
    rw [if_pos h1, if_pos h2, if_pos h3, if_pos h4, if_pos h5, e1, Option.bind_some, if_pos h1, if_pos h2, if_pos h3, if_pos h4, if_pos h5]
    have e2' := e2
    rw [show p_M_vacant f σ1 (xs (qi (nI i + (1 : Int32)))) (xs (qi (nI i + (2 : Int32)))) (xs (qi (nI i + (3 : Int32)))) (xs (qi (nI i + (4 : Int32)))) (xs (qi (nI i + (5 : Int32)))) = some (r, σ2) from e2, Option.bind_some, if_pos rfl, h6]
    exact ih σ2 hI
  rw [if_neg c25]
  by_cases c26 : xs (qi (nI i)) &&& 63 = 26
  · rw [if_pos c26]
    unfold p_law_b1186
    obtain ⟨r, σ2, e1, e2, hI⟩ := turn_ok (f := f) h (by omega) (xs (qi (nI i + (1 : Int32)))) (xs (qi (nI i + (2 : Int32))))
    rw [if_pos h1, if_pos h2, e1, Option.bind_some, if_pos h1, if_pos h2]
    have e2' := e2
    rw [show p_M_turn f σ (xs (qi (nI i + (1 : Int32)))) (xs (qi (nI i + (2 : Int32)))) = some (r, σ2) from e2, Option.bind_some, if_pos rfl, h6]
    exact ih σ2 hI
  rw [if_neg c26]
  by_cases c27 : xs (qi (nI i)) &&& 63 = 27
  · rw [if_pos c27]
    unfold p_law_b1219
    obtain ⟨r, σ1, σ2, e1, e2, hI⟩ := act_ok (f := f) h (by omega) (xs (qi (nI i + (1 : Int32)))) (xs (qi (nI i + (2 : Int32)))) (xs (qi (nI i + (3 : Int32)))) (xs (qi (nI i + (4 : Int32))))
    rw [if_pos h1, if_pos h2, if_pos h3, if_pos h4, e1, Option.bind_some, if_pos h1, if_pos h2, if_pos h3, if_pos h4]
    have e2' := e2
    rw [show p_M_act f σ1 (xs (qi (nI i + (1 : Int32)))) (xs (qi (nI i + (2 : Int32)))) (xs (qi (nI i + (3 : Int32)))) (xs (qi (nI i + (4 : Int32)))) = some (r, σ2) from e2, Option.bind_some, if_pos rfl, h6]
    exact ih σ2 hI
  rw [if_neg c27]
  by_cases c28 : xs (qi (nI i)) &&& 63 = 28
  · rw [if_pos c28]
    unfold p_law_b1272
    obtain ⟨r, σ2, e1, e2, hI⟩ := taken_ok (f := f) h (by omega) (xs (qi (nI i + (1 : Int32))))
    rw [if_pos h1, e1, Option.bind_some, if_pos h1]
    have e2' := e2
    rw [show p_M_taken f σ (xs (qi (nI i + (1 : Int32)))) = some (r, σ2) from e2, Option.bind_some, if_pos rfl, h6]
    exact ih σ2 hI
  rw [if_neg c28]
  by_cases c29 : xs (qi (nI i)) &&& 63 = 29
  · rw [if_pos c29]
    unfold p_law_b1295
    obtain ⟨r, σ2, e1, e2, hI⟩ := pension_ok (f := f) h (by omega) (xs (qi (nI i + (1 : Int32)))) (xs (qi (nI i + (2 : Int32))))
    rw [if_pos h1, if_pos h2, e1, Option.bind_some, if_pos h1, if_pos h2]
    have e2' := e2
    rw [show p_M_pension f σ (xs (qi (nI i + (1 : Int32)))) (xs (qi (nI i + (2 : Int32)))) = some (r, σ2) from e2, Option.bind_some, if_pos rfl, h6]
    exact ih σ2 hI
  rw [if_neg c29]
  by_cases c30 : xs (qi (nI i)) &&& 63 = 30
  · rw [if_pos c30]
    unfold p_law_b1328
    obtain ⟨r, σ1, σ2, e1, e2, hI⟩ := bid_ok (f := f) h (xs (qi (nI i + (1 : Int32)))) (xs (qi (nI i + (2 : Int32)))) (xs (qi (nI i + (3 : Int32))))
    rw [if_pos h1, if_pos h2, if_pos h3, e1, Option.bind_some, if_pos h1, if_pos h2, if_pos h3]
    have e2' := e2
    rw [show p_M_bid f σ1 (xs (qi (nI i + (1 : Int32)))) (xs (qi (nI i + (2 : Int32)))) (xs (qi (nI i + (3 : Int32)))) = some (r, σ2) from e2, Option.bind_some, if_pos rfl, h6]
    exact ih σ2 hI
  rw [if_neg c30]
  by_cases c31 : xs (qi (nI i)) &&& 63 = 31
  · rw [if_pos c31]
    unfold p_law_b1371
    obtain ⟨r, σ2, e1, e2, hI⟩ := sold_ok (f := f) h (by omega) (xs (qi (nI i + (1 : Int32)))) (xs (qi (nI i + (2 : Int32))))
    rw [if_pos h1, if_pos h2, e1, Option.bind_some, if_pos h1, if_pos h2]
    have e2' := e2
    rw [show p_M_sold f σ (xs (qi (nI i + (1 : Int32)))) (xs (qi (nI i + (2 : Int32)))) = some (r, σ2) from e2, Option.bind_some, if_pos rfl, h6]
    exact ih σ2 hI
  rw [if_neg c31]
  by_cases c32 : xs (qi (nI i)) &&& 63 = 32
  · rw [if_pos c32]
    unfold p_law_b1404
    obtain ⟨r, σ1, σ2, e1, e2, hI⟩ := dawn_ok (f := f) h (by omega) (xs (qi (nI i + (1 : Int32)))) (xs (qi (nI i + (2 : Int32)))) (xs (qi (nI i + (3 : Int32))))
    rw [if_pos h1, if_pos h2, if_pos h3, e1, Option.bind_some, if_pos h1, if_pos h2, if_pos h3]
    have e2' := e2
    rw [show p_M_dawn f σ1 (xs (qi (nI i + (1 : Int32)))) (xs (qi (nI i + (2 : Int32)))) (xs (qi (nI i + (3 : Int32)))) = some (r, σ2) from e2, Option.bind_some, if_pos rfl, h6]
    exact ih σ2 hI
  rw [if_neg c32]
  by_cases c33 : xs (qi (nI i)) &&& 63 = 33
  · rw [if_pos c33]
    unfold p_law_b1447
    obtain ⟨r, σ1, σ2, e1, e2, hI⟩ := day_ok (f := f) h (xs (qi (nI i + (1 : Int32))))
    rw [if_pos h1, e1, Option.bind_some, if_pos h1]
    have e2' := e2
    rw [show p_M_day f σ1 (xs (qi (nI i + (1 : Int32)))) = some (r, σ2) from e2, Option.bind_some, if_pos rfl, h6]
    exact ih σ2 hI
  rw [if_neg c33]
  by_cases c34 : xs (qi (nI i)) &&& 63 = 34
  · rw [if_pos c34]
    unfold p_law_b1470
    obtain ⟨r, σ2, e1, e2, hI⟩ := kind_ok (f := f) h (by omega) (xs (qi (nI i + (1 : Int32))))
    rw [if_pos h1, e1, Option.bind_some, if_pos h1]
    have e2' := e2
    rw [show p_M_kind f σ (xs (qi (nI i + (1 : Int32)))) = some (r, σ2) from e2, Option.bind_some, if_pos rfl, h6]
    exact ih σ2 hI
  rw [if_neg c34]
  by_cases c35 : xs (qi (nI i)) &&& 63 = 35
  · rw [if_pos c35]
    unfold p_law_b1493
    obtain ⟨r, σ1, σ2, e1, e2, hI⟩ := as_ok (f := f) h (by omega) (xs (qi (nI i + (1 : Int32)))) (xs (qi (nI i + (2 : Int32))))
    rw [if_pos h1, if_pos h2, e1, Option.bind_some, if_pos h1, if_pos h2]
    have e2' := e2
    rw [show p_M_as f σ1 (xs (qi (nI i + (1 : Int32)))) (xs (qi (nI i + (2 : Int32)))) = some (r, σ2) from e2, Option.bind_some, if_pos rfl, h6]
    exact ih σ2 hI
  rw [if_neg c35]
  by_cases c36 : xs (qi (nI i)) &&& 63 = 36
  · rw [if_pos c36]
    unfold p_law_b1526
    obtain ⟨r, σ1, σ2, e1, e2, hI⟩ := ask_ok (f := f) h (by omega) (xs (qi (nI i + (1 : Int32)))) (xs (qi (nI i + (2 : Int32))))
    rw [if_pos h1, if_pos h2, e1, Option.bind_some, if_pos h1, if_pos h2]
    have e2' := e2
    rw [show p_M_ask f σ1 (xs (qi (nI i + (1 : Int32)))) (xs (qi (nI i + (2 : Int32)))) = some (r, σ2) from e2, Option.bind_some, if_pos rfl, h6]
    exact ih σ2 hI
  rw [if_neg c36]
  by_cases c37 : xs (qi (nI i)) &&& 63 = 37
  · rw [if_pos c37]
    unfold p_law_b1559
    obtain ⟨r, σ2, e1, e2, hI⟩ := trace_ok (f := f) h (xs (qi (nI i + (1 : Int32))))
    rw [if_pos h1, e1, Option.bind_some, if_pos h1]
    have e2' := e2
    rw [show p_M_trace f σ (xs (qi (nI i + (1 : Int32)))) = some (r, σ2) from e2, Option.bind_some, if_pos rfl, h6]
    exact ih σ2 hI
  rw [if_neg c37]
  by_cases c38 : xs (qi (nI i)) &&& 63 = 38
  · rw [if_pos c38]
    unfold p_law_b1582
    obtain ⟨r, σ2, e1, e2, hI⟩ := all_ok (f := f) h (by omega) (xs (qi (nI i + (1 : Int32))))
    rw [if_pos h1, e1, Option.bind_some, if_pos h1]
    have e2' := e2
    rw [show p_M_all f σ (xs (qi (nI i + (1 : Int32)))) = some (r, σ2) from e2, Option.bind_some, if_pos rfl, h6]
    exact ih σ2 hI
  rw [if_neg c38]
  by_cases c39 : xs (qi (nI i)) &&& 63 = 39
  · rw [if_pos c39]
    unfold p_law_b1605
    obtain ⟨r, σ2, e1, e2, hI⟩ := status_ok (f := f) h 
    rw [e1, Option.bind_some]
    have e2' := e2
    rw [show p_M_status f σ  = some (r, σ2) from e2, Option.bind_some, if_pos rfl, h6]
    exact ih σ2 hI
  rw [if_neg c39]
  rw [h6]
  exact ih σ h
theorem law_loop {f L : Nat} {xs : Nat → Int32} (hf : 200000000 < f) (hL : L ≤ 3072) : ∀ (r i fu : Nat) (σ : qMem), Inv σ → i ≤ L + 6 → L + 6 - i ≤ r → r < fu → qfix2 (p_law_l18 f xs L) fu σ (nI i) = some 1
  | r, i, 0, σ, _, _, _, hfu => absurd hfu (Nat.not_lt_zero _)
  | r, i, fu + 1, σ, h, hi, hr, hfu => by
    rw [qfix2_s]
    by_cases c : i + 6 ≤ L
    · refine law_step hf hL h c (fun σ' h' => ?_)
      exact law_loop hf hL (r - 1) (i + 6) fu σ' h' (by omega) (by omega) (by omega)
    · unfold p_law_l18
      rw [if_pos]
      rw [i32_lt]
      have e : (Int32.ofNat L - 6).toInt = (L : Int) - 6 := pk_sub_toInt (a := L) (b := 6) (by omega) (by omega)
      rw [e, nI_toInt (by omega)]
      omega
