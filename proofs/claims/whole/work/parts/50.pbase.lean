/-! pure side: numbers, tests -/
def rg (x : Int32) (a b : Int) : Prop := a ≤ x.toInt ∧ x.toInt ≤ b
theorem rg_dec {x : Int32} {a b : Int} : rg x a b ∨ ¬ rg x a b := Classical.em _
theorem i32_lt {x y : Int32} : x < y ↔ x.toInt < y.toInt := Int32.lt_iff_toInt_lt
theorem i32_le {x y : Int32} : x ≤ y ↔ x.toInt ≤ y.toInt := Int32.le_iff_toInt_le
theorem i32_eq {x y : Int32} : x = y ↔ x.toInt = y.toInt := Int32.toInt_inj.symm
theorem i64_lt {x y : Int64} : x < y ↔ x.toInt < y.toInt := Int64.lt_iff_toInt_lt
theorem i64_le {x y : Int64} : x ≤ y ↔ x.toInt ≤ y.toInt := Int64.le_iff_toInt_le
theorem i64_eq {x y : Int64} : x = y ↔ x.toInt = y.toInt := Int64.toInt_inj.symm
theorem tl_int (x : Int32) : x.toInt64.toInt = x.toInt := by simp
theorem nI_int {n : Nat} (h : n < 2 ^ 31) : (nI n).toInt = (n : Int) := nI_toInt h
theorem rg_nat {x : Int32} {b : Nat} (h : rg x 0 b) : ∃ k : Nat, k ≤ b ∧ x = nI k := by
  obtain ⟨h1, h2⟩ := h
  have h3 : ¬ x < 0 := by rw [i32_lt]; show ¬ x.toInt < 0; omega
  obtain ⟨j, hj, rfl⟩ := nI_of h3
  rw [nI_toInt hj] at h2
  exact ⟨j, by omega, rfl⟩
theorem nI_rg {k : Nat} {a b : Int} (hk : k < 2 ^ 31) (h1 : a ≤ k) (h2 : (k : Int) ≤ b) : rg (nI k) a b := ⟨by rw [nI_toInt hk]; exact h1, by rw [nI_toInt hk]; exact h2⟩
theorem qin_nI {k n : Nat} (h : k < n) (hn : n < 2 ^ 31) : qin (nI k) n = true := by
  unfold qin
  rw [nI_clamp (by omega)]
  simp only [Bool.and_eq_true, Bool.not_eq_true', decide_eq_false_iff_not, decide_eq_true_eq]
  exact ⟨nI_pos (by omega), h⟩
theorem qi_nI {k : Nat} (h : k < 2 ^ 31) : qi (nI k) = k := nI_clamp h
theorem qin_rg {x : Int32} {n : Nat} (hn : n < 2 ^ 31) (h : rg x 0 ((n : Int) - 1)) : qin x n = true := by
  obtain ⟨h1, h2⟩ := h
  have h3 : ¬ x < 0 := by rw [i32_lt]; show ¬ x.toInt < 0; omega
  obtain ⟨j, hj, rfl⟩ := nI_of h3
  rw [nI_toInt hj] at h2
  exact qin_nI (by omega) hn
theorem out_p {f : Nat} {σ : qMem} {x a b : Int32} (h : rg x a.toInt b.toInt) : p_C_outside f σ x a b = some 0 := by
  unfold p_C_outside
  rw [if_neg (by rw [i32_lt]; have := h.1; omega), if_pos (by rw [i32_le]; exact h.2)]
theorem out_n {f : Nat} {σ : qMem} {x a b : Int32} (h : ¬ rg x a.toInt b.toInt) : p_C_outside f σ x a b = some 1 := by
  unfold p_C_outside
  by_cases h1 : x < a
  · rw [if_pos h1]
  · rw [if_neg h1, if_neg (fun h2 => h ⟨by rw [i32_lt] at h1; omega, i32_le.mp h2⟩)]
theorem in_p {f : Nat} {σ : qMem} {x a b : Int64} (h1 : a.toInt ≤ x.toInt) (h2 : x.toInt ≤ b.toInt) : p_M_in f σ x a b = some 1 := by
  unfold p_M_in
  have e1 : ¬ lg_cmp x a < 0 := by
    have := (lg_cmp_ge x a).mpr (i64_le.mpr h1)
    exact Int32.not_lt.mpr this
  have e2 : ¬ 0 < lg_cmp x b := by
    have := (lg_cmp_le x b).mpr (i64_le.mpr h2)
    exact Int32.not_lt.mpr this
  rw [if_neg e1, if_neg e2]
theorem in_n {f : Nat} {σ : qMem} {x a b : Int64} (h : ¬ (a.toInt ≤ x.toInt ∧ x.toInt ≤ b.toInt)) : p_M_in f σ x a b = some 0 := by
  unfold p_M_in
  by_cases e1 : lg_cmp x a < 0
  · rw [if_pos e1]
  · rw [if_neg e1]
    have h1 : a.toInt ≤ x.toInt := i64_le.mp ((lg_cmp_ge x a).mp (Int32.not_lt.mp e1))
    by_cases e2 : 0 < lg_cmp x b
    · rw [if_pos e2]
    · exact absurd ⟨h1, i64_le.mp ((lg_cmp_le x b).mp (Int32.not_lt.mp e2))⟩ h
theorem in_pi {f : Nat} {σ : qMem} {x : Int32} {a b : Int64} (h : rg x a.toInt b.toInt) : p_M_in f σ x.toInt64 a b = some 1 := in_p (by rw [tl_int]; exact h.1) (by rw [tl_int]; exact h.2)
theorem in_ni {f : Nat} {σ : qMem} {x : Int32} {a b : Int64} (h : ¬ rg x a.toInt b.toInt) : p_M_in f σ x.toInt64 a b = some 0 := in_n (by rw [tl_int]; exact h)
/-! memory -/
theorem mu_c {σ : qMem} {k j : Nat} {v : Int32} {a : Nat} : qmu σ k j v a = if a = k then upd (σ k) j v else σ a := by
  by_cases h : a = k
  · subst h; rw [if_pos rfl, qmu_self]
  · rw [if_neg h, qmu_ne h]
theorem mu_s {σ : qMem} {k j : Nat} {v : Int32} : qmu σ k j v k j = v := by simp [qmu]
theorem mu_j {σ : qMem} {k j : Nat} {v : Int32} {b : Nat} (h : b ≠ j) : qmu σ k j v k b = σ k b := by simp [qmu, h]
theorem mu_k {σ : qMem} {k j : Nat} {v : Int32} {a b : Nat} (h : a ≠ k) : qmu σ k j v a b = σ a b := by simp [qmu, h]
theorem upd_s {g : Nat → Int32} {j : Nat} {v : Int32} : upd g j v j = v := by simp [upd]
theorem upd_n {g : Nat → Int32} {j b : Nat} {v : Int32} (h : b ≠ j) : upd g j v b = g b := by simp [upd, h]
theorem zn_ite {c : Prop} [Decidable c] : vp_nar .boolean (if c then (1 : Int32) else 0) = if c then (1 : Int32) else 0 := by
  by_cases h : c
  · rw [if_pos h]; exact zn_1
  · rw [if_neg h]; exact zn_0
theorem noDay_p {f : Nat} {σ : qMem} {x : Int32} (h : rg x 0 9999) : p_C_noDay f σ x = some 0 := by
  unfold p_C_noDay
  rw [out_p (by exact h), Option.bind_some, zn_0]
theorem noDay_n {f : Nat} {σ : qMem} {x : Int32} (h : ¬ rg x 0 9999) : p_C_noDay f σ x = some 1 := by
  unfold p_C_noDay
  rw [out_n (by exact h), Option.bind_some, zn_1]
theorem isDay_p {f : Nat} {σ : qMem} {x : Int32} (h : rg x 0 9999) : p_M_isDay f σ x = some 1 := by
  unfold p_M_isDay
  rw [in_pi (by exact h), Option.bind_some, zn_1]
theorem isDay_n {f : Nat} {σ : qMem} {x : Int32} (h : ¬ rg x 0 9999) : p_M_isDay f σ x = some 0 := by
  unfold p_M_isDay
  rw [in_ni (by exact h), Option.bind_some, zn_0]
