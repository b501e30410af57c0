/-! constants -/
theorem ic_m1 : Int32.ofInt (-1) = (-1 : Int32) := by decide +kernel
theorem ic_0 : Int32.ofInt 0 = (0 : Int32) := by decide +kernel
theorem ic_1 : Int32.ofInt 1 = (1 : Int32) := by decide +kernel
theorem ic_2 : Int32.ofInt 2 = (2 : Int32) := by decide +kernel
theorem ic_3 : Int32.ofInt 3 = (3 : Int32) := by decide +kernel
theorem ic_4 : Int32.ofInt 4 = (4 : Int32) := by decide +kernel
theorem ic_5 : Int32.ofInt 5 = (5 : Int32) := by decide +kernel
theorem bp_6 : (Int8.ofInt 6).toInt32 = (6 : Int32) := by decide +kernel
theorem bp_7 : (Int8.ofInt 7).toInt32 = (7 : Int32) := by decide +kernel
theorem bp_8 : (Int8.ofInt 8).toInt32 = (8 : Int32) := by decide +kernel
theorem bp_9 : (Int8.ofInt 9).toInt32 = (9 : Int32) := by decide +kernel
theorem bp_10 : (Int8.ofInt 10).toInt32 = (10 : Int32) := by decide +kernel
theorem bp_11 : (Int8.ofInt 11).toInt32 = (11 : Int32) := by decide +kernel
theorem bp_12 : (Int8.ofInt 12).toInt32 = (12 : Int32) := by decide +kernel
theorem bp_13 : (Int8.ofInt 13).toInt32 = (13 : Int32) := by decide +kernel
theorem bp_14 : (Int8.ofInt 14).toInt32 = (14 : Int32) := by decide +kernel
theorem bp_16 : (Int8.ofInt 16).toInt32 = (16 : Int32) := by decide +kernel
theorem bp_20 : (Int8.ofInt 20).toInt32 = (20 : Int32) := by decide +kernel
theorem bp_21 : (Int8.ofInt 21).toInt32 = (21 : Int32) := by decide +kernel
theorem bp_22 : (Int8.ofInt 22).toInt32 = (22 : Int32) := by decide +kernel
theorem bp_23 : (Int8.ofInt 23).toInt32 = (23 : Int32) := by decide +kernel
theorem bp_27 : (Int8.ofInt 27).toInt32 = (27 : Int32) := by decide +kernel
theorem bp_28 : (Int8.ofInt 28).toInt32 = (28 : Int32) := by decide +kernel
theorem bp_30 : (Int8.ofInt 30).toInt32 = (30 : Int32) := by decide +kernel
theorem bp_32 : (Int8.ofInt 32).toInt32 = (32 : Int32) := by decide +kernel
theorem bp_48 : (Int8.ofInt 48).toInt32 = (48 : Int32) := by decide +kernel
theorem bp_57 : (Int8.ofInt 57).toInt32 = (57 : Int32) := by decide +kernel
theorem bp_59 : (Int8.ofInt 59).toInt32 = (59 : Int32) := by decide +kernel
theorem bp_60 : (Int8.ofInt 60).toInt32 = (60 : Int32) := by decide +kernel
theorem bp_63 : (Int8.ofInt 63).toInt32 = (63 : Int32) := by decide +kernel
theorem bp_97 : (Int8.ofInt 97).toInt32 = (97 : Int32) := by decide +kernel
theorem bp_99 : (Int8.ofInt 99).toInt32 = (99 : Int32) := by decide +kernel
theorem bp_100 : (Int8.ofInt 100).toInt32 = (100 : Int32) := by decide +kernel
theorem bp_122 : (Int8.ofInt 122).toInt32 = (122 : Int32) := by decide +kernel
theorem sp_200 : (Int16.ofInt 200).toInt32 = (200 : Int32) := by decide +kernel
theorem sp_359 : (Int16.ofInt 359).toInt32 = (359 : Int32) := by decide +kernel
theorem sp_360 : (Int16.ofInt 360).toInt32 = (360 : Int32) := by decide +kernel
theorem sp_400 : (Int16.ofInt 400).toInt32 = (400 : Int32) := by decide +kernel
theorem sp_500 : (Int16.ofInt 500).toInt32 = (500 : Int32) := by decide +kernel
theorem sp_9999 : (Int16.ofInt 9999).toInt32 = (9999 : Int32) := by decide +kernel
theorem sp_10000 : (Int16.ofInt 10000).toInt32 = (10000 : Int32) := by decide +kernel
theorem ii_m1 (x : Int32) : x + Int32.ofInt (-1) = x + (-1 : Int32) := congrArg (fun z => x + z) (by decide +kernel)
theorem ii_1 (x : Int32) : x + Int32.ofInt 1 = x + (1 : Int32) := congrArg (fun z => x + z) (by decide +kernel)
theorem ii_2 (x : Int32) : x + Int32.ofInt 2 = x + (2 : Int32) := congrArg (fun z => x + z) (by decide +kernel)
theorem ii_3 (x : Int32) : x + Int32.ofInt 3 = x + (3 : Int32) := congrArg (fun z => x + z) (by decide +kernel)
theorem lc_0 : Int64.ofNat ((0 : Fin 2) : Nat) = (0 : Int64) := by decide +kernel
theorem lc_1 : Int64.ofNat ((1 : Fin 2) : Nat) = (1 : Int64) := by decide +kernel
theorem zn_0 : vp_nar .boolean (0 : Int32) = (0 : Int32) := by decide +kernel
theorem zn_1 : vp_nar .boolean (1 : Int32) = (1 : Int32) := by decide +kernel
theorem qg_nz {y : Int32} {α : Type} {a : Option α} {q : α} (h : (if y = 0 then none else a) = some q) : ¬ y = 0 ∧ a = some q := by
  by_cases e : y = 0
  · rw [if_pos e] at h; cases h
  · rw [if_neg e] at h; exact ⟨e, h⟩
