/-! acts -/
def tkB (σ : qMem) (p i : Nat) : Bool := decide (σ (15 + p) 5 ≤ σ 38 i) && (decide (σ 39 i ≤ σ (15 + p) 1) && (decide (σ (15 + p) 1 ≤ σ 40 i) && !(decide (σ (15 + p) 0 = 1) && decide (σ 41 i = 1))))
def tkN (σ : qMem) (p : Nat) : Nat → Nat → Int32 → Int32
  | 0, _, b => b
  | m + 1, i, b => tkN σ p m (i + 1) (if tkB σ p i = true ∧ (b = -1000000 ∨ σ 38 i < b) then σ 38 i else b)
theorem tkN_s {σ : qMem} {p n i : Nat} {b : Int32} (h : i < n) : tkN σ p (n - i) i b = tkN σ p (n - (i + 1)) (i + 1) (if tkB σ p i = true ∧ (b = -1000000 ∨ σ 38 i < b) then σ 38 i else b) := by
  rw [show n - i = (n - (i + 1)) + 1 by omega]
  rfl
theorem takes_c {f : Nat} {σ : qMem} {p i : Nat} (hi : i < 10) : p_Acts_takes f σ (nI i) (σ (15 + p) 5) (σ (15 + p) 1) (if σ (15 + p) 0 = 1 then 1 else 0) = some (if tkB σ p i = true then 1 else 0) := by
  have hq := qin_nI (k := i) (n := 10) (by omega) (by omega)
  have hqi : qi (nI i) = i := qi_nI (by omega)
  unfold p_Acts_takes p_Acts_takes_b19 p_Acts_takes_b20 tkB
  simp only [hq, hqi, if_true]
  by_cases c0 : σ (15 + p) 0 = 1 <;> by_cases c1 : σ 41 i = 1 <;> by_cases c2 : σ 38 i < σ (15 + p) 5 <;> by_cases c3 : σ (15 + p) 1 < σ 39 i <;> by_cases c4 : σ 40 i < σ (15 + p) 1 <;> simp [c0, c1, c2, c3, c4, ← Int32.not_lt]
theorem dayT_c {f : Nat} {σ : qMem} {p n : Nat} (hp : p < 12) (hn : σ 37 5 = nI n) (hn2 : n ≤ 10) (hf : 100 < f) : p_Acts_dayOfTaking f σ (nI p) = some (tkN σ p n 0 (-1000000)) := by
  unfold p_Acts_dayOfTaking
  rw [show (5 : Int32) = nI 5 from rfl, show (1 : Int32) = nI 1 from rfl, of_c hp (by omega), Option.bind_some, of_c hp (by omega), Option.bind_some, obit_c hp, Option.bind_some]
  refine up2 (n := n) (res := fun a i => tkN σ p (n - i) i a) (by omega) (fun k a => ?_) (fun k a i hi hk => ?_)
  · unfold p_Acts_dayOfTaking_l37
    rw [hn, if_pos (nI_le (Nat.le_refl _) (by omega)), Nat.sub_self]
    rfl
  · unfold p_Acts_dayOfTaking_l37
    have hq := qin_nI (k := i) (n := 10) (by omega) (by omega)
    have hqi : qi (nI i) = i := qi_nI (by omega)
    rw [hn, if_neg (nI_ge hi (by omega)), takes_c (by omega), Option.bind_some, tkN_s hi]
    simp only [hq, hqi, if_true, nI_1, hk]
    by_cases c1 : tkB σ p i = true <;> by_cases c2 : a = -1000000 <;> by_cases c3 : a ≤ σ 38 i <;> simp [c1, c2, c3, ← Int32.not_le]
def rowEq (σ : qMem) (p : Nat) : Prop := ∀ j, j < 11 → σ (15 + p) j = σ 108 (11 * p + j)
theorem g_pr.row {σ : qMem} (h : g_pr σ) {n p : Nat} (hn : σ 13 1 = nI n) (hn2 : n ≤ 12) (hp : p < n) : rowEq σ p := by
  obtain ⟨m, h0, h1, h2, h3⟩ := h
  have e : m = n := (nI_eq (by omega) (by omega)).mp (h1.symm.trans hn)
  subst e
  exact fun j hj => (h3 p hp j hj).1
theorem of_r {f : Nat} {σ : qMem} {p j : Nat} (h : rowEq σ p) (hp : p < 12) (hj : j < 11) : p_M_of f σ (nI p) (nI j) = some (σ (15 + p) j) := by rw [of_m hp hj, h j hj]
theorem in_if {f : Nat} {σ : qMem} {x a b : Int32} : p_M_in f σ x.toInt64 a.toInt64 b.toInt64 = some (if a ≤ x ∧ x ≤ b then 1 else 0) := by
  by_cases h : a ≤ x ∧ x ≤ b
  · rw [if_pos h, in_p (by rw [tl_int, tl_int]; exact i32_le.mp h.1) (by rw [tl_int, tl_int]; exact i32_le.mp h.2)]
  · rw [if_neg h, in_n (by rw [tl_int, tl_int, tl_int]; exact fun q => h ⟨i32_le.mpr q.1, i32_le.mpr q.2⟩)]
theorem dayT_m {f : Nat} {σ : qMem} {p n : Nat} (hg : g_ac σ) (hr : rowEq σ p) (hp : p < 12) (hn : σ 37 5 = nI n) (hn2 : n ≤ 10) (hf : 100 < f) : p_M_takenOn f σ (nI p) = some (tkN σ p n 0 (-1000000)) := by
  obtain ⟨e1, e2, e3, e4, n', -, e5, e6, -⟩ := hg
  have e7 : σ 104 50 = nI n := by rw [e6, ← e5, hn]
  unfold p_M_takenOn
  refine up2 (n := n) (res := fun a i => tkN σ p (n - i) i a) (by omega) (fun k a => ?_) (fun k a i hi hk => ?_)
  · unfold p_M_takenOn_l5
    rw [e7, if_pos (nI_le (Nat.le_refl _) (by omega)), Nat.sub_self]
    rfl
  · unfold p_M_takenOn_l5 p_M_takenOn_b79 p_M_takenOn_b80
    have hq := qin_nI (k := i) (n := 10) (by omega) (by omega)
    have hqi : qi (nI i) = i := qi_nI (by omega)
    have o5 : p_M_of f σ (nI p) 5 = some (σ (15 + p) 5) := of_r (j := 5) hr hp (by omega)
    have o1 : p_M_of f σ (nI p) 1 = some (σ (15 + p) 1) := of_r (j := 1) hr hp (by omega)
    have o0 : p_M_of f σ (nI p) 0 = some (σ (15 + p) 0) := of_r (j := 0) hr hp (by omega)
    rw [e7, if_neg (nI_ge hi (by omega)), tkN_s hi]
    simp only [o5, o1, o0, Option.bind_some, hq, hqi, if_true, nI_1, hk, ← e1, ← e2, ← e3, ← e4, in_if]
    unfold tkB
    by_cases c0 : σ (15 + p) 0 = 1 <;> by_cases c1 : σ 41 i = 1 <;> by_cases c2 : σ 38 i < σ (15 + p) 5 <;> by_cases c3 : σ (15 + p) 1 < σ 39 i <;> by_cases c4 : σ 40 i < σ (15 + p) 1 <;> by_cases c5 : a = -1000000 <;> by_cases c6 : σ 38 i < a <;> simp [c0, c1, c2, c3, c4, c5, c6, ← Int32.not_lt]
def tkBy (σ : qMem) (p n : Nat) (d : Int32) : Prop := tkN σ p n 0 (-1000000) ≠ -1000000 ∧ tkN σ p n 0 (-1000000) ≤ d
theorem tkBy_c {f : Nat} {σ : qMem} {p n : Nat} {d : Int32} (hp : p < 12) (hn : σ 37 5 = nI n) (hn2 : n ≤ 10) (hf : 100 < f) : (tkBy σ p n d → p_Acts_takenBy f σ (nI p) d = some 1) ∧ (¬ tkBy σ p n d → p_Acts_takenBy f σ (nI p) d = some 0) := by
  unfold p_Acts_takenBy
  rw [dayT_c hp hn hn2 hf, Option.bind_some]
  unfold tkBy
  constructor
  · rintro ⟨h1, h2⟩
    rw [if_neg h1, if_neg (Int32.not_lt.mpr h2)]
  · intro h
    by_cases h1 : tkN σ p n 0 (-1000000) = -1000000
    · rw [if_pos h1]
    · rw [if_neg h1, if_pos (Int32.not_le.mp fun q => h ⟨h1, q⟩)]
theorem tkBy_m {f : Nat} {σ : qMem} {p n : Nat} {d : Int32} (hg : g_ac σ) (hr : rowEq σ p) (hp : p < 12) (hn : σ 37 5 = nI n) (hn2 : n ≤ 10) (hf : 100 < f) : (tkBy σ p n d → p_M_isTaken f σ (nI p) d = some 1) ∧ (¬ tkBy σ p n d → p_M_isTaken f σ (nI p) d = some 0) := by
  unfold p_M_isTaken
  rw [dayT_m hg hr hp hn hn2 hf, Option.bind_some]
  unfold tkBy
  constructor
  · rintro ⟨h1, h2⟩
    rw [if_neg h1, if_neg (Int32.not_lt.mpr h2)]
  · intro h
    by_cases h1 : tkN σ p n 0 (-1000000) = -1000000
    · rw [if_pos h1]
    · rw [if_neg h1, if_pos (Int32.not_le.mp fun q => h ⟨h1, q⟩)]
def endP (σ : qMem) (p n : Nat) (d : Int32) : Prop := σ (15 + p) 6 < d ∨ tkBy σ p n d
theorem end_c {f : Nat} {σ : qMem} {p n : Nat} {d : Int32} (hp : p < 12) (hn : σ 37 5 = nI n) (hn2 : n ≤ 10) (hf : 100 < f) : (endP σ p n d → p_Acts_ended f σ (nI p) d = some 1) ∧ (¬ endP σ p n d → p_Acts_ended f σ (nI p) d = some 0) := by
  have hb := tkBy_c (d := d) hp hn hn2 hf
  have o6 : p_Promises_of f σ (nI p) 6 = some (σ (15 + p) 6) := of_c (j := 6) hp (by omega)
  unfold p_Acts_ended endP
  rw [o6, Option.bind_some]
  by_cases c1 : σ (15 + p) 6 < d
  · simp [c1]
  · by_cases c2 : tkBy σ p n d
    · simp [c1, c2, hb.1 c2]
    · simp [c1, c2, hb.2 c2]
theorem end_m {f : Nat} {σ : qMem} {p n : Nat} {d : Int32} (hg : g_ac σ) (hr : rowEq σ p) (hp : p < 12) (hn : σ 37 5 = nI n) (hn2 : n ≤ 10) (hf : 100 < f) : (endP σ p n d → p_M_isEnded f σ (nI p) d = some 1) ∧ (¬ endP σ p n d → p_M_isEnded f σ (nI p) d = some 0) := by
  have hb := tkBy_m (d := d) hg hr hp hn hn2 hf
  have o6 : p_M_of f σ (nI p) 6 = some (σ (15 + p) 6) := of_r (j := 6) hr hp (by omega)
  unfold p_M_isEnded endP
  by_cases c2 : tkBy σ p n d
  · simp [c2, hb.1 c2]
  · by_cases c1 : σ (15 + p) 6 < d
    · simp [c1, c2, hb.2 c2, o6, Int32.not_le.mpr c1]
    · simp [c1, c2, hb.2 c2, o6, Int32.not_lt.mp c1]
theorem tkN_rg {σ : qMem} {p n : Nat} (h : ∀ i, i < n → rg (σ 38 i) 0 9999) : ∀ (m i : Nat) (b : Int32), i + m ≤ n → (b = -1000000 ∨ rg b 0 9999) → (tkN σ p m i b = -1000000 ∨ rg (tkN σ p m i b) 0 9999)
  | 0, _, b, _, hb => hb
  | m + 1, i, b, hi, hb => by
    unfold tkN
    refine tkN_rg h m (i + 1) _ (by omega) ?_
    by_cases c : tkB σ p i = true ∧ (b = -1000000 ∨ σ 38 i < b)
    · rw [if_pos c]; exact Or.inr (h i (by omega))
    · rw [if_neg c]; exact hb
