/-! loops that count up -/
theorem up1c {R : Type} {F : (Int32 → Option R) → Int32 → Option R} {n : Nat} {res : Nat → R} (he : ∀ k, F k (nI n) = some (res n)) (hs : ∀ k i, i < n → k (nI (i + 1)) = some (res (i + 1)) → F k (nI i) = some (res i)) : ∀ (m i e : Nat), i + m = n → qfix1 F (m + 1 + e) (nI i) = some (res i)
  | 0, i, e, h => by
    have hi : i = n := by omega
    subst hi
    rw [show 0 + 1 + e = e + 1 by omega, qfix1_s]
    exact he _
  | m + 1, i, e, h => by
    rw [show m + 1 + 1 + e = (m + 1 + e) + 1 by omega, qfix1_s]
    exact hs _ i (by omega) (up1c he hs m (i + 1) e (by omega))
theorem up1 {R : Type} {F : (Int32 → Option R) → Int32 → Option R} {n f : Nat} {res : Nat → R} (hf : n < f) (he : ∀ k, F k (nI n) = some (res n)) (hs : ∀ k i, i < n → k (nI (i + 1)) = some (res (i + 1)) → F k (nI i) = some (res i)) : qfix1 F f (0 : Int32) = some (res 0) := by
  obtain ⟨e, rfl⟩ : ∃ e, f = n + 1 + e := ⟨f - n - 1, by omega⟩
  exact up1c he hs n 0 e (by omega)
theorem up1i {R : Type} {F : (Int32 → Option R) → Int32 → Option R} {n f i : Nat} {res : Nat → R} (hi : i ≤ n) (hf : n < f) (he : ∀ k, F k (nI n) = some (res n)) (hs : ∀ k i, i < n → k (nI (i + 1)) = some (res (i + 1)) → F k (nI i) = some (res i)) : qfix1 F f (nI i) = some (res i) := by
  obtain ⟨e, rfl⟩ : ∃ e, f = (n - i) + 1 + e := ⟨f - (n - i) - 1, by omega⟩
  exact up1c he hs (n - i) i e (by omega)
theorem up2c {A R : Type} {F : (A → Int32 → Option R) → A → Int32 → Option R} {n : Nat} {res : A → Nat → R} (he : ∀ k a, F k a (nI n) = some (res a n)) (hs : ∀ k a i, i < n → (∀ b, k b (nI (i + 1)) = some (res b (i + 1))) → F k a (nI i) = some (res a i)) : ∀ (m i e : Nat) (a : A), i + m = n → qfix2 F (m + 1 + e) a (nI i) = some (res a i)
  | 0, i, e, a, h => by
    have hi : i = n := by omega
    subst hi
    rw [show 0 + 1 + e = e + 1 by omega, qfix2_s]
    exact he _ _
  | m + 1, i, e, a, h => by
    rw [show m + 1 + 1 + e = (m + 1 + e) + 1 by omega, qfix2_s]
    exact hs _ a i (by omega) (fun b => up2c he hs m (i + 1) e b (by omega))
theorem up2 {A R : Type} {F : (A → Int32 → Option R) → A → Int32 → Option R} {n f : Nat} {res : A → Nat → R} {a : A} (hf : n < f) (he : ∀ k a, F k a (nI n) = some (res a n)) (hs : ∀ k a i, i < n → (∀ b, k b (nI (i + 1)) = some (res b (i + 1))) → F k a (nI i) = some (res a i)) : qfix2 F f a (0 : Int32) = some (res a 0) := by
  obtain ⟨e, rfl⟩ : ∃ e, f = n + 1 + e := ⟨f - n - 1, by omega⟩
  exact up2c he hs n 0 e a (by omega)
theorem up2i {A R : Type} {F : (A → Int32 → Option R) → A → Int32 → Option R} {n f i : Nat} {res : A → Nat → R} {a : A} (hi : i ≤ n) (hf : n < f) (he : ∀ k a, F k a (nI n) = some (res a n)) (hs : ∀ k a i, i < n → (∀ b, k b (nI (i + 1)) = some (res b (i + 1))) → F k a (nI i) = some (res a i)) : qfix2 F f a (nI i) = some (res a i) := by
  obtain ⟨e, rfl⟩ : ∃ e, f = (n - i) + 1 + e := ⟨f - (n - i) - 1, by omega⟩
  exact up2c he hs (n - i) i e a (by omega)
def anyI (P : Nat → Bool) : Nat → Nat → Int32
  | 0, _ => 0
  | m + 1, i => if P i = true then 1 else anyI P m (i + 1)
theorem anyI_01 (P : Nat → Bool) : ∀ m i, anyI P m i = 0 ∨ anyI P m i = 1
  | 0, _ => Or.inl rfl
  | m + 1, i => by
    unfold anyI
    by_cases h : P i = true
    · rw [if_pos h]; exact Or.inr rfl
    · rw [if_neg h]; exact anyI_01 P m (i + 1)
theorem anyI_s {P : Nat → Bool} {n i : Nat} (h : i < n) : anyI P (n - i) i = if P i = true then 1 else anyI P (n - (i + 1)) (i + 1) := by
  rw [show n - i = (n - (i + 1)) + 1 by omega]
  rfl
theorem zn_01 {x : Int32} (h : x = 0 ∨ x = 1) : vp_nar .boolean x = x := by
  rcases h with rfl | rfl
  · exact zn_0
  · exact zn_1
/-! readers -/
theorem of_c {f : Nat} {σ : qMem} {p j : Nat} (hp : p < 12) (hj : j < 11) : p_Promises_of f σ (nI p) (nI j) = some (σ (15 + p) j) := by
  unfold p_Promises_of
  rw [if_pos (qin_nI hp (by omega)), if_pos (qin_nI hj (by omega)), qi_nI (by omega), qi_nI (by omega)]
theorem nI_mul (a b : Nat) : nI a * nI b = nI (a * b) := pk_mul a b
theorem idx11 {p j : Nat} : ((11 : Int32) * nI p) + nI j = nI (11 * p + j) := by
  rw [show (11 : Int32) = nI 11 from rfl, nI_mul, nI_add]
theorem of_m {f : Nat} {σ : qMem} {p j : Nat} (hp : p < 12) (hj : j < 11) : p_M_of f σ (nI p) (nI j) = some (σ 108 (11 * p + j)) := by
  unfold p_M_of
  rw [idx11, if_pos (qin_nI (by omega) (by omega)), qi_nI (by omega)]
theorem obit_c {f : Nat} {σ : qMem} {p : Nat} (hp : p < 12) : p_Promises_isObit f σ (nI p) = some (if σ (15 + p) 0 = 1 then 1 else 0) := by
  unfold p_Promises_isObit
  rw [if_pos (qin_nI hp (by omega)), if_pos (show qin (0 : Int32) 11 = true by decide), qi_nI (by omega), show qi (0 : Int32) = 0 from rfl]
  by_cases h : σ (15 + p) 0 = 1
  · rw [if_pos h, if_pos h]
  · rw [if_neg h, if_neg h]
theorem has_p {f : Nat} {σ : qMem} {p n : Nat} (hn : σ 13 1 = nI n) (hn2 : n ≤ 12) (hp : p < n) : p_Promises_has f σ (nI p) = some 1 := by
  unfold p_Promises_has
  rw [if_neg (nI_pos (by omega)), hn, if_neg (nI_ge hp (by omega))]
theorem has_n {f : Nat} {σ : qMem} {x : Int32} {n : Nat} (hn : σ 13 1 = nI n) (hn2 : n ≤ 12) (hx : ¬ rg x 0 ((n : Int) - 1)) : p_Promises_has f σ x = some 0 := by
  unfold p_Promises_has
  by_cases h : x < 0
  · rw [if_pos h]
  · rw [if_neg h, hn, if_pos]
    rw [i32_le, nI_toInt (by omega)]
    rw [i32_lt] at h
    have h0 : (0 : Int32).toInt = 0 := rfl
    rw [h0] at h
    exact Int.not_lt.mp fun q => hx ⟨by omega, by omega⟩
theorem nI_m1 {n : Nat} (h : n ≤ 1000) : (nI n - 1).toInt = (n : Int) - 1 := by
  have h2 : (nI n - nI 1).toInt = (n : Int) - ((1 : Nat) : Int) := pk_sub_toInt (a := n) (b := 1) (by omega) (by omega)
  exact h2
theorem isP_p {f : Nat} {σ : qMem} {p n : Nat} (hn : σ 104 5 = nI n) (hn2 : n ≤ 12) (hp : p < n) : p_M_isPromise f σ (nI p) = some 1 := by
  unfold p_M_isPromise
  rw [hn, in_pi ⟨by rw [nI_toInt (by omega)]; show (0 : Int) ≤ _; omega, by rw [nI_toInt (by omega), tl_int, nI_m1 (by omega)]; omega⟩, Option.bind_some, zn_1]
theorem isP_n {f : Nat} {σ : qMem} {x : Int32} {n : Nat} (hn : σ 104 5 = nI n) (hn2 : n ≤ 12) (hx : ¬ rg x 0 ((n : Int) - 1)) : p_M_isPromise f σ x = some 0 := by
  unfold p_M_isPromise
  have hr : ¬ rg x (0 : Int64).toInt ((nI n - 1).toInt64).toInt := fun h => hx ⟨h.1, by have := h.2; rw [tl_int, nI_m1 (by omega)] at this; exact this⟩
  rw [hn, in_ni hr, Option.bind_some, zn_0]
def sickB (σ : qMem) (x d : Int32) (i : Nat) : Bool := decide (σ 34 i = x) && (decide (σ 35 i ≤ d) && decide (d ≤ σ 36 i))
theorem cov_s {f : Nat} {σ : qMem} {x d : Int32} {n : Nat} (hn : σ 33 3 = nI n) (hn2 : n ≤ 20) (hf : 100 < f) : p_Spans_covers_33 f σ x d = some (anyI (sickB σ x d) n 0) := by
  unfold p_Spans_covers_33
  refine up1 (n := n) (res := fun i => anyI (sickB σ x d) (n - i) i) (by omega) (fun k => ?_) (fun k i hi hk => ?_)
  · unfold p_Spans_covers_33_l2
    rw [hn, if_pos (nI_le (Nat.le_refl _) (by omega)), Nat.sub_self]
    rfl
  · unfold p_Spans_covers_33_l2
    have hq := qin_nI (k := i) (n := 20) (by omega) (by omega)
    have hk' : k (nI i + 1) = some (anyI (sickB σ x d) (n - (i + 1)) (i + 1)) := by rw [nI_1]; exact hk
    rw [hn, if_neg (nI_ge hi (by omega)), if_pos hq, if_pos hq, if_pos hq, qi_nI (by omega), anyI_s hi, hk']
    unfold sickB
    by_cases c1 : σ 34 i = x
    · rw [if_pos c1]
      by_cases c2 : d < σ 35 i
      · rw [if_pos c2, if_neg (by simp only [Bool.and_eq_true, decide_eq_true_eq]; exact fun h => absurd h.2.1 (Int32.not_le.mpr c2))]
      · rw [if_neg c2]
        by_cases c3 : σ 36 i < d
        · rw [if_pos c3, if_neg (by simp only [Bool.and_eq_true, decide_eq_true_eq]; exact fun h => absurd h.2.2 (Int32.not_le.mpr c3))]
        · rw [if_neg c3, if_pos (by simp only [Bool.and_eq_true, decide_eq_true_eq]; exact ⟨c1, Int32.not_lt.mp c2, Int32.not_lt.mp c3⟩)]
    · rw [if_neg c1, if_neg (by simp only [Bool.and_eq_true, decide_eq_true_eq]; exact fun h => c1 h.1)]
theorem cov_m {f : Nat} {σ : qMem} {x d : Int32} {n : Nat} (h : g_si σ) (hn : σ 33 3 = nI n) (hn2 : n ≤ 20) (hf : 100 < f) : p_M_isSick f σ x d = some (anyI (sickB σ x d) n 0) := by
  obtain ⟨e1, e2, e3, n', -, e4, e5⟩ := h
  have e6 : σ 104 27 = nI n := by rw [e5, ← e4, hn]
  unfold p_M_isSick
  have hh := up2 (F := p_M_isSick_l5 f σ x d) (n := n) (f := f) (a := (0 : Int32)) (res := fun a i => if a = 0 then anyI (sickB σ x d) (n - i) i else vp_nar .boolean (if i < n then 1 else a)) (by omega) ?_ ?_
  · rw [hh]
    simp
  · intro k a
    unfold p_M_isSick_l5
    rw [e6, if_pos (nI_le (Nat.le_refl _) (by omega)), Nat.sub_self, if_neg (Nat.lt_irrefl n)]
    by_cases ha : a = 0
    · rw [if_pos ha, ha, zn_0]; rfl
    · rw [if_neg ha]
  · intro k a i hi hk
    unfold p_M_isSick_l5
    have hq := qin_nI (k := i) (n := 20) (by omega) (by omega)
    have hz : k 0 (nI i + 1) = some (anyI (sickB σ x d) (n - (i + 1)) (i + 1)) := by rw [nI_1, hk 0, if_pos rfl]
    have ho : k 1 (nI i + 1) = some 1 := by
      rw [nI_1, hk 1, if_neg (by decide)]
      by_cases c : i + 1 < n
      · rw [if_pos c, zn_1]
      · rw [if_neg c, zn_1]
    rw [e6, if_neg (nI_ge hi (by omega)), if_pos hq, if_pos hq, if_pos hq, qi_nI (by omega), hz, ho, ← e1, ← e2, ← e3, anyI_s hi]
    by_cases ha : a = 0
    · rw [if_pos ha, if_pos ha]
      unfold sickB
      by_cases c1 : σ 34 i = x
      · rw [if_pos c1]
        by_cases c2 : d < σ 35 i
        · rw [if_pos c2, if_neg (by simp only [Bool.and_eq_true, decide_eq_true_eq]; exact fun h => absurd h.2.1 (Int32.not_le.mpr c2))]
        · rw [if_neg c2]
          by_cases c3 : σ 36 i < d
          · rw [if_pos c3, if_neg (by simp only [Bool.and_eq_true, decide_eq_true_eq]; exact fun h => absurd h.2.2 (Int32.not_le.mpr c3))]
          · rw [if_neg c3, if_pos (by simp only [Bool.and_eq_true, decide_eq_true_eq]; exact ⟨c1, Int32.not_lt.mp c2, Int32.not_lt.mp c3⟩)]
      · rw [if_neg c1, if_neg (by simp only [Bool.and_eq_true, decide_eq_true_eq]; exact fun h => c1 h.1)]
    · rw [if_neg ha, if_neg ha, if_pos hi, zn_1]
