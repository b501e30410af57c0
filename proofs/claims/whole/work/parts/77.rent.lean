/-! empty days -/
theorem sm_ones {g : Nat → Nat} {a : Nat} : ∀ {n : Nat}, a ≤ n → (∀ i, a ≤ i → i < n → g i = 1) → sm g n = sm g a + (n - a)
  | 0, h, _ => by
    have : a = 0 := by omega
    subst this
    rfl
  | n + 1, h, e => by
    by_cases c : a = n + 1
    · subst c
      rw [Nat.sub_self]
      rfl
    · rw [show sm g (n + 1) = sm g n + g n from rfl, sm_ones (n := n) (by omega) (fun i h1 h2 => e i h1 (by omega)), e n (by omega) (by omega)]
      omega
def ea (σ : qMem) (k : Nat) : Nat := qi (σ 61 k)
def eb (σ : qMem) (k : Nat) : Nat := qi (σ 62 k)
def emH (σ : qMem) (n : Nat) : Prop := n ≤ 20 ∧ σ 59 3 = nI n ∧ ∀ k, k < n → ea σ k ≤ eb σ k ∧ eb σ k ≤ 9999 ∧ σ 61 k = nI (ea σ k) ∧ σ 62 k = nI (eb σ k)
theorem g_em.h {σ : qMem} (h : g_em σ) : ∃ n, emH σ n ∧ σ 60 = σ 129 ∧ σ 61 = σ 130 ∧ σ 62 = σ 131 ∧ σ 104 42 = nI n := by
  obtain ⟨e1, e2, e3, n, hn, e4, e5, hk⟩ := h
  refine ⟨n, ⟨hn, e4, fun k hk2 => ?_⟩, e1, e2, e3, e5⟩
  obtain ⟨a, b, h1, h2, h3, h4⟩ := hk k hk2
  unfold ea eb
  rw [h3, h4, qi_nI (by omega), qi_nI (by omega)]
  exact ⟨h1, h2, rfl, rfl⟩
def covR (σ : qMem) (x : Int32) (d : Nat) : Nat → Bool
  | 0 => false
  | k + 1 => covR σ x d k || (decide (σ 60 k = x) && (decide (ea σ k ≤ d) && decide (d ≤ eb σ k)))
theorem covR_t {σ : qMem} {x : Int32} {d : Nat} : ∀ {n : Nat}, covR σ x d n = true ↔ ∃ k, k < n ∧ σ 60 k = x ∧ ea σ k ≤ d ∧ d ≤ eb σ k
  | 0 => ⟨fun h => absurd (show false = true from h) (by decide), fun ⟨k, hk, _⟩ => absurd hk (Nat.not_lt_zero _)⟩
  | n + 1 => by
    unfold covR
    rw [Bool.or_eq_true, covR_t]
    simp only [Bool.and_eq_true, decide_eq_true_eq]
    constructor
    · rintro (⟨k, hk, h⟩ | h)
      · exact ⟨k, by omega, h⟩
      · exact ⟨n, by omega, h⟩
    · rintro ⟨k, hk, h⟩
      by_cases c : k = n
      · subst c; exact Or.inr h
      · exact Or.inl ⟨k, by omega, h⟩
def cdP (σ : qMem) (x : Int32) (F k : Nat) : Prop := σ 60 k = x ∧ F ≤ eb σ k
theorem next_c {f : Nat} {σ : qMem} {n F : Nat} {x : Int32} (h : emH σ n) (hF : F ≤ 20000) (hf : 100 < f) : ∃ r, p_Spans_nextSpan_59 f σ x (nI F) = some r ∧ ((r = -1000000 ∧ ∀ k, k < n → ¬ cdP σ x F k) ∨ ∃ k0, k0 < n ∧ r = nI k0 ∧ cdP σ x F k0 ∧ ∀ k, k < n → cdP σ x F k → ea σ k0 ≤ ea σ k) := by
  have hn : n ≤ 20 := h.1
  unfold p_Spans_nextSpan_59
  have key := wf2 (F := p_Spans_nextSpan_59_l6 f σ x (nI F)) (fun a y => ∃ i : Nat, i ≤ n ∧ y = nI i ∧ ((a = -1000000 ∧ ∀ k, k < i → ¬ cdP σ x F k) ∨ ∃ k0, k0 < i ∧ a = nI k0 ∧ cdP σ x F k0 ∧ ∀ k, k < i → cdP σ x F k → ea σ k0 ≤ ea σ k)) (fun _ y => 100 - qi y) (fun _ _ r => (r = -1000000 ∧ ∀ k, k < n → ¬ cdP σ x F k) ∨ ∃ k0, k0 < n ∧ r = nI k0 ∧ cdP σ x F k0 ∧ ∀ k, k < n → cdP σ x F k → ea σ k0 ≤ ea σ k) ?_ f (-1000000) 0 ⟨0, by omega, rfl, Or.inl ⟨rfl, fun k hk => absurd hk (Nat.not_lt_zero _)⟩⟩ (by show 100 - _ < f; omega)
  · exact key
  · rintro k a y ⟨i, hi, rfl, hI⟩ ih
    unfold p_Spans_nextSpan_59_l6
    rw [h.2.1]
    by_cases c : i = n
    · subst c
      rw [if_pos (nI_le (Nat.le_refl _) (by omega))]
      exact ⟨a, rfl, hI⟩
    · have hin : i < n := by omega
      have hq := qin_nI (k := i) (n := 20) (by omega) (by omega)
      have hqi : qi (nI i) = i := qi_nI (by omega)
      obtain ⟨b1, b2, b3, b4⟩ := h.2.2 i hin
      have hm : 100 - qi (nI (i + 1)) < 100 - qi (nI i) := by rw [qi_nI (by omega), qi_nI (by omega)]; omega
      rw [if_neg (nI_ge hin (by omega)), if_pos hq, if_pos hq, hqi, nI_1, if_pos hq]
      have stay : ¬ cdP σ x F i → ∃ r, k a (nI (i + 1)) = some r ∧ ((r = -1000000 ∧ ∀ k, k < n → ¬ cdP σ x F k) ∨ ∃ k0, k0 < n ∧ r = nI k0 ∧ cdP σ x F k0 ∧ ∀ k, k < n → cdP σ x F k → ea σ k0 ≤ ea σ k) := by
        intro hno
        refine ih a (nI (i + 1)) ⟨i + 1, by omega, rfl, ?_⟩ hm
        rcases hI with ⟨e, h1⟩ | ⟨k0, h0, e, h1, h2⟩
        · refine Or.inl ⟨e, fun j hj => ?_⟩
          by_cases q : j = i
          · rw [q]; exact hno
          · exact h1 j (by omega)
        · refine Or.inr ⟨k0, by omega, e, h1, fun j hj hc => ?_⟩
          by_cases q : j = i
          · rw [q] at hc; exact absurd hc hno
          · exact h2 j (by omega) hc
      by_cases c1 : σ 60 i = x
      · rw [if_pos c1, b4]
        by_cases c2 : eb σ i < F
        · rw [if_pos (nI_lt c2 (by omega))]
          exact stay (fun w => by have := w.2; omega)
        · rw [if_neg (nI_nlt (by omega) (by omega))]
          have hci : cdP σ x F i := ⟨c1, by omega⟩
          rcases hI with ⟨e, h1⟩ | ⟨k0, h0, e, h1, h2⟩
          · rw [if_pos e]
            refine ih (nI i) (nI (i + 1)) ⟨i + 1, by omega, rfl, Or.inr ⟨i, by omega, rfl, hci, fun j hj hc => ?_⟩⟩ hm
            by_cases q : j = i
            · rw [q]; exact Nat.le_refl _
            · exact absurd hc (h1 j (by omega))
          · obtain ⟨d1, d2, d3, d4⟩ := h.2.2 k0 (by omega)
            rw [if_neg (by rw [e]; exact nI_nn (by omega)), e, if_pos (qin_nI (by omega) (by omega)), qi_nI (by omega), b3, d3]
            by_cases c3 : ea σ k0 ≤ ea σ i
            · rw [if_pos (nI_le c3 (by omega))]
              refine ih (nI k0) (nI (i + 1)) ⟨i + 1, by omega, rfl, Or.inr ⟨k0, by omega, rfl, h1, fun j hj hc => ?_⟩⟩ hm
              by_cases q : j = i
              · rw [q]; exact c3
              · exact h2 j (by omega) hc
            · rw [if_neg (nI_ge (by omega) (by omega))]
              refine ih (nI i) (nI (i + 1)) ⟨i + 1, by omega, rfl, Or.inr ⟨i, by omega, rfl, hci, fun j hj hc => ?_⟩⟩ hm
              by_cases q : j = i
              · rw [q]; exact Nat.le_refl _
              · have := h2 j (by omega) hc
                omega
      · rw [if_neg c1]
        exact stay (fun w => c1 w.1)
/-- the empty days of [f0, F) -/
def ecn (σ : qMem) (x : Int32) (n f0 F : Nat) : Nat := sm (fun i => bI (covR σ x (f0 + i) n)) (F - f0)
noncomputable def remN (σ : qMem) (x : Int32) (n F : Nat) : Nat := sm (fun k => bI (@decide (cdP σ x F k) (Classical.propDecidable _))) n
theorem rem_0 {σ : qMem} {x : Int32} {n F : Nat} (h : remN σ x n F = 0) : ∀ k, k < n → ¬ cdP σ x F k := by
  intro k hk hc
  have := sm_ge (g := fun k => bI (@decide (cdP σ x F k) (Classical.propDecidable _))) hk
  unfold remN at h
  rw [h] at this
  simp [hc, bI] at this
theorem rem_lt {σ : qMem} {x : Int32} {n F F' k0 : Nat} (hk : k0 < n) (h0 : cdP σ x F k0) (h1 : ¬ cdP σ x F' k0) (hF : F ≤ F') : remN σ x n F' + 1 ≤ remN σ x n F := by
  have h2 : ∀ k, k < n → (bI (@decide (cdP σ x F' k) (Classical.propDecidable _))) + (if k = k0 then 1 else 0) ≤ bI (@decide (cdP σ x F k) (Classical.propDecidable _)) := by
    intro k hk2
    by_cases q : k = k0
    · subst q
      simp [h0, h1, bI]
    · rw [if_neg q, Nat.add_zero]
      by_cases c : cdP σ x F' k
      · have c2 : cdP σ x F k := ⟨c.1, by have := c.2; omega⟩
        simp [c, c2, bI]
      · simp [c, bI]
  have h3 := sm_le h2
  rw [sm_add, sm_one (g := fun k => if k = k0 then 1 else 0) hk (fun i _ hne => if_neg hne)] at h3
  rw [if_pos rfl] at h3
  exact h3
theorem days_end {σ : qMem} {x : Int32} {n f0 F L : Nat} (h1 : f0 ≤ F) (h2 : F ≤ L + 1) (hno : ∀ d, F ≤ d → d ≤ L → ¬ covR σ x d n = true) : ecn σ x n f0 F = ecn σ x n f0 (L + 1) := by
  unfold ecn
  refine (sm_tail (by omega) (fun i a b => ?_)).symm
  have := hno (f0 + i) (by omega) (by omega)
  simp [this, bI]
theorem days_c {f : Nat} {σ : qMem} {n f0 L : Nat} {x : Int32} (h : emH σ n) (hfL : f0 ≤ L) (hL : L ≤ 15000) (hf : 100 < f) : p_Spans_daysWithin_59 f σ x (nI f0) (nI L) = some (nI (ecn σ x n f0 (L + 1))) := by
  have hn : n ≤ 20 := h.1
  unfold p_Spans_daysWithin_59
  have key := wf3 (F := p_Spans_daysWithin_59_l9 f σ x (nI L)) (fun a b y => ∃ s F : Nat, s ≤ n ∧ y = nI s ∧ b = nI F ∧ f0 ≤ F ∧ F ≤ L + 1 ∧ a = nI (ecn σ x n f0 F) ∧ (F = L + 1 ∨ remN σ x n F + s ≤ n)) (fun _ _ y => 100 - qi y) (fun _ _ _ r => r = nI (ecn σ x n f0 (L + 1))) ?_ f 0 (nI f0) 0 ⟨0, f0, by omega, rfl, rfl, Nat.le_refl _, by omega, ?_, Or.inr ?_⟩ (by show 100 - _ < f; omega)
  · obtain ⟨r, e, rfl⟩ := key
    exact e
  · rintro k a b y ⟨s, F, hs, rfl, rfl, hF1, hF2, rfl, hrem⟩ ih
    unfold p_Spans_daysWithin_59_l9
    rw [h.2.1]
    by_cases c : s = n
    · subst c
      rw [if_pos (nI_le (Nat.le_refl _) (by omega))]
      refine ⟨_, rfl, ?_⟩
      rcases hrem with q | q
      · rw [q]
      · rw [days_end hF1 hF2 (fun d d1 d2 w => by
          obtain ⟨k, hk, w1, w2, w3⟩ := covR_t.mp w
          exact rem_0 (F := F) (by omega) k hk ⟨w1, by omega⟩)]
    · rw [if_neg (nI_ge (show s < n by omega) (by omega))]
      by_cases c1 : L < F
      · rw [if_pos (nI_lt c1 (by omega))]
        exact ⟨_, rfl, by rw [show F = L + 1 by omega]⟩
      · rw [if_neg (nI_nlt (by omega) (by omega))]
        have hrem' : remN σ x n F + s ≤ n := hrem.resolve_left (by omega)
        obtain ⟨r, er, hr⟩ := next_c (f := f) (x := x) (F := F) h (by omega) hf
        rw [er, Option.bind_some]
        rcases hr with ⟨rfl, hno⟩ | ⟨k0, hk0, rfl, hc0, hmin⟩
        · rw [if_pos rfl]
          refine ⟨_, rfl, ?_⟩
          rw [days_end hF1 hF2 (fun d d1 d2 w => by
            obtain ⟨k, hk, w1, w2, w3⟩ := covR_t.mp w
            exact hno k hk ⟨w1, by omega⟩)]
        · obtain ⟨b1, b2, b3, b4⟩ := h.2.2 k0 hk0
          have hq := qin_nI (k := k0) (n := 20) (by omega) (by omega)
          rw [if_neg (nI_nn (by omega)), if_pos hq, if_pos hq, if_pos hq, qi_nI (by omega), b3, b4]
          by_cases c2 : ea σ k0 ≤ L
          · rw [if_pos (nI_le c2 (by omega)), imin (a := L) (b := eb σ k0) (by omega) (by omega)]
            have hmx : (if nI (ea σ k0) < nI F then nI F else nI (ea σ k0)) = nI (max (ea σ k0) F) := by
              by_cases q : ea σ k0 < F
              · rw [if_pos (nI_lt q (by omega)), Nat.max_eq_right (by omega)]
              · rw [if_neg (nI_nlt (by omega) (by omega)), Nat.max_eq_left (by omega)]
            rw [hmx]
            have hle : max (ea σ k0) F ≤ min (eb σ k0) L := by
              have := hc0.2
              omega
            rw [pk_sub hle, nI_1, nI_add, nI_1, nI_1]
            have hcnt : ecn σ x n f0 F + (min (eb σ k0) L - max (ea σ k0) F + 1) = ecn σ x n f0 (min (eb σ k0) L + 1) := by
              unfold ecn
              rw [sm_ones (a := max (ea σ k0) F - f0) (n := min (eb σ k0) L + 1 - f0) (by omega) (fun i i1 i2 => by
                have : covR σ x (f0 + i) n = true := covR_t.mpr ⟨k0, hk0, hc0.1, by omega, by omega⟩
                simp [this, bI]), sm_tail (a := F - f0) (n := max (ea σ k0) F - f0) (by omega) (fun i i1 i2 => by
                have : ¬ covR σ x (f0 + i) n = true := fun w => by
                  obtain ⟨k, hk, w1, w2, w3⟩ := covR_t.mp w
                  have := hmin k hk ⟨w1, by omega⟩
                  omega
                simp [this, bI])]
              omega
            rw [hcnt]
            refine ih _ _ _ ⟨s + 1, min (eb σ k0) L + 1, by omega, rfl, rfl, by omega, by omega, rfl, ?_⟩ (by rw [qi_nI (by omega), qi_nI (by omega)]; omega)
            by_cases q : eb σ k0 ≤ L
            · right
              have := rem_lt (F' := min (eb σ k0) L + 1) hk0 hc0 (fun w => by have := w.2; omega) (by have := hc0.2; omega)
              omega
            · left
              omega
          · rw [if_neg (nI_ge (by omega) (by omega))]
            refine ⟨_, rfl, ?_⟩
            rw [days_end hF1 hF2 (fun d d1 d2 w => by
              obtain ⟨k, hk, w1, w2, w3⟩ := covR_t.mp w
              have := hmin k hk ⟨w1, by omega⟩
              omega)]
  · unfold ecn
    rw [Nat.sub_self]
    rfl
  · have : remN σ x n f0 ≤ n := by
      unfold remN
      have h2 := sm_cnt (fun k => @decide (cdP σ x f0 k) (Classical.propDecidable _)) n
      omega
    omega
/-! the model's days -/
theorem l66_run {f : Nat} {σ : qMem} {n d : Nat} {x x2 x3 x4 : Int32} (h : emH σ n) (e1 : σ 60 = σ 129) (e2 : σ 61 = σ 130) (e3 : σ 62 = σ 131) (e4 : σ 104 42 = nI n) (hd : d ≤ 20000) (hf : 100 < f) (k46 : Int32 → Int32 → Option Int32) : qfix2 (p_M_rentOf_l66 f σ x x2 x3 x4 (nI d) k46) f 0 0 = k46 (x4 + nI (bI (covR σ x d n))) (nI (d + 1)) := by
  have hn : n ≤ 20 := h.1
  refine run2o (n := n) (f := f) (fun k => if covR σ x d k = true then (1 : Int32) else 0) (by omega) (fun k => ?_) (fun k i hi => ?_)
  · unfold p_M_rentOf_l66
    rw [e4, if_pos (nI_le (Nat.le_refl _) (by omega)), nI_1]
    by_cases c : covR σ x d n = true
    · rw [if_pos c, if_neg (by decide), c]; rfl
    · have c' : covR σ x d n = false := by simpa using c
      rw [if_neg c, if_pos rfl, c']; rfl
  · have hq := qin_nI (k := i) (n := 20) (by omega) (by omega)
    have hqi : qi (nI i) = i := qi_nI (by omega)
    obtain ⟨b1, b2, b3, b4⟩ := h.2.2 i hi
    have hcv : covR σ x d (i + 1) = (covR σ x d i || (decide (σ 60 i = x) && (decide (ea σ i ≤ d) && decide (d ≤ eb σ i)))) := rfl
    unfold p_M_rentOf_l66
    rw [e4, if_neg (nI_ge hi (by omega)), if_pos hq, if_pos hq, if_pos hq, hqi, ← e1, ← e2, ← e3, b3, b4, nI_1, hcv]
    by_cases c0 : covR σ x d i = true
    · rw [c0, if_pos rfl, if_neg (by decide)]
      simp
    · have c0' : covR σ x d i = false := by simpa using c0
      rw [c0']
      by_cases c1 : σ 60 i = x
      · by_cases c2 : d < ea σ i
        · simp [c1, nI_lt c2 (show ea σ i < 2 ^ 31 by omega), show ¬ ea σ i ≤ d by omega]
        · by_cases c3 : eb σ i < d
          · simp [c1, nI_nlt (show ea σ i ≤ d by omega) (show d < 2 ^ 31 by omega), nI_lt c3 (show d < 2 ^ 31 by omega), show ¬ d ≤ eb σ i by omega]
          · simp [c1, nI_nlt (show ea σ i ≤ d by omega) (show d < 2 ^ 31 by omega), nI_nlt (show d ≤ eb σ i by omega) (show eb σ i < 2 ^ 31 by omega), show ea σ i ≤ d by omega, show d ≤ eb σ i by omega]
      · simp [c1]
/-! repairs -/
def rpB (σ : qMem) (x y : Int32) (k : Nat) : Bool := decide (σ 56 k = x) && decide (σ 57 k = y)
def rpS (σ : qMem) (x y : Int32) : Nat → Int32
  | 0 => 0
  | k + 1 => if rpB σ x y k = true then rpS σ x y k + σ 58 k else rpS σ x y k
theorem repairs_c {f : Nat} {σ : qMem} {n : Nat} {x y : Int32} (hn : σ 53 5 = nI n) (hn2 : n ≤ 20) (hf : 100 < f) : p_Houses_repairsIn f σ x y = some (rpS σ x y n) := by
  unfold p_Houses_repairsIn
  refine run2 (n := n) (f := f) (rpS σ x y) (by omega) (fun k => ?_) (fun k i hi => ?_)
  · unfold p_Houses_repairsIn_l5
    rw [hn, if_pos (nI_le (Nat.le_refl _) (by omega))]
  · have hq := qin_nI (k := i) (n := 20) (by omega) (by omega)
    have hqi : qi (nI i) = i := qi_nI (by omega)
    unfold p_Houses_repairsIn_l5
    rw [hn, if_neg (nI_ge hi (by omega)), if_pos hq, if_pos hq, if_pos hq, hqi, nI_1, show rpS σ x y (i + 1) = if rpB σ x y i = true then rpS σ x y i + σ 58 i else rpS σ x y i from rfl]
    unfold rpB
    by_cases c1 : σ 56 i = x <;> by_cases c2 : σ 57 i = y <;> simp [c1, c2]
theorem i32_ss (a b c : Int32) : a - b - c = a - (b + c) := by
  have e : -(b + c) = -b + -c := by rw [Int32.neg_add, Int32.sub_eq_add_neg]
  rw [Int32.sub_eq_add_neg a (b + c), e, Int32.sub_eq_add_neg (a - b) c, Int32.sub_eq_add_neg a b, Int32.add_assoc]
theorem repairs_m {f : Nat} {σ : qMem} {n : Nat} {x y v : Int32} (e1 : σ 56 = σ 126) (e2 : σ 57 = σ 127) (e3 : σ 58 = σ 128) (hn : σ 104 38 = nI n) (hn2 : n ≤ 20) (hf : 100 < f) : qfix2 (p_M_rentOf_l164 f σ x y) f v 0 = some (if 0 ≤ v - rpS σ x y n then v - rpS σ x y n else 0) := by
  have h0 : v = v - rpS σ x y 0 := (Int32.sub_zero v).symm
  conv => lhs; rw [h0]
  refine run2 (n := n) (f := f) (fun k => v - rpS σ x y k) (by omega) (fun k => ?_) (fun k i hi => ?_)
  · unfold p_M_rentOf_l164
    rw [hn, if_pos (nI_le (Nat.le_refl _) (by omega))]
    by_cases c : 0 ≤ v - rpS σ x y n
    · rw [if_pos c, if_pos c]
    · rw [if_neg c, if_neg c]
  · have hq := qin_nI (k := i) (n := 20) (by omega) (by omega)
    have hqi : qi (nI i) = i := qi_nI (by omega)
    unfold p_M_rentOf_l164
    rw [hn, if_neg (nI_ge hi (by omega)), if_pos hq, if_pos hq, if_pos hq, hqi, nI_1, show rpS σ x y (i + 1) = if rpB σ x y i = true then rpS σ x y i + σ 58 i else rpS σ x y i from rfl, ← e1, ← e2, ← e3, i32_ss, Int32.sub_zero]
    unfold rpB
    by_cases c1 : σ 56 i = x <;> by_cases c2 : σ 57 i = y <;> simp [c1, c2]
/-! the rent of a year -/
def shV (v s : Int32) : Nat → Int32
  | 0 => v
  | k + 1 => shV v s k - (shV v s k * s) / 100
def rtV (σ : qMem) (h y nE nR : Nat) : Int32 :=
  let v := shV (σ 54 h) (σ 55 h) y
  let w := (v - rpS σ (nI h) (nI y) nR) - (v * nI (ecn σ (nI h) nE (360 * y) (360 * y + 360))) / 360
  if 0 ≤ w then w else 0
theorem rent_c {f : Nat} {σ : qMem} {h y nE nR : Nat} (hE : emH σ nE) (hR : σ 53 5 = nI nR) (hR2 : nR ≤ 20) (hh : h < 6) (hy : y ≤ 27) (hf : 100 < f) : p_Houses_rentIn f σ (nI h) (nI y) = some (rtV σ h y nE nR) := by
  have hq := qin_nI (k := h) (n := 6) hh (by omega)
  have hqi : qi (nI h) = h := qi_nI (by omega)
  have e1 : nI y * 360 = nI (360 * y) := by rw [show (360 : Int32) = nI 360 from rfl, nI_mul, Nat.mul_comm]
  have e2 : nI (360 * y) + 360 - 1 = nI (360 * y + 359) := by
    rw [show (360 : Int32) = nI 360 from rfl, nI_add]
    exact nI_pred _
  unfold p_Houses_rentIn
  rw [if_pos hq, hqi]
  refine run2 (n := y) (f := f) (shV (σ 54 h) (σ 55 h)) (by omega) (fun k => ?_) (fun k i hi => ?_)
  · unfold p_Houses_rentIn_l10
    rw [if_pos (nI_le (Nat.le_refl _) (by omega)), e1, e2, days_c hE (by omega) (by omega) hf, Option.bind_some, repairs_c hR hR2 hf, Option.bind_some, max0]
    rfl
  · unfold p_Houses_rentIn_l10
    rw [if_neg (nI_ge hi (by omega)), if_pos hq, hqi, nI_1]
    rfl
theorem rent_m {f : Nat} {σ : qMem} {h y nE nR : Nat} (hE : emH σ nE) (e60 : σ 60 = σ 129) (e61 : σ 61 = σ 130) (e62 : σ 62 = σ 131) (e42 : σ 104 42 = nI nE) (e56 : σ 56 = σ 126) (e57 : σ 57 = σ 127) (e58 : σ 58 = σ 128) (hR : σ 104 38 = nI nR) (hR2 : nR ≤ 20) (hho : g_ho σ) (hh : h < 6) (hy : y ≤ 27) (hf : 1000 < f) : p_M_rentOf f σ (nI h) (nI y) = some (rtV σ h y nE nR) := by
  have hq := qin_nI (k := h) (n := 6) hh (by omega)
  have hqi : qi (nI h) = h := qi_nI (by omega)
  have e1 : (360 : Int32) * nI y = nI (360 * y) := by rw [show (360 : Int32) = nI 360 from rfl, nI_mul]
  have e2 : nI (360 * y) + 360 = nI (360 * y + 360) := by rw [show (360 : Int32) = nI 360 from rfl, nI_add]
  unfold p_M_rentOf
  rw [if_pos hq, hqi, ← hho.1]
  refine run2 (n := y) (f := f) (shV (σ 54 h) (σ 55 h)) (by omega) (fun k => ?_) (fun k i hi => ?_)
  · unfold p_M_rentOf_l10
    rw [if_pos (nI_le (Nat.le_refl _) (by omega)), e1]
    have z : ecn σ (nI h) nE (360 * y) (360 * y + 0) = 0 := by
      unfold ecn
      rw [show 360 * y + 0 - 360 * y = 0 by omega]
      rfl
    refine Eq.trans (b := qfix2 (p_M_rentOf_l46 f σ (nI h) (nI y) (shV (σ 54 h) (σ 55 h) y)) f (nI (ecn σ (nI h) nE (360 * y) (360 * y + 0))) (nI (360 * y + 0))) (by rw [z]; rfl) ?_
    refine run2x (n := 360) (f := f) (fun t => nI (ecn σ (nI h) nE (360 * y) (360 * y + t))) (fun t => nI (360 * y + t)) (by omega) (fun k2 => ?_) (fun k2 i hi => ?_)
    · unfold p_M_rentOf_l46
      rw [e1, e2, if_pos (nI_le (Nat.le_refl _) (by omega)), repairs_m e56 e57 e58 hR hR2 (by omega)]
      unfold rtV
      have hsw : ∀ a b c : Int32, a - b - c = a - c - b := fun a b c => by rw [i32_ss, i32_ss, Int32.add_comm]
      simp only []
      rw [hsw]
    · unfold p_M_rentOf_l46
      rw [e1, e2, if_neg (nI_ge (by omega) (by omega)), l66_run hE e60 e61 e62 e42 (by omega) (by omega), nI_add]
      have : ecn σ (nI h) nE (360 * y) (360 * y + i) + bI (covR σ (nI h) (360 * y + i) nE) = ecn σ (nI h) nE (360 * y) (360 * y + (i + 1)) := by
        unfold ecn
        rw [show 360 * y + (i + 1) - 360 * y = i + 1 by omega, show 360 * y + i - 360 * y = i by omega]
        rfl
      rw [this]
      rfl
  · unfold p_M_rentOf_l10
    rw [if_neg (nI_ge hi (by omega)), if_pos hq, hqi, nI_1, ← hho.2]
    rfl
