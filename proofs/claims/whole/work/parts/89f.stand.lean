/-! a dawn: the model -/
def dwM (f : Nat) (τ : qMem) (day : Int32) (s : Nat) (w al pr : Nat → Nat) (sk : Nat → Bool) (v : Nat → Nat) : Prop := s ≤ 8 ∧ (∀ i, i < s → τ 145 i = nI (w i) ∧ p_M_of f τ (nI (w i)) 2 = some (nI (al i)) ∧ al i ≤ 3 ∧ p_M_of f τ (nI (w i)) 3 = some (nI (pr i)) ∧ pr i ≤ 7 ∧ p_M_isSick f τ (nI (pr i)) day = some (b01 (sk i))) ∧ ∀ p, p < 8 → τ 116 p = nI (v p) ∧ v p ≤ 3
theorem stand_m {f : Nat} {τ : qMem} {day : Int32} {s n : Nat} {w al pr : Nat → Nat} {sk : Nat → Bool} {v : Nat → Nat} {h : Nat → Nat} (hd : dwM f τ day s w al pr sk v) (hn : n < s) (h143 : ∀ i, i ≤ n → h i ≤ 5 ∧ τ 143 i = nI (h i)) (hf : 100 < f) : p_M_mayStand f τ (nI n) day = some (bP (okH al pr sk v h n)) := by
  have hs : s ≤ 8 := hd.1
  have hq := qin_nI (k := n) (n := 8) (by omega) (by omega)
  have hi : qi (nI n) = n := qi_nI (by omega)
  obtain ⟨a1, a2, a3, a4, a5, a6⟩ := hd.2.1 n hn
  obtain ⟨b1, b2⟩ := h143 n (Nat.le_refl _)
  obtain ⟨v1, v2⟩ := hd.2.2 (pr n) (by omega)
  unfold p_M_mayStand
  rw [if_pos hq, hi, b2]
  by_cases c0 : h n = 5
  · rw [if_pos (show nI (h n) = 5 by rw [c0]; rfl), bP_p (show okH al pr sk v h n from Or.inl c0)]
  · rw [if_neg (show ¬ nI (h n) = 5 from fun z => c0 ((nI_eq (a := h n) (b := 5) (by omega) (by omega)).mp z)), if_pos hq, a1, a4, Option.bind_some, a6, Option.bind_some]
    have run : ∀ v0 : Int32, (v0 = 0 ∨ v0 = 1) → qfix3 (p_M_mayStand_l46 f τ (nI n) (nI (pr n))) f v0 0 0 = some (if gdA v0 (fun k => decide (h k = h n ∧ (pr k = pr n ∨ al k = al n))) n = 1 ∧ sm (fun k => bI (decide (pr k = pr n) && decide (h k < 5))) n < v (pr n) then 1 else 0) := by
      intro v0 hv0
      refine run3o (n := n) (f := f) (fun k => gdA v0 (fun k => decide (h k = h n ∧ (pr k = pr n ∨ al k = al n))) k) (fun k => nI (sm (fun k => bI (decide (pr k = pr n) && decide (h k < 5))) k)) (by omega) (fun k => ?_) (fun k i hi2 => ?_)
      · have hsm : sm (fun k => bI (decide (pr k = pr n) && decide (h k < 5))) n ≤ n := by have := sm_cnt (fun k => decide (pr k = pr n) && decide (h k < 5)) n; omega
        unfold p_M_mayStand_l46
        rw [if_pos (nI_le (Nat.le_refl _) (by omega)), if_pos (qin_nI (by omega) (by omega)), qi_nI (by omega), v1]
        rcases gdA_01 (C := fun k => decide (h k = h n ∧ (pr k = pr n ∨ al k = al n))) hv0 n with g0 | g1
        · rw [if_pos g0, if_neg (fun z => absurd (g0.symm.trans z.1) (by decide))]
        · rw [if_neg (by rw [g1]; decide)]
          by_cases q : sm (fun k => bI (decide (pr k = pr n) && decide (h k < 5))) n < v (pr n)
          · rw [if_neg (nI_ge q (by omega)), if_pos ⟨g1, q⟩]
          · rw [if_pos (nI_le (by omega) (by omega)), if_neg (fun z => q z.2)]
      · have hqi := qin_nI (k := i) (n := 8) (by omega) (by omega)
        have hii : qi (nI i) = i := qi_nI (by omega)
        obtain ⟨c1, c2, c3, c4, c5, -⟩ := hd.2.1 i (by omega)
        obtain ⟨d1, d2⟩ := h143 i (by omega)
        have hga : gdA v0 (fun k => decide (h k = h n ∧ (pr k = pr n ∨ al k = al n))) (i + 1) = if decide (h i = h n ∧ (pr i = pr n ∨ al i = al n)) = true then 0 else gdA v0 (fun k => decide (h k = h n ∧ (pr k = pr n ∨ al k = al n))) i := rfl
        have hsm : sm (fun k => bI (decide (pr k = pr n) && decide (h k < 5))) (i + 1) = sm (fun k => bI (decide (pr k = pr n) && decide (h k < 5))) i + bI (decide (pr i = pr n) && decide (h i < 5)) := rfl
        rw [hga, hsm]
        have tail : ∀ (s0 : Int32), (pr i = pr n ∧ s0 = 1) ∨ (¬ pr i = pr n ∧ s0 = 0) → p_M_mayStand_b73 f k τ (nI n) (nI (pr n)) (gdA v0 (fun k => decide (h k = h n ∧ (pr k = pr n ∨ al k = al n))) i) (nI (sm (fun k => bI (decide (pr k = pr n) && decide (h k < 5))) i)) (nI i) s0 = k (if decide (h i = h n ∧ (pr i = pr n ∨ al i = al n)) = true then 0 else gdA v0 (fun k => decide (h k = h n ∧ (pr k = pr n ∨ al k = al n))) i) (nI (sm (fun k => bI (decide (pr k = pr n) && decide (h k < 5))) i + bI (decide (pr i = pr n) && decide (h i < 5)))) (nI (i + 1)) := by
          intro s0 hs0
          have h132 : ∀ z : Int32, p_M_mayStand_b132 f k τ (nI n) (nI (pr n)) (nI (sm (fun k => bI (decide (pr k = pr n) && decide (h k < 5))) i)) (nI i) s0 z = k z (nI (sm (fun k => bI (decide (pr k = pr n) && decide (h k < 5))) i + bI (decide (pr i = pr n) && decide (h i < 5)))) (nI (i + 1)) := by
            intro z
            unfold p_M_mayStand_b132
            rw [if_pos hqi, hii, d2, nI_1, Int32.add_zero, nI_1]
            rcases hs0 with ⟨q1, q2⟩ | ⟨q1, q2⟩
            · rw [q2, if_neg (by decide)]
              by_cases q3 : h i < 5
              · rw [if_neg (show ¬ (5 : Int32) ≤ nI (h i) from nI_ge (b := 5) q3 (by omega))]
                simp [q1, q3, bI]
              · rw [if_pos (show (5 : Int32) ≤ nI (h i) from nI_le (a := 5) (by omega) (by omega))]
                simp [q1, q3, bI]
            · rw [q2, if_pos rfl]
              simp [q1, bI]
          unfold p_M_mayStand_b73 p_M_mayStand_b131
          rw [h132, h132, if_pos hqi, if_pos hq, hii, hi, d2, b2, if_pos hqi, c1, c2, Option.bind_some, if_pos hq, a1, a2, Option.bind_some]
          rcases gdA_01 (C := fun k => decide (h k = h n ∧ (pr k = pr n ∨ al k = al n))) hv0 i with g0 | g1
          · rw [g0, if_pos rfl]
            by_cases q : decide (h i = h n ∧ (pr i = pr n ∨ al i = al n)) = true
            · rw [if_pos q]
            · rw [if_neg q]
          · rw [g1, if_neg (by decide)]
            by_cases q4 : h i = h n
            · rw [if_pos (by rw [q4])]
              rcases hs0 with ⟨q1, q2⟩ | ⟨q1, q2⟩
              · rw [q2, if_neg (by decide), if_pos (by simp [q4, q1])]
              · rw [q2, if_pos rfl]
                by_cases q5 : al i = al n
                · rw [if_pos (by rw [q5]), if_pos (by simp [q4, q5])]
                · rw [if_neg (fun z => q5 ((nI_eq (by omega) (by omega)).mp z)), if_neg (by simp [q1, q5])]
            · rw [if_neg (fun z => q4 ((nI_eq (by omega) (by omega)).mp z)), if_neg (by simp [q4])]
        unfold p_M_mayStand_l46
        rw [if_neg (nI_ge hi2 (by omega)), if_pos hqi, hii, c1, c4, Option.bind_some]
        by_cases q : pr i = pr n
        · rw [if_pos (by rw [q])]
          exact tail 1 (Or.inl ⟨q, rfl⟩)
        · rw [if_neg (fun z => q ((nI_eq (by omega) (by omega)).mp z))]
          exact tail 0 (Or.inr ⟨q, rfl⟩)
    have fin : ∀ v0 : Int32, (sk n = false → v0 = 1) → (sk n = true → v0 = 0) → some (if gdA v0 (fun k => decide (h k = h n ∧ (pr k = pr n ∨ al k = al n))) n = 1 ∧ sm (fun k => bI (decide (pr k = pr n) && decide (h k < 5))) n < v (pr n) then (1 : Int32) else 0) = some (bP (okH al pr sk v h n)) := by
      intro v0 z1 z0
      have hiff : (gdA v0 (fun k => decide (h k = h n ∧ (pr k = pr n ∨ al k = al n))) n = 1 ∧ sm (fun k => bI (decide (pr k = pr n) && decide (h k < 5))) n < v (pr n)) ↔ okH al pr sk v h n := by
        rw [gdA_1]
        unfold okH
        constructor
        · rintro ⟨⟨q1, q2⟩, q3⟩
          refine Or.inr ⟨?_, fun k hk e z => ?_, q3⟩
          · cases q : sk n
            · rfl
            · rw [z0 q] at q1; exact absurd q1 (by decide)
          · exact q2 k hk (by simp only [decide_eq_true_eq]; exact ⟨e, z⟩)
        · rintro (q | ⟨q1, q2, q3⟩)
          · exact absurd q c0
          · refine ⟨⟨z1 q1, fun k hk z => ?_⟩, q3⟩
            simp only [decide_eq_true_eq] at z
            exact q2 k hk z.1 z.2
      congr 1
      by_cases q : okH al pr sk v h n
      · rw [if_pos (hiff.mpr q), bP_p q]
      · rw [if_neg (fun z => q (hiff.mp z)), bP_n q]
    cases q : sk n
    · rw [if_pos (show b01 false = 0 from rfl), run 1 (Or.inr rfl)]
      exact fin 1 (fun _ => rfl) (fun z => by rw [q] at z; exact absurd z (by decide))
    · rw [if_neg (show ¬ b01 true = 0 by decide), run 0 (Or.inl rfl)]
      exact fin 0 (fun z => by rw [q] at z; exact absurd z (by decide)) (fun _ => rfl)
