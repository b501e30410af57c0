/-! a dawn, told apart from both -/
def okH (al pr : Nat → Nat) (sk : Nat → Bool) (v : Nat → Nat) (h : Nat → Nat) (i : Nat) : Prop := h i = 5 ∨ (sk i = false ∧ (∀ k, k < i → h k = h i → ¬ (pr k = pr i ∨ al k = al i)) ∧ sm (fun k => bI (decide (pr k = pr i) && decide (h k < 5))) i < v (pr i))
def vlH (al pr : Nat → Nat) (sk : Nat → Bool) (v : Nat → Nat) (s : Nat) (h : Nat → Nat) : Prop := ∀ i, i < s → h i ≤ 5 ∧ okH al pr sk v h i
def cnH (s : Nat) (h : Nat → Nat) : Nat := sm (fun i => bI (decide (h i < 5))) s
def dgO (al pr : Nat → Nat) (sk : Nat → Bool) (v : Nat → Nat) (s : Nat) (E : Nat → Bool) : Prop := (∀ i, i < s → E i = true → sk i = false) ∧ (∀ a, sm (fun i => bI (E i && decide (al i = a))) s ≤ 5) ∧ ∀ p, sm (fun i => bI (E i && decide (pr i = p))) s ≤ v p
theorem sm_le1 {P : Nat → Bool} : ∀ {s : Nat}, (∀ i j, i < s → j < s → P i = true → P j = true → i = j) → sm (fun i => bI (P i)) s ≤ 1
  | 0, _ => Nat.zero_le _
  | s + 1, h => by
    show sm (fun i => bI (P i)) s + bI (P s) ≤ 1
    by_cases c : P s = true
    · rw [sm_0 (fun i hi => by
        have : ¬ P i = true := fun w => by have := h i s (by omega) (by omega) w c; omega
        simp [this, bI])]
      simp [c, bI]
    · have := sm_le1 (P := P) (s := s) (fun i j hi hj => h i j (by omega) (by omega))
      have c' : bI (P s) = 0 := by simp [c, bI]
      omega
theorem vl_dg {al pr : Nat → Nat} {sk : Nat → Bool} {v : Nat → Nat} {s : Nat} {h : Nat → Nat} (hv : vlH al pr sk v s h) : dgO al pr sk v s (fun i => decide (h i < 5)) := by
  refine ⟨fun i hi he => ?_, fun a => ?_, fun p => ?_⟩
  · have he' : h i < 5 := by simpa using he
    rcases (hv i hi).2 with q | q
    · omega
    · exact q.1
  · have h1 : ∀ i, i < s → bI (decide (h i < 5) && decide (al i = a)) = sm (fun α => bI (decide (h i < 5) && (decide (al i = a) && decide (h i = α)))) 5 := by
      intro i hi
      by_cases c1 : h i < 5
      · rw [sm_one (a := h i) c1 (fun α _ hne => by
          have : ¬ h i = α := fun e => hne e.symm
          simp [this, bI])]
        simp
      · rw [sm_0 (fun α _ => by simp [c1, bI])]
        simp [c1, bI]
    rw [sm_cg h1, sm_swap]
    have h2 : sm (fun α => sm (fun i => bI (decide (h i < 5) && (decide (al i = a) && decide (h i = α)))) s) 5 ≤ sm (fun _ => 1) 5 := sm_le (fun α hα => sm_le1 (fun i j hi hj a1 a2 => by
      simp only [Bool.and_eq_true, decide_eq_true_eq] at a1 a2
      rcases Nat.lt_trichotomy i j with q | q | q
      · rcases (hv j hj).2 with w | w
        · omega
        · exact absurd (Or.inr (a1.2.1.trans a2.2.1.symm)) (w.2.1 i q (a1.2.2.trans a2.2.2.symm))
      · exact q
      · rcases (hv i hi).2 with w | w
        · omega
        · exact absurd (Or.inr (a2.2.1.trans a1.2.1.symm)) (w.2.1 j q (a2.2.2.trans a1.2.2.symm))))
    have h3 : sm (fun _ => 1) 5 = 5 := rfl
    omega
  · have key : ∀ t, t ≤ s → sm (fun i => bI (decide (h i < 5) && decide (pr i = p))) t ≤ v p := by
      intro t
      induction t with
      | zero => intro _; exact Nat.zero_le _
      | succ t ih =>
        intro ht
        show sm (fun i => bI (decide (h i < 5) && decide (pr i = p))) t + bI (decide (h t < 5) && decide (pr t = p)) ≤ v p
        have := ih (by omega)
        by_cases c : h t < 5 ∧ pr t = p
        · rcases (hv t (by omega)).2 with w | w
          · omega
          · have e : sm (fun k => bI (decide (pr k = pr t) && decide (h k < 5))) t = sm (fun i => bI (decide (h i < 5) && decide (pr i = p))) t := sm_cg (fun k _ => by rw [c.2, Bool.and_comm])
            have w3 := w.2.2
            rw [e, c.2] at w3
            have e1 : bI (decide (h t < 5) && decide (pr t = p)) = 1 := by simp [c.1, c.2, bI]
            omega
        · have e0 : bI (decide (h t < 5) && decide (pr t = p)) = 0 := by
            have : ¬ (decide (h t < 5) && decide (pr t = p)) = true := by simp only [Bool.and_eq_true, decide_eq_true_eq]; exact c
            unfold bI
            rw [if_neg this]
          omega
    exact key s (Nat.le_refl _)
theorem dg_vl {al pr : Nat → Nat} {sk : Nat → Bool} {v : Nat → Nat} {s : Nat} {E : Nat → Bool} (hv : ∀ p, v p ≤ 5) (hd : dgO al pr sk v s E) : ∃ h, vlH al pr sk v s h ∧ ∀ i, i < s → (h i < 5 ↔ E i = true) := by
  obtain ⟨c, c5, cp⟩ := konig s E al pr hd.2.1 (fun p => Nat.le_trans (hd.2.2 p) (hv p))
  have hE : ∀ i, i < s → ((if E i = true then c i else 5) < 5 ↔ E i = true) := by
    intro i hi
    by_cases q : E i = true
    · rw [if_pos q]; exact ⟨fun _ => q, fun _ => c5 i hi q⟩
    · rw [if_neg q]; exact ⟨fun w => absurd w (by decide), fun w => absurd w q⟩
  refine ⟨fun i => if E i = true then c i else 5, fun i hi => ?_, hE⟩
  show (if E i = true then c i else 5) ≤ 5 ∧ ((if E i = true then c i else 5) = 5 ∨ _)
  by_cases q : E i = true
  · rw [if_pos q]
    have h5 := c5 i hi q
    refine ⟨by omega, Or.inr ⟨hd.1 i hi q, fun k hk e w => ?_, ?_⟩⟩
    · have e' : (if E k = true then c k else 5) = (if E i = true then c i else 5) := e
      rw [if_pos q] at e'
      by_cases qk : E k = true
      · rw [if_pos qk] at e'
        have := cp k i (by omega) hi (by omega) qk q e'
        exact w.elim this.2 this.1
      · rw [if_neg qk] at e'
        omega
    · have e1 : sm (fun k => bI (decide (pr k = pr i) && decide ((if E k = true then c k else 5) < 5))) i = sm (fun k => bI (E k && decide (pr k = pr i))) i := sm_cg (fun k hk => by
        have : decide ((if E k = true then c k else 5) < 5) = E k := by
          rw [Bool.eq_iff_iff, decide_eq_true_eq]
          exact hE k (by omega)
        rw [this, Bool.and_comm])
      have e2 : sm (fun k => bI (E k && decide (pr k = pr i))) (i + 1) ≤ sm (fun k => bI (E k && decide (pr k = pr i))) s := sm_mono hi
      have e3 : sm (fun k => bI (E k && decide (pr k = pr i))) (i + 1) = sm (fun k => bI (E k && decide (pr k = pr i))) i + 1 := by
        show sm (fun k => bI (E k && decide (pr k = pr i))) i + bI (E i && decide (pr i = pr i)) = _
        simp [q, bI]
      have e4 := hd.2.2 (pr i)
      show sm (fun k => bI (decide (pr k = pr i) && decide ((if E k = true then c k else 5) < 5))) i < v (pr i)
      omega
  · rw [if_neg q]
    exact ⟨Nat.le_refl _, Or.inl rfl⟩
def lexlt (s : Nat) (g h : Nat → Nat) : Prop := ∃ i, i < s ∧ (∀ j, j < i → g j = h j) ∧ g i < h i
theorem lex_asym {s : Nat} {g h : Nat → Nat} (h1 : lexlt s g h) (h2 : lexlt s h g) : False := by
  obtain ⟨i, hi, a1, a2⟩ := h1
  obtain ⟨j, hj, b1, b2⟩ := h2
  rcases Nat.lt_trichotomy i j with q | q | q
  · have := b1 i q; omega
  · subst q; omega
  · have := a1 j q; omega
theorem lex_tri (s : Nat) (g h : Nat → Nat) : (∀ i, i < s → g i = h i) ∨ lexlt s g h ∨ lexlt s h g := by
  induction s with
  | zero => exact Or.inl fun i hi => absurd hi (Nat.not_lt_zero _)
  | succ s ih =>
    rcases ih with q | ⟨i, hi, a⟩ | ⟨i, hi, a⟩
    · rcases Nat.lt_trichotomy (g s) (h s) with w | w | w
      · exact Or.inr (Or.inl ⟨s, by omega, q, w⟩)
      · refine Or.inl fun i hi => ?_
        by_cases e : i = s
        · rw [e]; exact w
        · exact q i (by omega)
      · exact Or.inr (Or.inr ⟨s, by omega, fun j hj => (q j hj).symm, w⟩)
    · exact Or.inr (Or.inl ⟨i, by omega, a⟩)
    · exact Or.inr (Or.inr ⟨i, by omega, a⟩)
theorem lex_uni {s : Nat} {Gd : (Nat → Nat) → Prop} {g h : Nat → Nat} (h1 : Gd g) (h2 : Gd h) (m1 : ∀ x, Gd x → ¬ lexlt s x g) (m2 : ∀ x, Gd x → ¬ lexlt s x h) : ∀ i, i < s → g i = h i := by
  rcases lex_tri s g h with q | q | q
  · exact q
  · exact absurd q (m2 g h1)
  · exact absurd q (m1 h h2)
/-! masks -/
def mkM (E : Nat → Bool) : Nat → Nat
  | 0 => 0
  | k + 1 => if E k = true then mkM E k ||| 2 ^ k else mkM E k
theorem mkM_b {E : Nat → Bool} : ∀ {k i : Nat}, (mkM E k).testBit i = (decide (i < k) && E i)
  | 0, i => by simp [mkM]
  | k + 1, i => by
    unfold mkM
    by_cases c : E k = true
    · rw [if_pos c, mk_set, mkM_b]
      by_cases e : i = k
      · subst e; simp [c]
      · have h1 : decide (i < k + 1) = decide (i < k) := by
          apply decide_eq_decide.mpr
          omega
        rw [h1, decide_eq_false e, Bool.or_false]
    · rw [if_neg c, mkM_b]
      by_cases e : i = k
      · subst e; simp [c]
      · have h1 : decide (i < k + 1) = decide (i < k) := by
          apply decide_eq_decide.mpr
          omega
        rw [h1]
theorem mkM_lt {E : Nat → Bool} : ∀ k, mkM E k < 2 ^ k
  | 0 => Nat.one_pos
  | k + 1 => by
    unfold mkM
    have h := mkM_lt (E := E) k
    have h2 : 2 ^ k < 2 ^ (k + 1) := Nat.pow_lt_pow_right (by decide) (by omega)
    by_cases c : E k = true
    · rw [if_pos c]
      exact Nat.or_lt_two_pow (by omega) h2
    · rw [if_neg c]; omega
theorem mkM_cg {E F : Nat → Bool} : ∀ {k : Nat}, (∀ i, i < k → E i = F i) → mkM E k = mkM F k
  | 0, _ => rfl
  | k + 1, h => by
    unfold mkM
    rw [mkM_cg (fun i hi => h i (by omega)), h k (by omega)]
theorem mk_eq {m : Nat} {E : Nat → Bool} {k : Nat} (hm : m < 2 ^ k) (h : ∀ i, i < k → m.testBit i = E i) : m = mkM E k := by
  apply Nat.eq_of_testBit_eq
  intro i
  rw [mkM_b]
  by_cases c : i < k
  · rw [h i c, decide_eq_true c, Bool.true_and]
  · rw [decide_eq_false c, Bool.false_and]
    exact Nat.testBit_lt_two_pow (Nat.lt_of_lt_of_le hm (Nat.pow_le_pow_right (by decide) (by omega)))
theorem mk_low {m d : Nat} {E : Nat → Bool} : m &&& (2 ^ d - 1) = mkM E d ↔ ∀ i, i < d → m.testBit i = E i := by
  constructor
  · intro h i hi
    have := congrArg (fun x => x.testBit i) h
    simp only [Nat.testBit_and, Nat.testBit_two_pow_sub_one, mkM_b, decide_eq_true hi, Bool.and_true, Bool.true_and] at this
    exact this
  · intro h
    apply Nat.eq_of_testBit_eq
    intro i
    rw [Nat.testBit_and, Nat.testBit_two_pow_sub_one, mkM_b]
    by_cases c : i < d
    · rw [h i c, decide_eq_true c, Bool.and_true, Bool.true_and]
    · rw [decide_eq_false c, Bool.and_false, Bool.false_and]
def pcN (s m : Nat) : Nat := sm (fun i => bI (m.testBit i)) s
