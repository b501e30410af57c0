/-! the model's search -/
def covP (s n e : Nat) (d g : Nat → Nat) : Prop := (∃ i, i < n ∧ (∀ j, j < i → g j = d j) ∧ g i < d i) ∨ ((∀ j, j < n → g j = d j) ∧ g n < e)
def lkV (w g : Nat → Nat) (x : Int32) : Nat → Nat → Int32
  | 0, _ => -1000000
  | m + 1, i => if nI (w i) = x then enc (g i) else lkV w g x m (i + 1)
theorem lkV_s {w g : Nat → Nat} {x : Int32} {s i : Nat} (h : i < s) : lkV w g x (s - i) i = if nI (w i) = x then enc (g i) else lkV w g x (s - (i + 1)) (i + 1) := by
  rw [show s - i = (s - (i + 1)) + 1 by omega]
  rfl
theorem lkV_cg {w g g' : Nat → Nat} {x : Int32} : ∀ {m i : Nat}, (∀ j, i ≤ j → j < i + m → g j = g' j) → lkV w g x m i = lkV w g' x m i
  | 0, _, _ => rfl
  | m + 1, i, h => by
    unfold lkV
    rw [h i (Nat.le_refl _) (by omega), lkV_cg (fun j a b => h j (by omega) (by omega))]
theorem fin_m {f : Nat} {τ : qMem} {s : Nat} {w g : Nat → Nat} {x : Int32} (hs : s ≤ 8) (h145 : ∀ i, i < s → τ 145 i = nI (w i)) (h144 : ∀ i, i < s → g i ≤ 5 ∧ τ 144 i = nI (g i)) (hf : 100 < f) : qfix1 (p_M_dawn_l292 f τ x (nI s)) f 0 = some (lkV w g x s 0, τ) := by
  refine up1 (n := s) (res := fun i => (lkV w g x (s - i) i, τ)) (by omega) (fun k => ?_) (fun k i hi hk => ?_)
  · unfold p_M_dawn_l292
    rw [if_pos (nI_le (Nat.le_refl _) (by omega)), Nat.sub_self]
    rfl
  · have hq := qin_nI (k := i) (n := 8) (by omega) (by omega)
    obtain ⟨g5, e144⟩ := h144 i hi
    unfold p_M_dawn_l292
    rw [if_neg (nI_ge hi (by omega)), if_pos hq, if_pos hq, if_pos hq, qi_nI (by omega), h145 i hi, e144, nI_1, hk, lkV_s hi]
    by_cases c : nI (w i) = x
    · rw [if_pos c, if_pos c]
      unfold enc
      by_cases c2 : g i = 5
      · rw [if_pos c2, if_pos (show nI (g i) = 5 by rw [c2]; rfl)]
      · rw [if_neg c2, if_neg (show ¬ nI (g i) = 5 from fun z => c2 ((nI_eq (a := g i) (b := 5) (by omega) (by omega)).mp z))]
    · rw [if_neg c, if_neg c]
def muT (τ : qMem) (i : Nat) : Nat := (6 - (τ 143 i).toInt).toNat * 8 ^ (8 - i)
def muD (τ : qMem) (x : Int32) : Nat := if x < 0 then 0 else sm (muT τ) (qi x + 1)
theorem copy_m {f : Nat} {τ : qMem} {s : Nat} {x2 x3 x5 x6 x7 : Int32} {k : qMem → Int32 → Int32 → Int32 → Option (Int32 × qMem)} (hs : s ≤ 8) (hf : 100 < f) : qfix2 (p_M_dawn_l250 f x2 x3 (nI s) x5 x6 x7 k) f τ 0 = k (fun a b => if a = 144 ∧ b < s then τ 143 b else τ a b) x5 x6 x7 := by
  have h0 : τ = (fun a b => if a = 144 ∧ b < 0 then τ 143 b else τ a b) := by
    funext a b
    rw [if_neg (by omega)]
  conv => lhs; rw [h0]
  refine run2o (n := s) (f := f) (fun t => (fun a b => if a = 144 ∧ b < t then τ 143 b else τ a b : qMem)) (by omega) (fun k2 => ?_) (fun k2 i hi => ?_)
  · unfold p_M_dawn_l250
    rw [if_pos (nI_le (Nat.le_refl _) (by omega))]
  · have hq := qin_nI (k := i) (n := 8) (by omega) (by omega)
    unfold p_M_dawn_l250
    rw [if_neg (nI_ge hi (by omega)), if_pos hq, if_pos hq, qi_nI (by omega), nI_1]
    congr 1
    funext a b
    unfold qmu
    by_cases c1 : a = 144 ∧ b = i
    · rw [if_pos c1, c1.1, c1.2]
      simp
    · rw [if_neg c1]
      by_cases c2 : a = 144 ∧ b < i
      · simp only [c2, and_self, if_true, true_and]
        rw [if_pos (show b < i + 1 by omega)]
      · show (if a = 144 ∧ b < i then τ 143 b else τ a b) = if a = 144 ∧ b < i + 1 then τ 143 b else τ a b
        rw [if_neg c2, if_neg (by omega)]
theorem cn_le {s n : Nat} {d g : Nat → Nat} (h : ∀ j, j < n → g j = d j) (hn : n ≤ s) : cnH s g + sm (fun i => bI (decide (d i = 5))) n ≤ s := by
  have h1 := sm_cnt (fun i => decide (g i < 5)) s
  have h2 : sm (fun i => bI (decide (d i = 5))) n ≤ sm (fun i => bI (!decide (g i < 5))) s := by
    have h3 : sm (fun i => bI (decide (d i = 5))) n ≤ sm (fun i => bI (!decide (g i < 5))) n := sm_le (fun i hi => by
      rw [h i hi]
      by_cases q : d i = 5
      · simp [q, bI]
      · simp [q, bI])
    exact Nat.le_trans h3 (sm_mono hn)
  unfold cnH
  omega
theorem cn_eq {s : Nat} {d : Nat → Nat} (h : ∀ i, i < s → d i ≤ 5) : cnH s d + sm (fun i => bI (decide (d i = 5))) s = s := by
  have h1 := sm_cnt (fun i => decide (d i < 5)) s
  have h2 : sm (fun i => bI (decide (d i = 5))) s = sm (fun i => bI (!decide (d i < 5))) s := sm_cg (fun i hi => by
    have := h i hi
    by_cases q : d i = 5
    · simp [q, bI]
    · have : d i < 5 := by omega
      simp [q, this, bI])
  unfold cnH
  omega
theorem ok_cg {al pr : Nat → Nat} {sk : Nat → Bool} {v d g : Nat → Nat} {i : Nat} (h : ∀ j, j ≤ i → g j = d j) : okH al pr sk v g i ↔ okH al pr sk v d i := by
  unfold okH
  rw [h i (Nat.le_refl _)]
  have e : sm (fun k => bI (decide (pr k = pr i) && decide (g k < 5))) i = sm (fun k => bI (decide (pr k = pr i) && decide (d k < 5))) i := sm_cg (fun k hk => by rw [h k (by omega)])
  rw [e]
  have e2 : (∀ k, k < i → g k = d i → ¬ (pr k = pr i ∨ al k = al i)) ↔ ∀ k, k < i → d k = d i → ¬ (pr k = pr i ∨ al k = al i) := ⟨fun q k hk z => q k hk (by rw [h k (by omega)]; exact z), fun q k hk z => q k hk (by rw [h k (by omega)] at z; exact z)⟩
  rw [e2]
section
variable {f s : Nat} {day x : Int32} {w al pr : Nat → Nat} {sk : Nat → Bool} {v : Nat → Nat} {τ0 : qMem}
/-- the search stands at place n, with e tried there; best so far: mo - 1 promises, in bt -/
def srP (al pr : Nat → Nat) (sk : Nat → Bool) (v : Nat → Nat) (s : Nat) (τ0 τ : qMem) (n e mo : Nat) (d bt : Nat → Nat) : Prop := (∀ a b, a ≠ 143 → a ≠ 144 → τ a b = τ0 a b) ∧ n < s ∧ e ≤ 6 ∧ mo ≤ s + 1 ∧ (∀ i, i < n → d i ≤ 5 ∧ okH al pr sk v d i ∧ τ 143 i = nI (d i)) ∧ τ 143 n = nI e - 1 ∧ (∀ g, vlH al pr sk v s g → covP s n e d g → cnH s g + 1 ≤ mo ∧ (cnH s g + 1 = mo → ¬ lexlt s g bt)) ∧ (mo = 0 ∨ (vlH al pr sk v s bt ∧ cnH s bt + 1 = mo ∧ covP s n e d bt ∧ ∀ i, i < s → τ 144 i = nI (bt i)))
theorem cov_lex {n e : Nat} {d bt g : Nat → Nat} (hb : covP s n e d bt) (hg : ∀ j, j < n → g j = d j) (hn : n < s) (he : e ≤ g n) : lexlt s bt g := by
  rcases hb with ⟨i, hi, a, b⟩ | ⟨a, b⟩
  · exact ⟨i, by omega, fun j hj => by rw [a j hj, hg j (by omega)], by rw [hg i hi]; exact b⟩
  · exact ⟨n, hn, fun j hj => by rw [a j hj, hg j hj], by omega⟩
theorem search_m (hd0 : dwM f τ0 day s w al pr sk v) (hdc : ∀ τ : qMem, (∀ a b, a ≠ 143 → a ≠ 144 → τ a b = τ0 a b) → dwM f τ day s w al pr sk v) (hf : 200000000 < f) (hs0 : 0 < s) : ∃ r : Int32 × qMem, qfix4 (p_M_dawn_l122 f day x (nI s)) f (qmu τ0 143 0 (-1)) (-1) 0 0 = some r ∧ ∃ (M : Nat) (bt : Nat → Nat), vlH al pr sk v s bt ∧ cnH s bt = M ∧ (∀ g, vlH al pr sk v s g → cnH s g ≤ M ∧ (cnH s g = M → ¬ lexlt s g bt)) ∧ r.1 = (if x = -1000000 then nI M else lkV w bt x s 0) ∧ ∀ a b, a ≠ 143 → a ≠ 144 → r.2 a b = τ0 a b := by
  have hs : s ≤ 8 := hd0.1
  have hN5 : ∀ (d : Nat → Nat) n, sm (fun i => bI (decide (d i = 5))) n ≤ n := fun d n => by have := sm_cnt (fun i => decide (d i = 5)) n; omega
  have m1 : (nI 0 - 1 : Int32) = -1 := by decide
  refine wf4 (F := p_M_dawn_l122 f day x (nI s)) (fun τ x5 x6 x7 => (∃ n e mo d bt, srP al pr sk v s τ0 τ n e mo d bt ∧ x5 = nI mo - 1 ∧ x6 = nI n ∧ x7 = nI (sm (fun i => bI (decide (d i = 5))) n + bI (decide (e = 6)))) ∨ (x6 = -1 ∧ ∃ mo bt, (∀ a b, a ≠ 143 → a ≠ 144 → τ a b = τ0 a b) ∧ mo ≤ s + 1 ∧ x5 = nI mo - 1 ∧ (∀ g, vlH al pr sk v s g → cnH s g + 1 ≤ mo ∧ (cnH s g + 1 = mo → ¬ lexlt s g bt)) ∧ (mo = 0 ∨ (vlH al pr sk v s bt ∧ cnH s bt + 1 = mo ∧ ∀ i, i < s → τ 144 i = nI (bt i))))) (fun τ _ x6 _ => muD τ x6) (fun _ _ _ _ r => ∃ (M : Nat) (bt : Nat → Nat), vlH al pr sk v s bt ∧ cnH s bt = M ∧ (∀ g, vlH al pr sk v s g → cnH s g ≤ M ∧ (cnH s g = M → ¬ lexlt s g bt)) ∧ r.1 = (if x = -1000000 then nI M else lkV w bt x s 0) ∧ ∀ a b, a ≠ 143 → a ≠ 144 → r.2 a b = τ0 a b) ?_ f (qmu τ0 143 0 (-1)) (-1) 0 0 (Or.inl ⟨0, 0, 0, fun _ => 0, fun _ => 0, ⟨fun a b h1 h2 => mu_k h1, hs0, by omega, by omega, fun i hi => absurd hi (Nat.not_lt_zero _), mu_s, fun g _ hg => ?_, Or.inl rfl⟩, rfl, rfl, rfl⟩) ?_
  · intro k τ x5 x6 x7 hI ih
    rcases hI with ⟨n, e, mo, d, bt, ⟨ag, hn, he, hmo, hpre, h143, hcov, hbt⟩, rfl, rfl, rfl⟩ | ⟨rfl, mo, bt, ag, hmo, rfl, hcov, hbt⟩
    · have hd := hdc τ ag
      have hqn := qin_nI (k := n) (n := 8) (by omega) (by omega)
      have hin : qi (nI n) = n := qi_nI (by omega)
      have hN := hN5 d n
      have hmuN : muD τ (nI n) = sm (muT τ) n + muT τ n := by
        unfold muD
        rw [if_neg (nI_pos (by omega)), hin]
        rfl
      have t143 : (τ 143 n).toInt = (e : Int) - 1 := by rw [h143]; exact nI_m1 (by omega)
      have muTn : muT τ n = (7 - e) * 8 ^ (8 - n) := by
        unfold muT
        rw [t143]
        congr 1
        omega
      have hw8 : 0 < 8 ^ (8 - n) := Nat.pow_pos (by decide)
      -- the state with e tried
      have e1 : τ 143 n + 1 = nI e := by
        rw [h143]
        rw [Int32.sub_eq_add_neg, Int32.add_assoc]
        exact Int32.add_zero _
      have b145 : p_M_dawn_l122 f day x (nI s) k τ (nI mo - 1) (nI n) (nI (sm (fun i => bI (decide (d i = 5))) n + bI (decide (e = 6)))) = p_M_dawn_b145 f k τ day x (nI s) (nI mo - 1) (nI n) (nI (sm (fun i => bI (decide (d i = 5))) n + bI (decide (e = 6)))) (nI (bI (decide (e = 6)))) := by
        unfold p_M_dawn_l122
        rw [if_neg (nI_pos (by omega)), if_pos hqn, hin]
        by_cases q : e = 6
        · rw [if_pos (by rw [i32_eq, t143, q]; rfl), q]
          rfl
        · rw [if_neg (by
            rw [i32_eq, t143]
            have : (5 : Int32).toInt = 5 := rfl
            omega)]
          have : bI (decide (e = 6)) = 0 := by simp [q, bI]
          rw [this]
          rfl
      have hsub : nI (sm (fun i => bI (decide (d i = 5))) n + bI (decide (e = 6))) - nI (bI (decide (e = 6))) = nI (sm (fun i => bI (decide (d i = 5))) n) := by
        rw [pk_sub (by omega), Nat.add_sub_cancel]
      rw [b145]
      unfold p_M_dawn_b145
      rw [if_pos hqn, if_pos hqn, if_pos hqn, if_pos hqn, hin, mu_s, e1, hsub]
      have ag1 : ∀ a b, a ≠ 143 → a ≠ 144 → (qmu τ 143 n (nI e)) a b = τ0 a b := fun a b h1 h2 => by rw [mu_k h1]; exact ag a b h1 h2
      have k143 : ∀ i, i ≠ n → (qmu τ 143 n (nI e)) 143 i = τ 143 i := fun i hi => mu_j hi
      have k144 : ∀ i, (qmu τ 143 n (nI e)) 144 i = τ 144 i := fun i => mu_k (by decide)
      have muP : sm (muT (qmu τ 143 n (nI e))) n = sm (muT τ) n := sm_cg (fun i hi => by unfold muT; rw [k143 i (by omega)])
      by_cases c6 : e = 6
      · -- all hours were tried here
        rw [if_neg (show ¬ nI e ≤ 5 from nI_ge (a := 5) (by omega) (by omega))]
        have all6 : ∀ g, vlH al pr sk v s g → (∀ j, j < n → g j = d j) → g n < e := fun g hg _ => by have := (hg n hn).1; omega
        by_cases n0 : n = 0
        · subst n0
          refine ih _ _ _ _ (Or.inr ⟨rfl, mo, bt, ag1, hmo, rfl, fun g hg => hcov g hg (Or.inr ⟨fun j hj => absurd hj (Nat.not_lt_zero _), all6 g hg (fun j hj => absurd hj (Nat.not_lt_zero _))⟩), ?_⟩) ?_
          · rcases hbt with q | ⟨q1, q2, q3, q4⟩
            · exact Or.inl q
            · exact Or.inr ⟨q1, q2, fun i hi => by rw [k144]; exact q4 i hi⟩
          · rw [hmuN, muTn]
            show (if (-1 : Int32) < 0 then 0 else _) < _
            rw [if_pos (by decide), c6]
            omega
        · obtain ⟨n', rfl⟩ : ∃ n', n = n' + 1 := ⟨n - 1, by omega⟩
          obtain ⟨d5, dok, d143⟩ := hpre n' (by omega)
          have ex : nI (n' + 1) + -1 = nI n' := by rw [← nI_pred n']; exact (Int32.sub_eq_add_neg _ _).symm
          rw [ex]
          have covE : ∀ g, vlH al pr sk v s g → (covP s n' (d n' + 1) d g ↔ covP s (n' + 1) e d g) := by
            intro g hg
            constructor
            · rintro (⟨i, hi, a, b⟩ | ⟨a, b⟩)
              · exact Or.inl ⟨i, by omega, a, b⟩
              · by_cases z : g n' = d n'
                · refine Or.inr ⟨fun j hj => ?_, all6 g hg (fun j hj => ?_)⟩
                  · by_cases q : j = n'
                    · rw [q]; exact z
                    · exact a j (by omega)
                  · by_cases q : j = n'
                    · rw [q]; exact z
                    · exact a j (by omega)
                · exact Or.inl ⟨n', by omega, a, by omega⟩
            · rintro (⟨i, hi, a, b⟩ | ⟨a, b⟩)
              · by_cases z : i = n'
                · subst z; exact Or.inr ⟨a, by omega⟩
                · exact Or.inl ⟨i, by omega, a, b⟩
              · exact Or.inr ⟨fun j hj => a j (by omega), by have := a n' (by omega); omega⟩
          refine ih _ _ _ _ (Or.inl ⟨n', d n' + 1, mo, d, bt, ⟨ag1, by omega, by omega, hmo, fun i hi => ?_, ?_, fun g hg hc => hcov g hg ((covE g hg).mp hc), ?_⟩, rfl, rfl, ?_⟩) ?_
          · rw [k143 i (by omega)]; exact hpre i (by omega)
          · rw [k143 n' (by omega), d143]; exact (nI_pred _).symm
          · rcases hbt with q | ⟨q1, q2, q3, q4⟩
            · exact Or.inl q
            · exact Or.inr ⟨q1, q2, (covE bt q1).mpr q3, fun i hi => by rw [k144]; exact q4 i hi⟩
          · show nI (sm (fun i => bI (decide (d i = 5))) n' + bI (decide (d n' = 5))) = _
            congr 2
            by_cases q : d n' = 5
            · simp [q, bI]
            · have : ¬ d n' + 1 = 6 := by omega
              simp [q, bI]
          · rw [hmuN]
            unfold muD
            rw [if_neg (nI_pos (by omega)), qi_nI (by omega), muP, muTn, c6]
            omega
      · have he5 : e ≤ 5 := by omega
        rw [if_pos (show nI e ≤ 5 from nI_le (b := 5) he5 (by omega))]
        -- the prefix with e at n
        have h143' : ∀ i, i ≤ n → updN d n e i ≤ 5 ∧ (qmu τ 143 n (nI e)) 143 i = nI (updN d n e i) := by
          intro i hi
          by_cases q : i = n
          · rw [q, updN_s, mu_s]; exact ⟨he5, rfl⟩
          · rw [updN_n q, k143 i q]; exact ⟨(hpre i (by omega)).1, (hpre i (by omega)).2.2⟩
        have hst := stand_m (f := f) (hdc _ ag1) hn h143' (by omega)
        have hN1 : sm (fun i => bI (decide (updN d n e i = 5))) (n + 1) = sm (fun i => bI (decide (d i = 5))) n + bI (decide (e = 5)) := by
          show sm (fun i => bI (decide (updN d n e i = 5))) n + bI (decide (updN d n e n = 5)) = _
          rw [updN_s, sm_cg (g := fun i => bI (decide (updN d n e i = 5))) (h := fun i => bI (decide (d i = 5))) (fun i hi => by rw [updN_n (by omega)])]
        have hNle := hN5 (updN d n e) (n + 1)
        have b194 : ∀ s1 : Int32, s1 = nI (bI (decide (e = 5))) → ∃ r, p_M_dawn_b194 f k (qmu τ 143 n (nI e)) day x (nI s) (nI mo - 1) (nI n) (nI (sm (fun i => bI (decide (d i = 5))) n)) s1 = some r ∧ ∃ (M : Nat) (bt : Nat → Nat), vlH al pr sk v s bt ∧ cnH s bt = M ∧ (∀ g, vlH al pr sk v s g → cnH s g ≤ M ∧ (cnH s g = M → ¬ lexlt s g bt)) ∧ r.1 = (if x = -1000000 then nI M else lkV w bt x s 0) ∧ ∀ a b, a ≠ 143 → a ≠ 144 → r.2 a b = τ0 a b := by
          rintro s1 rfl
          unfold p_M_dawn_b194
          rw [hst, Option.bind_some, nI_add, ← hN1, nI_1]
          -- staying at n, e done, nothing better
          have stay : (∀ g, vlH al pr sk v s g → (∀ j, j < n → g j = d j) → g n = e → cnH s g + 1 ≤ mo) → ∃ r, k (qmu τ 143 n (nI e)) (nI mo - 1) (nI n) (nI (sm (fun i => bI (decide (updN d n e i = 5))) (n + 1))) = some r ∧ ∃ (M : Nat) (bt : Nat → Nat), vlH al pr sk v s bt ∧ cnH s bt = M ∧ (∀ g, vlH al pr sk v s g → cnH s g ≤ M ∧ (cnH s g = M → ¬ lexlt s g bt)) ∧ r.1 = (if x = -1000000 then nI M else lkV w bt x s 0) ∧ ∀ a b, a ≠ 143 → a ≠ 144 → r.2 a b = τ0 a b := by
            intro hle
            refine ih _ _ _ _ (Or.inl ⟨n, e + 1, mo, d, bt, ⟨ag1, hn, by omega, hmo, fun i hi => ?_, ?_, fun g hg hc => ?_, ?_⟩, rfl, rfl, ?_⟩) ?_
            · rw [k143 i (by omega)]; exact hpre i hi
            · rw [mu_s]; exact (nI_pred _).symm
            · by_cases z : covP s n e d g
              · exact hcov g hg z
              · have hg2 : (∀ j, j < n → g j = d j) ∧ g n = e := by
                  rcases hc with q | ⟨a, b⟩
                  · exact absurd (Or.inl q) z
                  · exact ⟨a, by
                      have : ¬ g n < e := fun w0 => z (Or.inr ⟨a, w0⟩)
                      omega⟩
                have h1 := hle g hg hg2.1 hg2.2
                refine ⟨h1, fun h2 => ?_⟩
                rcases hbt with q | ⟨q1, q2, q3, q4⟩
                · omega
                · exact fun w0 => lex_asym w0 (cov_lex q3 hg2.1 hn (by omega))
            · rcases hbt with q | ⟨q1, q2, q3, q4⟩
              · exact Or.inl q
              · refine Or.inr ⟨q1, q2, ?_, fun i hi => by rw [k144]; exact q4 i hi⟩
                rcases q3 with z | ⟨a, b⟩
                · exact Or.inl z
                · exact Or.inr ⟨a, by omega⟩
            · rw [hN1]
              congr 2
              by_cases q : e = 5
              · simp [q, bI]
              · have : ¬ e + 1 = 6 := by omega
                simp [q, bI]
            · rw [hmuN]
              unfold muD
              rw [if_neg (nI_pos (by omega)), hin]
              show sm (muT _) n + muT _ n < _
              rw [muP, muTn]
              unfold muT
              rw [mu_s, nI_toInt (by omega)]
              have : (6 - (e : Int)).toNat = 6 - e := by omega
              rw [this]
              have h7 : (7 - e) * 8 ^ (8 - n) = (6 - e) * 8 ^ (8 - n) + 8 ^ (8 - n) := by
                rw [show 7 - e = (6 - e) + 1 by omega, Nat.add_mul, Nat.one_mul]
              omega
          by_cases c1 : okH al pr sk v (updN d n e) n
          · rw [bP_p c1, if_neg (by decide)]
            have hcmp : (nI s - nI (sm (fun i => bI (decide (updN d n e i = 5))) (n + 1)) ≤ nI mo - 1) ↔ s + 1 ≤ mo + sm (fun i => bI (decide (updN d n e i = 5))) (n + 1) := by
              rw [i32_le, nI_m1 (by omega), pk_sub_toInt (by omega) (by omega)]
              omega
            by_cases c2 : s + 1 ≤ mo + sm (fun i => bI (decide (updN d n e i = 5))) (n + 1)
            · rw [if_pos (hcmp.mpr c2)]
              refine stay (fun g hg a b => ?_)
              have := cn_le (s := s) (n := n + 1) (d := updN d n e) (g := g) (fun j hj => by
                by_cases q : j = n
                · rw [q, updN_s]; exact b
                · rw [updN_n q]; exact a j (by omega)) (by omega)
              omega
            · rw [if_neg (fun z => c2 (hcmp.mp z))]
              have preU : ∀ i, i < n + 1 → updN d n e i ≤ 5 ∧ okH al pr sk v (updN d n e) i := by
                intro i hi
                by_cases q : i = n
                · rw [q]; exact ⟨(h143' n (Nat.le_refl _)).1, c1⟩
                · refine ⟨(h143' i (by omega)).1, (ok_cg (fun j hj => updN_n (by omega))).mpr (hpre i (by omega)).2.1⟩
              by_cases c3 : n + 1 < s
              · -- one deeper
                rw [if_neg (nI_ge c3 (by omega)), if_pos (qin_nI (by omega) (by omega)), qi_nI (by omega)]
                have covE : ∀ g, covP s (n + 1) 0 (updN d n e) g ↔ covP s n e d g := by
                  intro g
                  constructor
                  · rintro (⟨i, hi, a, b⟩ | ⟨a, b⟩)
                    · by_cases z : i = n
                      · subst z
                        rw [updN_s] at b
                        exact Or.inr ⟨fun j hj => by rw [a j hj, updN_n (by omega)], b⟩
                      · rw [updN_n z] at b
                        exact Or.inl ⟨i, by omega, fun j hj => by rw [a j hj, updN_n (by omega)], b⟩
                    · exact absurd b (Nat.not_lt_zero _)
                  · rintro (⟨i, hi, a, b⟩ | ⟨a, b⟩)
                    · exact Or.inl ⟨i, by omega, fun j hj => by rw [a j hj, updN_n (by omega)], by rw [updN_n (by omega)]; exact b⟩
                    · exact Or.inl ⟨n, by omega, fun j hj => by rw [a j hj, updN_n (by omega)], by rw [updN_s]; exact b⟩
                refine ih _ _ _ _ (Or.inl ⟨n + 1, 0, mo, updN d n e, bt, ⟨fun a b h1 h2 => by rw [mu_k h1]; exact ag1 a b h1 h2, c3, by omega, hmo, fun i hi => ⟨(preU i hi).1, (preU i hi).2, ?_⟩, by rw [mu_s]; exact m1.symm, fun g hg hc => hcov g hg ((covE g).mp hc), ?_⟩, rfl, rfl, rfl⟩) ?_
                · rw [mu_j (by omega)]; exact (h143' i (by omega)).2
                · rcases hbt with q | ⟨q1, q2, q3, q4⟩
                  · exact Or.inl q
                  · exact Or.inr ⟨q1, q2, (covE bt).mpr q3, fun i hi => by rw [mu_k (by decide), k144]; exact q4 i hi⟩
                · rw [hmuN]
                  unfold muD
                  rw [if_neg (nI_pos (by omega)), qi_nI (by omega)]
                  show sm (muT _) n + muT _ n + muT _ (n + 1) < _
                  have z1 : sm (muT (qmu (qmu τ 143 n (nI e)) 143 (n + 1) (-1))) n = sm (muT τ) n := sm_cg (fun i hi => by unfold muT; rw [mu_j (by omega), k143 i (by omega)])
                  have z2 : muT (qmu (qmu τ 143 n (nI e)) 143 (n + 1) (-1)) n = (6 - e) * 8 ^ (8 - n) := by
                    unfold muT
                    rw [mu_j (by omega), mu_s, nI_toInt (by omega)]
                    congr 1
                    omega
                  have z3 : muT (qmu (qmu τ 143 n (nI e)) 143 (n + 1) (-1)) (n + 1) = 7 * 8 ^ (8 - (n + 1)) := by
                    unfold muT
                    rw [mu_s]
                    rfl
                  have h7 : (7 - e) * 8 ^ (8 - n) = (6 - e) * 8 ^ (8 - n) + 8 ^ (8 - n) := by
                    rw [show 7 - e = (6 - e) + 1 by omega, Nat.add_mul, Nat.one_mul]
                  have h8 : 8 ^ (8 - n) = 8 * 8 ^ (8 - (n + 1)) := by
                    rw [show 8 - n = (8 - (n + 1)) + 1 by omega, Nat.pow_succ, Nat.mul_comm]
                  have h9 : 0 < 8 ^ (8 - (n + 1)) := Nat.pow_pos (by decide)
                  rw [z1, z2, z3, muTn]
                  omega
              · -- a better one
                have hn1 : n + 1 = s := by omega
                rw [if_pos (nI_le (by omega) (by omega)), copy_m hs (by omega)]
                have vU : vlH al pr sk v s (updN d n e) := fun i hi => preU i (by omega)
                have cU := cn_eq (s := s) (d := updN d n e) (fun i hi => (preU i (by omega)).1)
                rw [hn1] at hNle c2
                rw [hn1, pk_sub (by omega)]
                have hM : s - sm (fun i => bI (decide (updN d n e i = 5))) s = cnH s (updN d n e) := by omega
                rw [hM]
                have hcp : ∀ a b, a ≠ 144 → (fun a b => if a = 144 ∧ b < s then (qmu τ 143 n (nI e)) 143 b else (qmu τ 143 n (nI e)) a b : qMem) a b = (qmu τ 143 n (nI e)) a b := fun a b hab => if_neg (fun z => hab z.1)
                refine ih _ _ _ _ (Or.inl ⟨n, e + 1, cnH s (updN d n e) + 1, d, updN d n e, ⟨fun a b h1 h2 => by rw [hcp a b h2]; exact ag1 a b h1 h2, hn, by omega, by omega, fun i hi => ?_, ?_, fun g hg hc => ?_, Or.inr ⟨vU, rfl, Or.inr ⟨fun j hj => updN_n (by omega), by rw [updN_s]; omega⟩, fun i hi => ?_⟩⟩, ?_, rfl, ?_⟩) ?_
                · rw [hcp _ _ (by decide), k143 i (by omega)]; exact hpre i hi
                · rw [hcp _ _ (by decide), mu_s]; exact (nI_pred _).symm
                · by_cases z : covP s n e d g
                  · have := (hcov g hg z).1
                    exact ⟨by omega, fun h2 => by omega⟩
                  · have hg2 : ∀ j, j < s → g j = updN d n e j := by
                      rcases hc with q | ⟨a, b⟩
                      · exact absurd (Or.inl q) z
                      · have hge : g n = e := by
                          have : ¬ g n < e := fun w0 => z (Or.inr ⟨a, w0⟩)
                          omega
                        intro j hj
                        by_cases q : j = n
                        · rw [q, updN_s]; exact hge
                        · rw [updN_n q]; exact a j (by omega)
                    have e3 : cnH s g = cnH s (updN d n e) := sm_cg (fun i hi => by rw [hg2 i hi])
                    refine ⟨by omega, fun _ w0 => ?_⟩
                    obtain ⟨i, i1, i2, i3⟩ := w0
                    have := hg2 i i1
                    omega
                · show (if (144 : Nat) = 144 ∧ i < s then _ else _) = _
                  rw [if_pos ⟨rfl, hi⟩]
                  exact (h143' i (by omega)).2
                · exact (nI_pred _).symm
                · rw [← hn1, hN1]
                  congr 2
                  by_cases q : e = 5
                  · simp [q, bI]
                  · have : ¬ e + 1 = 6 := by omega
                    simp [q, bI]
                · rw [hmuN]
                  unfold muD
                  rw [if_neg (nI_pos (by omega)), hin]
                  show sm (muT _) n + muT _ n < _
                  have z1 : sm (muT (fun a b => if a = 144 ∧ b < s then (qmu τ 143 n (nI e)) 143 b else (qmu τ 143 n (nI e)) a b)) n = sm (muT τ) n := sm_cg (fun i hi => by unfold muT; rw [hcp _ _ (by decide), k143 i (by omega)])
                  have z2 : muT (fun a b => if a = 144 ∧ b < s then (qmu τ 143 n (nI e)) 143 b else (qmu τ 143 n (nI e)) a b) n = (6 - e) * 8 ^ (8 - n) := by
                    unfold muT
                    rw [hcp _ _ (by decide), mu_s, nI_toInt (by omega)]
                    congr 1
                    omega
                  have h7 : (7 - e) * 8 ^ (8 - n) = (6 - e) * 8 ^ (8 - n) + 8 ^ (8 - n) := by
                    rw [show 7 - e = (6 - e) + 1 by omega, Nat.add_mul, Nat.one_mul]
                  rw [z1, z2, muTn]
                  omega
          · rw [bP_n c1, if_pos rfl]
            refine stay (fun g hg a b => absurd ((ok_cg (fun j hj => ?_)).mp (hg n hn).2) c1)
            by_cases q : j = n
            · rw [q, updN_s]; exact b
            · rw [updN_n q]; exact a j (by omega)
        by_cases q : e = 5
        · rw [if_pos (show nI e = 5 by rw [q]; rfl)]
          exact b194 1 (by simp [q, bI]; rfl)
        · rw [if_neg (show ¬ nI e = 5 from fun z => q ((nI_eq (a := e) (b := 5) (by omega) (by omega)).mp z))]
          exact b194 0 (by simp [q, bI]; rfl)
    · -- the end
      have all5 : vlH al pr sk v s (fun _ => 5) := fun i hi => ⟨Nat.le_refl _, Or.inl rfl⟩
      have hmo0 := (hcov _ all5).1
      rcases hbt with q | ⟨q1, q2, q3⟩
      · omega
      · obtain ⟨M, rfl⟩ : ∃ M, mo = M + 1 := ⟨mo - 1, by omega⟩
        unfold p_M_dawn_l122
        rw [if_pos (by decide), nI_pred]
        by_cases c : x = -1000000
        · rw [if_pos c]
          refine ⟨_, rfl, M, bt, q1, by omega, fun g hg => ⟨by have := (hcov g hg).1; omega, fun h2 => (hcov g hg).2 (by omega)⟩, by rw [if_pos c], ag⟩
        · rw [if_neg c, fin_m (w := w) (g := bt) hs (fun i hi => ((hdc τ ag).2.1 i hi).1) (fun i hi => ⟨(q1 i hi).1, q3 i hi⟩) (by omega)]
          refine ⟨_, rfl, M, bt, q1, by omega, fun g hg => ⟨by have := (hcov g hg).1; omega, fun h2 => (hcov g hg).2 (by omega)⟩, by rw [if_neg c], ag⟩
  · rcases hg with ⟨i, hi, -⟩ | ⟨-, b⟩
    · exact absurd hi (Nat.not_lt_zero _)
    · exact absurd b (Nat.not_lt_zero _)
  · show muD _ 0 < f
    unfold muD
    rw [if_neg (by decide)]
    show 0 + muT _ 0 < f
    unfold muT
    rw [mu_s]
    show 0 + 7 * 8 ^ 8 < f
    omega
end
