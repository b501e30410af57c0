/-! hours can be dealt where no altar and no priest has more than five -/
def prop5 (s : Nat) (E : Nat → Bool) (al pr c : Nat → Nat) : Prop := ∀ i j, i < s → j < s → i ≠ j → E i = true → E j = true → c i = c j → al i ≠ al j ∧ pr i ≠ pr j
theorem free5 {s : Nat} (Q : Nat → Bool) (c : Nat → Nat) (h : sm (fun i => bI (Q i)) s ≤ 4) : ∃ α, α < 5 ∧ ∀ i, i < s → Q i = true → c i ≠ α := by
  refine Classical.byContradiction fun hno => ?_
  have hall : ∀ α, α < 5 → ∃ i, i < s ∧ Q i = true ∧ c i = α := fun α hα => Classical.byContradiction fun q => hno ⟨α, hα, fun i hi hq e => q ⟨i, hi, hq, e⟩⟩
  have h1 : ∀ i, i < s → sm (fun α => bI (Q i && decide (c i = α))) 5 ≤ bI (Q i) := by
    intro i _
    by_cases q : Q i = true
    · rw [q]
      by_cases w : c i < 5
      · rw [sm_one (a := c i) w (fun α _ hne => by
          have hne2 : ¬ c i = α := fun e => hne e.symm
          simp [hne2, bI])]
        simp [bI]
      · rw [sm_0 (fun α hα => by
          have : ¬ c i = α := by omega
          simp [this, bI])]
        exact Nat.zero_le _
    · have q' : Q i = false := by simpa using q
      rw [q', sm_0 (fun α _ => by simp [bI])]
      exact Nat.zero_le _
  have h2 := sm_le h1
  rw [sm_swap] at h2
  have h3 : sm (fun _ => 1) 5 ≤ sm (fun α => sm (fun i => bI (Q i && decide (c i = α))) s) 5 := sm_le (fun α hα => by
    obtain ⟨i, hi, hq, e⟩ := hall α hα
    have := sm_ge (g := fun i => bI (Q i && decide (c i = α))) hi
    simp only [hq, e] at this
    exact this)
  have h4 : sm (fun _ => 1) 5 = 5 := rfl
  omega
def kcl (s : Nat) (E : Nat → Bool) (al pr c : Nat → Nat) (α β p0 : Nat) (A P : Nat → Prop) : Prop := P p0 ∧ (∀ i, i < s → E i = true → c i = α → P (pr i) → A (al i)) ∧ ∀ i, i < s → E i = true → c i = β → A (al i) → P (pr i)
theorem kreach (s : Nat) (E : Nat → Bool) (al pr c : Nat → Nat) (α β p0 : Nat) : ∃ RA RP : Nat → Prop, RP p0 ∧ (∀ i, i < s → E i = true → c i = α → RP (pr i) → RA (al i)) ∧ (∀ i, i < s → E i = true → c i = β → RA (al i) → RP (pr i)) ∧ (∀ b, RA b → ∃ i, i < s ∧ E i = true ∧ c i = α ∧ RP (pr i) ∧ al i = b) ∧ ∀ q, RP q → q = p0 ∨ ∃ i, i < s ∧ E i = true ∧ c i = β ∧ RA (al i) ∧ pr i = q := by
  have key : ∀ (RA RP : Nat → Prop), (∀ b, RA b ↔ ∀ A P, kcl s E al pr c α β p0 A P → A b) → (∀ q, RP q ↔ ∀ A P, kcl s E al pr c α β p0 A P → P q) → RP p0 ∧ (∀ i, i < s → E i = true → c i = α → RP (pr i) → RA (al i)) ∧ (∀ i, i < s → E i = true → c i = β → RA (al i) → RP (pr i)) ∧ (∀ b, RA b → ∃ i, i < s ∧ E i = true ∧ c i = α ∧ RP (pr i) ∧ al i = b) ∧ ∀ q, RP q → q = p0 ∨ ∃ i, i < s ∧ E i = true ∧ c i = β ∧ RA (al i) ∧ pr i = q := by
    intro RA RP hA hP
    have r1 : RP p0 := (hP _).mpr fun A P h => h.1
    have r2 : ∀ i, i < s → E i = true → c i = α → RP (pr i) → RA (al i) := fun i hi he hc h => (hA _).mpr fun A P hcl => hcl.2.1 i hi he hc ((hP _).mp h A P hcl)
    have r3 : ∀ i, i < s → E i = true → c i = β → RA (al i) → RP (pr i) := fun i hi he hc h => (hP _).mpr fun A P hcl => hcl.2.2 i hi he hc ((hA _).mp h A P hcl)
    have clI : kcl s E al pr c α β p0 (fun b => RA b ∧ ∃ i, i < s ∧ E i = true ∧ c i = α ∧ RP (pr i) ∧ al i = b) (fun q => RP q ∧ (q = p0 ∨ ∃ i, i < s ∧ E i = true ∧ c i = β ∧ RA (al i) ∧ pr i = q)) := ⟨⟨r1, Or.inl rfl⟩, fun i hi he hc h => ⟨r2 i hi he hc h.1, i, hi, he, hc, h.1, rfl⟩, fun i hi he hc h => ⟨r3 i hi he hc h.1, Or.inr ⟨i, hi, he, hc, h.1, rfl⟩⟩⟩
    exact ⟨r1, r2, r3, fun b h => ((hA b).mp h _ _ clI).2, fun q h => ((hP q).mp h _ _ clI).2⟩
  exact ⟨(fun b => ∀ A P, kcl s E al pr c α β p0 A P → A b), (fun q => ∀ A P, kcl s E al pr c α β p0 A P → P q), key (fun b => ∀ A P, kcl s E al pr c α β p0 A P → A b) (fun q => ∀ A P, kcl s E al pr c α β p0 A P → P q) (fun _ => Iff.rfl) (fun _ => Iff.rfl)⟩
theorem konig : ∀ (s : Nat) (E : Nat → Bool) (al pr : Nat → Nat), (∀ a, sm (fun i => bI (E i && decide (al i = a))) s ≤ 5) → (∀ p, sm (fun i => bI (E i && decide (pr i = p))) s ≤ 5) → ∃ c : Nat → Nat, (∀ i, i < s → E i = true → c i < 5) ∧ prop5 s E al pr c
  | 0, _, _, _, _, _ => ⟨fun _ => 0, fun i hi => absurd hi (Nat.not_lt_zero _), fun i j hi => absurd hi (Nat.not_lt_zero _)⟩
  | s + 1, E, al, pr, hA, hP => by
    have hs : ∀ g : Nat → Nat, sm g (s + 1) = sm g s + g s := fun g => rfl
    obtain ⟨c, hc5, hcp⟩ := konig s E al pr (fun a => by have := hA a; rw [hs] at this; omega) (fun p => by have := hP p; rw [hs] at this; omega)
    by_cases hE : E s = true
    · have dA : sm (fun i => bI (E i && decide (al i = al s))) s ≤ 4 := by
        have := hA (al s)
        rw [hs] at this
        simp only [hE, decide_true, Bool.and_self, bI, if_true] at this
        have e : sm (fun i => bI (E i && decide (al i = al s))) s = sm (fun i => if (E i && decide (al i = al s)) = true then 1 else 0) s := rfl
        omega
      have dP : sm (fun i => bI (E i && decide (pr i = pr s))) s ≤ 4 := by
        have := hP (pr s)
        rw [hs] at this
        simp only [hE, decide_true, Bool.and_self, bI, if_true] at this
        have e : sm (fun i => bI (E i && decide (pr i = pr s))) s = sm (fun i => if (E i && decide (pr i = pr s)) = true then 1 else 0) s := rfl
        omega
      obtain ⟨α, hα, fα⟩ := free5 _ c dA
      obtain ⟨β, hβ, fβ⟩ := free5 _ c dP
      have fa : ∀ i, i < s → E i = true → al i = al s → c i ≠ α := fun i hi he ha => fα i hi (by simp [he, ha])
      have fb : ∀ i, i < s → E i = true → pr i = pr s → c i ≠ β := fun i hi he hp => fβ i hi (by simp [he, hp])
      obtain ⟨RA, RP, r1, r2, r3, iA, iP⟩ := kreach s E al pr c α β (pr s)
      have nA : ¬ RA (al s) := fun h => by
        obtain ⟨i, hi, he, hc, -, e⟩ := iA _ h
        exact fa i hi he e hc
      by_cases hab : α = β
      · refine ⟨fun i => if i = s then α else c i, fun i hi he => ?_, fun i j hi hj hne hei hej heq => ?_⟩
        · show (if i = s then α else c i) < 5
          by_cases q : i = s
          · rw [if_pos q]; exact hα
          · rw [if_neg q]; exact hc5 i (by omega) he
        · have heq' : (if i = s then α else c i) = (if j = s then α else c j) := heq
          by_cases qi : i = s
          · rw [if_pos qi, if_neg (show ¬ j = s by omega)] at heq'
            rw [qi]
            exact ⟨fun e => fa j (by omega) hej e.symm heq'.symm, fun e => fb j (by omega) hej e.symm (by rw [← heq', hab])⟩
          · rw [if_neg qi] at heq'
            by_cases qj : j = s
            · rw [if_pos qj] at heq'
              rw [qj]
              exact ⟨fun e => fa i (by omega) hei e heq', fun e => fb i (by omega) hei e (by rw [heq', hab])⟩
            · rw [if_neg qj] at heq'
              exact hcp i j (by omega) (by omega) hne hei hej heq'
      · obtain ⟨c', cs, ca, cn, cb, cm, co⟩ : ∃ c' : Nat → Nat, c' s = α ∧ (∀ i, i < s → c i = α → RP (pr i) → c' i = β) ∧ (∀ i, i < s → c i = α → ¬ RP (pr i) → c' i = α) ∧ (∀ i, i < s → c i = β → RA (al i) → c' i = α) ∧ (∀ i, i < s → c i = β → ¬ RA (al i) → c' i = β) ∧ ∀ i, i < s → c i ≠ α → c i ≠ β → c' i = c i := by
          refine ⟨fun i => if i = s then α else @ite Nat (c i = α ∧ RP (pr i)) (Classical.propDecidable _) β (@ite Nat (c i = β ∧ RA (al i)) (Classical.propDecidable _) α (c i)), if_pos rfl, fun i hi hc h => ?_, fun i hi hc h => ?_, fun i hi hc h => ?_, fun i hi hc h => ?_, fun i hi h1 h2 => ?_⟩
          · show (if i = s then α else _) = β
            rw [if_neg (by omega), if_pos ⟨hc, h⟩]
          · show (if i = s then α else _) = α
            rw [if_neg (by omega), if_neg (fun w => h w.2), if_neg (fun w => hab (hc.symm.trans w.1)), hc]
          · show (if i = s then α else _) = α
            rw [if_neg (by omega), if_neg (fun w => hab (w.1.symm.trans hc)), if_pos ⟨hc, h⟩]
          · show (if i = s then α else _) = β
            rw [if_neg (by omega), if_neg (fun w => hab (w.1.symm.trans hc)), if_neg (fun w => h w.2), hc]
          · show (if i = s then α else _) = c i
            rw [if_neg (by omega), if_neg (fun w => h1 w.1), if_neg (fun w => h2 w.1)]
        have old : ∀ i j, i < s → j < s → i ≠ j → E i = true → E j = true → c i = α → c j = β → c' i = c' j → al i ≠ al j ∧ pr i ≠ pr j := by
          intro i j hi hj hne hei hej hci hcj heq
          by_cases w1 : RP (pr i)
          · have w2 : ¬ RA (al j) := fun w => by
              rw [ca i hi hci w1, cb j hj hcj w] at heq
              exact hab heq.symm
            refine ⟨fun e => w2 (by rw [← e]; exact r2 i hi hei hci w1), fun e => ?_⟩
            rcases iP _ w1 with q | ⟨k, hk, hek, hck, hrk, epk⟩
            · exact fb j hj hej (e.symm.trans q) hcj
            · by_cases kj : k = j
              · rw [kj] at hrk; exact w2 hrk
              · exact (hcp k j hk hj kj hek hej (hck.trans hcj.symm)).2 (epk.trans e)
          · have w2 : RA (al j) := Classical.byContradiction fun w => by
              rw [cn i hi hci w1, cm j hj hcj w] at heq
              exact hab heq
            refine ⟨fun e => ?_, fun e => w1 (by rw [e]; exact r3 j hj hej hcj w2)⟩
            obtain ⟨k, hk, hek, hck, hrk, eak⟩ := iA _ w2
            by_cases ki : k = i
            · rw [ki] at hrk; exact w1 hrk
            · exact (hcp k i hk hi ki hek hei (hck.trans hci.symm)).1 (eak.trans e.symm)
        have new : ∀ i, i < s → E i = true → c' i = α → al i ≠ al s ∧ pr i ≠ pr s := by
          intro i hi hei hci
          by_cases w1 : c i = α
          · refine ⟨fun e => fa i hi hei e w1, fun e => ?_⟩
            have : RP (pr i) := by rw [e]; exact r1
            rw [ca i hi w1 this] at hci
            exact hab hci.symm
          · by_cases w2 : c i = β
            · refine ⟨fun e => ?_, fun e => fb i hi hei e w2⟩
              have : ¬ RA (al i) := by rw [e]; exact nA
              rw [cm i hi w2 this] at hci
              exact hab hci.symm
            · rw [co i hi w1 w2] at hci
              exact absurd hci w1
        refine ⟨c', fun i hi he => ?_, fun i j hi hj hne hei hej heq => ?_⟩
        · by_cases q : i = s
          · rw [q, cs]; exact hα
          · have h5 := hc5 i (by omega) he
            by_cases w1 : c i = α
            · by_cases w2 : RP (pr i)
              · rw [ca i (by omega) w1 w2]; exact hβ
              · rw [cn i (by omega) w1 w2]; exact hα
            · by_cases w2 : c i = β
              · by_cases w3 : RA (al i)
                · rw [cb i (by omega) w2 w3]; exact hα
                · rw [cm i (by omega) w2 w3]; exact hβ
              · rw [co i (by omega) w1 w2]; exact h5
        · by_cases qi : i = s
          · rw [qi, cs] at heq
            have := new j (by omega) hej heq.symm
            rw [qi]
            exact ⟨fun e => this.1 e.symm, fun e => this.2 e.symm⟩
          · by_cases qj : j = s
            · rw [qj, cs] at heq
              rw [qj]
              exact new i (by omega) hei heq
            · have hi' : i < s := by omega
              have hj' : j < s := by omega
              by_cases ec : c i = c j
              · exact hcp i j hi' hj' hne hei hej ec
              · by_cases a1 : c i = α
                · by_cases b1 : c j = β
                  · exact old i j hi' hj' hne hei hej a1 b1 heq
                  · exfalso
                    have a2 : c j ≠ α := fun w => ec (a1.trans w.symm)
                    rw [co j hj' a2 b1] at heq
                    by_cases w : RP (pr i)
                    · rw [ca i hi' a1 w] at heq; exact b1 heq.symm
                    · rw [cn i hi' a1 w] at heq; exact a2 heq.symm
                · by_cases a2 : c i = β
                  · by_cases b1 : c j = α
                    · have := old j i hj' hi' (fun e => hne e.symm) hej hei b1 a2 heq.symm
                      exact ⟨fun e => this.1 e.symm, fun e => this.2 e.symm⟩
                    · exfalso
                      have b2 : c j ≠ β := fun w => ec (a2.trans w.symm)
                      rw [co j hj' b1 b2] at heq
                      by_cases w : RA (al i)
                      · rw [cb i hi' a2 w] at heq; exact b1 heq.symm
                      · rw [cm i hi' a2 w] at heq; exact b2 heq.symm
                  · rw [co i hi' a1 a2] at heq
                    exfalso
                    by_cases b1 : c j = α
                    · by_cases w : RP (pr j)
                      · rw [ca j hj' b1 w] at heq; exact a2 heq
                      · rw [cn j hj' b1 w] at heq; exact a1 heq
                    · by_cases b2 : c j = β
                      · by_cases w : RA (al j)
                        · rw [cb j hj' b2 w] at heq; exact a1 heq
                        · rw [cm j hj' b2 w] at heq; exact a2 heq
                      · rw [co j hj' b1 b2] at heq; exact ec heq
    · refine ⟨c, fun i hi he => ?_, fun i j hi hj hne hei hej heq => ?_⟩
      · by_cases q : i = s
        · rw [q] at he; exact absurd he hE
        · exact hc5 i (by omega) he
      · have qi : i ≠ s := fun e => hE (by rw [← e]; exact hei)
        have qj : j ≠ s := fun e => hE (by rw [← e]; exact hej)
        exact hcp i j (by omega) (by omega) hne hei hej heq
