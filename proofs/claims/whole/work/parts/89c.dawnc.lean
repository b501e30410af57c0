/-! a dawn: the class -/
theorem i_and (a b : Nat) : nI a &&& nI b = nI (a &&& b) := by
  apply Int32.toBitVec_inj.1
  show BitVec.ofNat 32 a &&& BitVec.ofNat 32 b = BitVec.ofNat 32 (a &&& b)
  apply BitVec.eq_of_getLsbD_eq
  intro i hi
  simp [hi]
theorem i_or (a b : Nat) : nI a ||| nI b = nI (a ||| b) := by
  apply Int32.toBitVec_inj.1
  show BitVec.ofNat 32 a ||| BitVec.ofNat 32 b = BitVec.ofNat 32 (a ||| b)
  apply BitVec.eq_of_getLsbD_eq
  intro i hi
  simp [hi]
theorem i_sm : ∀ i, i < 31 → ((nI i &&& 31).toBitVec.smod 32).toNat = i := by decide +kernel
theorem i_bit {m i : Nat} (hm : m < 2 ^ 31) (hi : i < 31) : (nI m >>> (nI i &&& 31)) &&& (1 : Int32) = 1 ↔ m.testBit i = true := by
  have hd : m / 2 ^ i ≤ m := Nat.div_le_self _ _
  have e : m.testBit i = decide (m / 2 ^ i % 2 = 1) := Nat.testBit_eq_decide_div_mod_eq
  rw [pk_shrN hm _ i (i_sm i hi), show (1 : Int32) = nI 1 from rfl, i_and, Nat.and_one_is_mod, e, decide_eq_true_eq]
  exact nI_eq (by omega) (by omega)
theorem i_pw : ∀ s, s < 13 → (1 : Int32) <<< (nI s &&& 31) = nI (2 ^ s) ∧ (1 : Int32) <<< (nI s &&& 31) - 1 = nI (2 ^ s - 1) ∧ 2 ^ s ≤ 4096 := by decide +kernel
theorem pc_two : ∀ a, a < 64 → ∀ b, b < 64 → p_In_bitCount 0 (fun _ _ => 0) (nI (64 * a + b)) = some (nI (pcN 12 (64 * a + b))) := by decide +kernel
theorem pc_all (m : Nat) (h : m < 4096) : p_In_bitCount 0 (fun _ _ => 0) (nI m) = some (nI (pcN 12 m)) := by
  have e := pc_two (m / 64) (by omega) (m % 64) (by omega)
  rw [show 64 * (m / 64) + m % 64 = m by omega] at e
  exact e
theorem pc_c {f : Nat} {σ : qMem} {m : Nat} (h : m < 4096) : p_In_bitCount f σ (nI m) = some (nI (pcN 12 m)) := pc_all m h
theorem pcN_s {s m : Nat} (hs : s ≤ 12) (hm : m < 2 ^ s) : pcN 12 m = pcN s m := by
  unfold pcN
  refine sm_tail hs (fun i a b => ?_)
  rw [Nat.testBit_lt_two_pow (Nat.lt_of_lt_of_le hm (Nat.pow_le_pow_right (by decide) a))]
  rfl
theorem pcN_le {s m : Nat} : pcN s m ≤ s := by
  have := sm_cnt (fun i => m.testBit i) s
  unfold pcN
  omega
def dwC (σ : qMem) (s : Nat) (w al pr : Nat → Nat) (sk : Nat → Bool) (v : Nat → Nat) : Prop := s ≤ 8 ∧ σ 96 6 = nI s ∧ (∀ i, i < s → w i < 12 ∧ σ 97 i = nI (w i) ∧ σ 99 i = b01 (sk i) ∧ σ (15 + w i) 2 = nI (al i) ∧ al i ≤ 3 ∧ σ (15 + w i) 3 = nI (pr i) ∧ pr i ≤ 7) ∧ ∀ p, p < 8 → σ 32 p = nI (v p) ∧ v p ≤ 3
theorem dwC.cg {σ σ' : qMem} {s : Nat} {w al pr : Nat → Nat} {sk : Nat → Bool} {v : Nat → Nat} (h : dwC σ s w al pr sk v) (ha : ∀ a b, (a ≤ 95 ∨ (a = 96 ∧ b = 6) ∨ a = 97 ∨ a = 99) → σ' a b = σ a b) : dwC σ' s w al pr sk v := by
  obtain ⟨h1, h2, h3, h4⟩ := h
  refine ⟨h1, by rw [ha _ _ (by omega)]; exact h2, fun i hi => ?_, fun p hp => ?_⟩
  · obtain ⟨a1, a2, a3, a4, a5, a6, a7⟩ := h3 i hi
    exact ⟨a1, by rw [ha _ _ (by omega)]; exact a2, by rw [ha _ _ (by omega)]; exact a3, by rw [ha _ _ (by omega)]; exact a4, a5, by rw [ha _ _ (by omega)]; exact a6, a7⟩
  · rw [ha _ _ (by omega)]; exact h4 p hp
theorem dw_of {f : Nat} {σ : qMem} {s : Nat} {w al pr : Nat → Nat} {sk : Nat → Bool} {v : Nat → Nat} (h : dwC σ s w al pr sk v) {i : Nat} (hi : i < s) : p_Promises_of f σ (σ 97 i) 2 = some (nI (al i)) ∧ p_Promises_of f σ (σ 97 i) 3 = some (nI (pr i)) := by
  obtain ⟨a1, a2, a3, a4, a5, a6, a7⟩ := h.2.2.1 i hi
  rw [a2, ← a4, ← a6]
  exact ⟨of_c (j := 2) a1 (by omega), of_c (j := 3) a1 (by omega)⟩
theorem can_c {f : Nat} {σ : qMem} {s m : Nat} {w al pr : Nat → Nat} {sk : Nat → Bool} {v : Nat → Nat} (h : dwC σ s w al pr sk v) (hm : m < 256) (hf : 100 < f) : ∃ r σ', p_Dawn_canAllHaveAnHour f σ (nI m) = some (r, σ') ∧ (∀ a b, a ≠ 101 → a ≠ 102 → σ' a b = σ a b) ∧ (dgO al pr sk v s (fun i => m.testBit i) → r = 1) ∧ (¬ dgO al pr sk v s (fun i => m.testBit i) → r = 0) := by
  have hs : s ≤ 8 := h.1
  unfold p_Dawn_canAllHaveAnHour
  rw [fill_ok (by omega) (by omega), Option.bind_some, fill_ok (by omega) (by omega), Option.bind_some]
  have big : ∀ (g : Nat → Nat) (t a : Nat), (∀ i, i < s → g i < a) → t ≤ s → sm (fun i => bI (m.testBit i && decide (g i = a))) t = 0 := fun g t a hg ht => sm_0 (fun i hi => by
    have : ¬ g i = a := by have := hg i (by omega); omega
    simp [this, bI])
  have key := wf2 (F := p_Dawn_canAllHaveAnHour_l18 f (nI m)) (fun τ x => ∃ t : Nat, t ≤ s ∧ x = nI t ∧ (∀ a b, a ≠ 101 → a ≠ 102 → τ a b = σ a b) ∧ (∀ a, a < 4 → τ 101 a = nI (sm (fun i => bI (m.testBit i && decide (al i = a))) t)) ∧ (∀ p, p < 8 → τ 102 p = nI (sm (fun i => bI (m.testBit i && decide (pr i = p))) t)) ∧ (∀ i, i < t → m.testBit i = true → sk i = false) ∧ (∀ a, a < 4 → sm (fun i => bI (m.testBit i && decide (al i = a))) t ≤ 5) ∧ ∀ p, p < 8 → sm (fun i => bI (m.testBit i && decide (pr i = p))) t ≤ v p) (fun _ x => 100 - qi x) (fun _ _ r => (∀ a b, a ≠ 101 → a ≠ 102 → r.2 a b = σ a b) ∧ (dgO al pr sk v s (fun i => m.testBit i) → r.1 = 1) ∧ (¬ dgO al pr sk v s (fun i => m.testBit i) → r.1 = 0)) ?_ f (qfl (qfl σ 101 4 0) 102 8 0) 0 ⟨0, by omega, rfl, fun a b h1 h2 => ?_, fun a ha => ?_, fun p hp => ?_, fun i hi => absurd hi (Nat.not_lt_zero _), fun a _ => Nat.zero_le _, fun p _ => Nat.zero_le _⟩ (by show 100 - _ < f; omega)
  · obtain ⟨r, e, q1, q2, q3⟩ := key
    exact ⟨r.1, r.2, e, q1, q2, q3⟩
  · rintro k τ x ⟨t, ht, rfl, ag, u1, u2, g1, g2, g3⟩ ih
    have hτ : dwC τ s w al pr sk v := h.cg (fun a b hab => ag a b (by omega) (by omega))
    unfold p_Dawn_canAllHaveAnHour_l18
    rw [hτ.2.1]
    by_cases c : t = s
    · subst c
      rw [if_pos (nI_le (Nat.le_refl _) (by omega))]
      refine ⟨_, rfl, ag, fun _ => rfl, fun w0 => absurd ⟨g1, fun a => ?_, fun p => ?_⟩ w0⟩
      · by_cases q : a < 4
        · exact g2 a q
        · rw [big al t a (fun i hi => by have := (h.2.2.1 i hi).2.2.2.2.1; omega) (Nat.le_refl _)]; exact Nat.zero_le _
      · by_cases q : p < 8
        · exact g3 p q
        · rw [big pr t p (fun i hi => by have := (h.2.2.1 i hi).2.2.2.2.2.2; omega) (Nat.le_refl _)]; exact Nat.zero_le _
    · have hts : t < s := by omega
      have hq := qin_nI (k := t) (n := 8) (by omega) (by omega)
      have hmu : 100 - qi (nI (t + 1)) < 100 - qi (nI t) := by rw [qi_nI (by omega), qi_nI (by omega)]; omega
      rw [if_neg (nI_ge hts (by omega)), nI_1]
      have sA : ∀ a, sm (fun i => bI (m.testBit i && decide (al i = a))) (t + 1) = sm (fun i => bI (m.testBit i && decide (al i = a))) t + bI (m.testBit t && decide (al t = a)) := fun a => rfl
      have sP : ∀ p, sm (fun i => bI (m.testBit i && decide (pr i = p))) (t + 1) = sm (fun i => bI (m.testBit i && decide (pr i = p))) t + bI (m.testBit t && decide (pr t = p)) := fun p => rfl
      by_cases c1 : m.testBit t = true
      · obtain ⟨o2, o3⟩ := dw_of (f := f) hτ hts
        obtain ⟨a1, a2, a3, a4, a5, a6, a7⟩ := hτ.2.2.1 t hts
        have qa := qin_nI (k := al t) (n := 4) (by omega) (by omega)
        have qp := qin_nI (k := pr t) (n := 8) (by omega) (by omega)
        have ia : qi (nI (al t)) = al t := qi_nI (by omega)
        have ip : qi (nI (pr t)) = pr t := qi_nI (by omega)
        have it : qi (nI t) = t := qi_nI (by omega)
        have n1 : sm (fun i => bI (m.testBit i && decide (al i = al t))) (t + 1) = sm (fun i => bI (m.testBit i && decide (al i = al t))) t + 1 := by rw [sA]; simp [c1, bI]
        have n2 : sm (fun i => bI (m.testBit i && decide (pr i = pr t))) (t + 1) = sm (fun i => bI (m.testBit i && decide (pr i = pr t))) t + 1 := by rw [sP]; simp [c1, bI]
        have l1 : sm (fun i => bI (m.testBit i && decide (al i = al t))) t ≤ t := by have := sm_cnt (fun i => m.testBit i && decide (al i = al t)) t; omega
        have l2 : sm (fun i => bI (m.testBit i && decide (pr i = pr t))) t ≤ t := by have := sm_cnt (fun i => m.testBit i && decide (pr i = pr t)) t; omega
        have mem : qmu (qmu τ 101 (al t) (τ 101 (al t) + 1)) 102 (pr t) ((qmu τ 101 (al t) (τ 101 (al t) + 1)) 102 (pr t) + 1) = qmu (qmu τ 101 (al t) (nI (sm (fun i => bI (m.testBit i && decide (al i = al t))) (t + 1)))) 102 (pr t) (nI (sm (fun i => bI (m.testBit i && decide (pr i = pr t))) (t + 1))) := by
          rw [mu_k (by decide), u1 _ (by omega), u2 _ (by omega), nI_1, nI_1, n1, n2]
        have ag2 : ∀ a b, a ≠ 101 → a ≠ 102 → (qmu (qmu τ 101 (al t) (nI (sm (fun i => bI (m.testBit i && decide (al i = al t))) (t + 1)))) 102 (pr t) (nI (sm (fun i => bI (m.testBit i && decide (pr i = pr t))) (t + 1)))) a b = σ a b := fun a b h1 h2 => by rw [mu_k h2, mu_k h1]; exact ag a b h1 h2
        rw [if_pos ((i_bit (by omega) (by omega)).mpr c1), if_pos hq, it, o2, Option.bind_some, if_pos hq, o3, Option.bind_some, if_pos qa, if_pos qa, if_pos qp, if_pos qp, if_pos hq, if_pos qa, if_pos qp, if_pos qp, ia, ip, mem]
        have r99 : (qmu (qmu τ 101 (al t) (nI (sm (fun i => bI (m.testBit i && decide (al i = al t))) (t + 1)))) 102 (pr t) (nI (sm (fun i => bI (m.testBit i && decide (pr i = pr t))) (t + 1)))) 99 t = b01 (sk t) := by rw [mu_k (by decide), mu_k (by decide)]; exact a3
        have r101 : (qmu (qmu τ 101 (al t) (nI (sm (fun i => bI (m.testBit i && decide (al i = al t))) (t + 1)))) 102 (pr t) (nI (sm (fun i => bI (m.testBit i && decide (pr i = pr t))) (t + 1)))) 101 (al t) = nI (sm (fun i => bI (m.testBit i && decide (al i = al t))) (t + 1)) := by rw [mu_k (by decide), mu_s]
        have r102 : (qmu (qmu τ 101 (al t) (nI (sm (fun i => bI (m.testBit i && decide (al i = al t))) (t + 1)))) 102 (pr t) (nI (sm (fun i => bI (m.testBit i && decide (pr i = pr t))) (t + 1)))) 102 (pr t) = nI (sm (fun i => bI (m.testBit i && decide (pr i = pr t))) (t + 1)) := mu_s
        have r32 : (qmu (qmu τ 101 (al t) (nI (sm (fun i => bI (m.testBit i && decide (al i = al t))) (t + 1)))) 102 (pr t) (nI (sm (fun i => bI (m.testBit i && decide (pr i = pr t))) (t + 1)))) 32 (pr t) = nI (v (pr t)) := by rw [mu_k (by decide), mu_k (by decide)]; exact (hτ.2.2.2 _ (by omega)).1
        have hv3 := (hτ.2.2.2 (pr t) (by omega)).2
        rw [r99, r101, r102, r32]
        cases q1 : sk t
        · rw [if_pos (show b01 false = 0 from rfl)]
          by_cases q2 : 5 < sm (fun i => bI (m.testBit i && decide (al i = al t))) (t + 1)
          · rw [if_pos (show (5 : Int32) < nI _ from nI_lt (a := 5) q2 (by omega))]
            refine ⟨_, rfl, ag2, fun hd => ?_, fun _ => rfl⟩
            have e1 : sm (fun i => bI (m.testBit i && decide (al i = al t))) s ≤ 5 := hd.2.1 (al t)
            have e2 : sm (fun i => bI (m.testBit i && decide (al i = al t))) (t + 1) ≤ sm (fun i => bI (m.testBit i && decide (al i = al t))) s := sm_mono hts
            omega
          · rw [if_neg (show ¬ (5 : Int32) < nI _ from nI_nlt (a := 5) (by omega) (by omega))]
            by_cases q3 : sm (fun i => bI (m.testBit i && decide (pr i = pr t))) (t + 1) ≤ v (pr t)
            · rw [if_pos (nI_le q3 (by omega))]
              refine ih _ _ ⟨t + 1, by omega, rfl, ag2, fun a ha => ?_, fun p hp => ?_, fun i hi he => ?_, fun a ha => ?_, fun p hp => ?_⟩ hmu
              · by_cases e : a = al t
                · rw [e]; exact r101
                · rw [mu_k (by decide), mu_j e, u1 a ha, sA]
                  have : ¬ al t = a := fun w0 => e w0.symm
                  simp [this, bI]
              · by_cases e : p = pr t
                · rw [e]; exact r102
                · rw [mu_j e, mu_k (by decide), u2 p hp, sP]
                  have : ¬ pr t = p := fun w0 => e w0.symm
                  simp [this, bI]
              · by_cases e : i = t
                · rw [e]; exact q1
                · exact g1 i (by omega) he
              · by_cases e : a = al t
                · rw [e]; omega
                · rw [sA]
                  have : ¬ al t = a := fun w0 => e w0.symm
                  simp only [this, decide_false, Bool.and_false, bI]
                  exact g2 a ha
              · by_cases e : p = pr t
                · rw [e]; exact q3
                · rw [sP]
                  have : ¬ pr t = p := fun w0 => e w0.symm
                  simp only [this, decide_false, Bool.and_false, bI]
                  exact g3 p hp
            · rw [if_neg (nI_ge (by omega) (by omega))]
              refine ⟨_, rfl, ag2, fun hd => ?_, fun _ => rfl⟩
              have e1 : sm (fun i => bI (m.testBit i && decide (pr i = pr t))) s ≤ v (pr t) := hd.2.2 (pr t)
              have e2 : sm (fun i => bI (m.testBit i && decide (pr i = pr t))) (t + 1) ≤ sm (fun i => bI (m.testBit i && decide (pr i = pr t))) s := sm_mono hts
              omega
        · rw [if_neg (show ¬ b01 true = 0 by decide)]
          refine ⟨_, rfl, ag2, fun hd => ?_, fun _ => rfl⟩
          have := hd.1 t hts c1
          rw [q1] at this
          exact absurd this (by decide)
      · rw [if_neg (fun w0 => c1 ((i_bit (by omega) (by omega)).mp w0))]
        have c1' : m.testBit t = false := by simpa using c1
        refine ih _ _ ⟨t + 1, by omega, rfl, ag, fun a ha => ?_, fun p hp => ?_, fun i hi he => ?_, fun a ha => ?_, fun p hp => ?_⟩ hmu
        · rw [sA, c1', u1 a ha]; simp [bI]
        · rw [sP, c1', u2 p hp]; simp [bI]
        · by_cases e : i = t
          · rw [e] at he; exact absurd he c1
          · exact g1 i (by omega) he
        · rw [sA, c1']; exact g2 a ha
        · rw [sP, c1']; exact g3 p hp
  · unfold qfl
    rw [if_neg (fun w0 => h2 w0.1), if_neg (fun w0 => h1 w0.1)]
  · unfold qfl
    rw [if_neg (by omega), if_pos ⟨rfl, ha⟩]; rfl
  · unfold qfl
    rw [if_pos ⟨rfl, hp⟩]; rfl
