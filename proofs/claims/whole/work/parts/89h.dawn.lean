/-! dawn: the whole call -/
theorem pcN_1 {m p : Nat} : pcN (p + 1) m = pcN p m + bI (m.testBit p) := rfl
theorem pcN_mono {m p q : Nat} (h : p ≤ q) : pcN p m ≤ pcN q m := sm_mono h
theorem pc_ex {m : Nat} : ∀ {p k : Nat}, k < pcN p m → ∃ j, j < p ∧ m.testBit j = true ∧ pcN j m = k
  | 0, k, h => absurd h (Nat.not_lt_zero _)
  | p + 1, k, h => by
    rw [pcN_1] at h
    by_cases c : k < pcN p m
    · obtain ⟨j, a, b⟩ := pc_ex c
      exact ⟨j, by omega, b⟩
    · by_cases q : m.testBit p = true
      · have : bI (m.testBit p) = 1 := by simp [q, bI]
        exact ⟨p, by omega, q, by omega⟩
      · have : bI (m.testBit p) = 0 := by simp [q, bI]
        omega
theorem dg_cg {al pr : Nat → Nat} {sk : Nat → Bool} {v : Nat → Nat} {s : Nat} {E F : Nat → Bool} (h : ∀ i, i < s → E i = F i) (hd : dgO al pr sk v s E) : dgO al pr sk v s F := by
  refine ⟨fun i hi he => hd.1 i hi (by rw [h i hi]; exact he), fun a => ?_, fun p => ?_⟩
  · rw [sm_cg (g := fun i => bI (F i && decide (al i = a))) (h := fun i => bI (E i && decide (al i = a))) (fun i hi => by rw [h i hi])]; exact hd.2.1 a
  · rw [sm_cg (g := fun i => bI (F i && decide (pr i = p))) (h := fun i => bI (E i && decide (pr i = p))) (fun i hi => by rw [h i hi])]; exact hd.2.2 p
theorem pc_mk {s : Nat} {g : Nat → Nat} : pcN s (mkM (fun i => decide (g i < 5)) s) = cnH s g := sm_cg (fun i hi => by rw [mkM_b, decide_eq_true hi, Bool.true_and])
theorem mk_E {s : Nat} {E : Nat → Bool} : ∀ i, i < s → (mkM E s).testBit i = E i := fun i hi => by rw [mkM_b, decide_eq_true hi, Bool.true_and]
theorem gd_iff {al pr : Nat → Nat} {sk : Nat → Bool} {v : Nat → Nat} {s M : Nat} {g : Nat → Nat} : gdC al pr s (LgP al pr sk v s M) g ↔ vlH al pr sk v s g ∧ cnH s g = M := by
  constructor
  · rintro ⟨h1, h2, h3, h4⟩
    refine ⟨fun i hi => ⟨h1 i hi, ?_⟩, by rw [← h4, pc_mk]⟩
    by_cases c : g i = 5
    · exact Or.inl c
    · have c5 : g i < 5 := by have := h1 i hi; omega
      have hd := dg_cg (F := fun i => decide (g i < 5)) mk_E h3
      refine Or.inr ⟨hd.1 i hi (by simp [c5]), fun k hk e z => h2 i hi c5 k hk e z.symm, ?_⟩
      have e1 : sm (fun k => bI (decide (pr k = pr i) && decide (g k < 5))) i = sm (fun k => bI (decide (g k < 5) && decide (pr k = pr i))) i := sm_cg (fun k _ => by rw [Bool.and_comm])
      have e2 : sm (fun k => bI (decide (g k < 5) && decide (pr k = pr i))) (i + 1) ≤ sm (fun k => bI (decide (g k < 5) && decide (pr k = pr i))) s := sm_mono hi
      have e3 : sm (fun k => bI (decide (g k < 5) && decide (pr k = pr i))) (i + 1) = sm (fun k => bI (decide (g k < 5) && decide (pr k = pr i))) i + 1 := by
        show _ + bI (decide (g i < 5) && decide (pr i = pr i)) = _
        simp [c5, bI]
      have e4 : sm (fun k => bI (decide (g k < 5) && decide (pr k = pr i))) s ≤ v (pr i) := hd.2.2 (pr i)
      omega
  · rintro ⟨h1, h2⟩
    refine ⟨fun i hi => (h1 i hi).1, fun i hi c5 k hk e z => ?_, dg_cg (fun i hi => (mk_E i hi).symm) (vl_dg h1), by rw [pc_mk, h2]⟩
    rcases (h1 i hi).2 with q | q
    · omega
    · exact q.2.1 k hk e z.symm
theorem mx_eq {al pr : Nat → Nat} {sk : Nat → Bool} {v : Nat → Nat} {s M M' : Nat} {bt : Nat → Nat} (hv : ∀ p, v p ≤ 5) (h1 : mxP al pr sk v s M) (h2 : vlH al pr sk v s bt) (h3 : cnH s bt = M') (h4 : ∀ g, vlH al pr sk v s g → cnH s g ≤ M') : M = M' := by
  have a1 : M ≤ M' := by
    obtain ⟨m, m1, m2, m3⟩ := h1.2
    obtain ⟨h, q1, q2⟩ := dg_vl hv m2
    have e : cnH s h = pcN s m := sm_cg (fun i hi => by
      have : decide (h i < 5) = m.testBit i := by
        rw [Bool.eq_iff_iff, decide_eq_true_eq]
        exact q2 i hi
      rw [this])
    have := h4 h q1
    omega
  have a2 : M' ≤ M := by
    have := h1.1 (mkM (fun i => decide (bt i < 5)) s) (mkM_lt s) (dg_cg (fun i hi => (mk_E i hi).symm) (vl_dg h2))
    rw [pc_mk] at this
    omega
  omega
theorem hourOf_c {f : Nat} {σ : qMem} {s : Nat} {w g : Nat → Nat} {x : Int32} (hs : s ≤ 8) (h6 : σ 96 6 = nI s) (h97 : ∀ i, i < s → σ 97 i = nI (w i)) (h98 : ∀ i, i < s → σ 98 i = enc (g i)) (hf : 100 < f) : p_Dawn_hourOf f σ x = some (lkV w g x s 0) := by
  unfold p_Dawn_hourOf
  refine up1 (n := s) (res := fun i => lkV w g x (s - i) i) (by omega) (fun k => ?_) (fun k i hi hk => ?_)
  · unfold p_Dawn_hourOf_l2
    rw [h6, if_pos (nI_le (Nat.le_refl _) (by omega)), Nat.sub_self]
    rfl
  · have hq := qin_nI (k := i) (n := 8) (by omega) (by omega)
    unfold p_Dawn_hourOf_l2
    rw [h6, if_neg (nI_ge hi (by omega)), if_pos hq, if_pos hq, qi_nI (by omega), h97 i hi, h98 i hi, nI_1, hk, lkV_s hi]
    by_cases c : nI (w i) = x
    · rw [if_pos c, if_pos c]
    · rw [if_neg c, if_neg c]
/-- the members' loop of the one -/
theorem members_c {f : Nat} {σ : qMem} {m np nS : Nat} {day : Int32} (hm : m < 2 ^ np) (hnp : np ≤ 12) (e13 : σ 13 1 = nI np) (hS : nS ≤ 20) (eS : σ 33 3 = nI nS) (h8 : pcN 12 m ≤ 8) (hf : 1000 < f) : ∃ τ : qMem, p_Dawn_deal f σ (nI m) day = p_Dawn_deal_b88 f τ ∧ τ 96 6 = nI (pcN 12 m) ∧ (∀ a b, a < 96 ∨ 99 < a → τ a b = σ a b) ∧ ∀ j, j < 12 → m.testBit j = true → τ 97 (pcN j m) = nI j ∧ τ 99 (pcN j m) = anyI (sickB σ (σ (15 + j) 3) day) nS 0 := by
  have h4096 : (2 : Nat) ^ np ≤ 2 ^ 12 := Nat.pow_le_pow_right (by decide) hnp
  have hm12 : m < 4096 := by omega
  have hbig : ∀ j, np ≤ j → m.testBit j = false := fun j hj => Nat.testBit_lt_two_pow (Nat.lt_of_lt_of_le hm (Nat.pow_le_pow_right (by decide) hj))
  unfold p_Dawn_deal
  have key : ∀ (r p : Nat) (ρ : qMem) (fu : Nat), p + r = np → r < fu → ρ 96 6 = nI (pcN p m) → (∀ a b, a < 96 ∨ 99 < a → ρ a b = σ a b) → (∀ j, j < p → m.testBit j = true → ρ 97 (pcN j m) = nI j ∧ ρ 99 (pcN j m) = anyI (sickB σ (σ (15 + j) 3) day) nS 0) → ∃ τ : qMem, qfix2 (p_Dawn_deal_l7 f (nI m) day) fu ρ (nI p) = p_Dawn_deal_b88 f τ ∧ τ 96 6 = nI (pcN 12 m) ∧ (∀ a b, a < 96 ∨ 99 < a → τ a b = σ a b) ∧ ∀ j, j < 12 → m.testBit j = true → τ 97 (pcN j m) = nI j ∧ τ 99 (pcN j m) = anyI (sickB σ (σ (15 + j) 3) day) nS 0 := by
    intro r
    induction r with
    | zero =>
      intro p ρ fu hp hfu h6 ag hj
      obtain ⟨fu', rfl⟩ : ∃ fu', fu = fu' + 1 := ⟨fu - 1, by omega⟩
      have hpn : p = np := by omega
      refine ⟨ρ, ?_, ?_, ag, fun j hj1 hj2 => hj j ?_ hj2⟩
      · rw [qfix2_s]
        unfold p_Dawn_deal_l7 p_Promises_size
        rw [Option.bind_some, ag 13 1 (by omega), e13, if_pos (nI_le (by omega) (by omega))]
      · rw [h6, hpn]
        congr 1
        unfold pcN
        exact (sm_tail hnp (fun i a _ => by rw [hbig i a]; rfl)).symm
      · have : ¬ np ≤ j := fun w0 => by rw [hbig j w0] at hj2; exact absurd hj2 (by decide)
        omega
    | succ r ih =>
      intro p ρ fu hp hfu h6 ag hj
      obtain ⟨fu', rfl⟩ : ∃ fu', fu = fu' + 1 := ⟨fu - 1, by omega⟩
      have hp12 : p < 12 := by omega
      have hpl : pcN p m ≤ p := pcN_le
      have hle : pcN p m ≤ pcN 12 m := pcN_mono (by omega)
      rw [qfix2_s]
      have ih' := ih (p + 1)
      generalize hK : qfix2 (p_Dawn_deal_l7 f (nI m) day) fu' = K
      unfold p_Dawn_deal_l7 p_Promises_size
      rw [Option.bind_some, ag 13 1 (by omega), e13, if_neg (nI_ge (by omega) (by omega)), h6]
      by_cases c8 : 8 ≤ pcN p m
      · rw [if_pos (show (8 : Int32) ≤ nI (pcN p m) from nI_le (a := 8) c8 (by omega))]
        refine ⟨ρ, rfl, by rw [h6, show pcN p m = pcN 12 m by omega], ag, fun j hj1 hj2 => hj j ?_ hj2⟩
        refine Classical.byContradiction fun w0 => ?_
        have h1 : pcN p m ≤ pcN j m := pcN_mono (by omega)
        have h2 : pcN (j + 1) m ≤ pcN 12 m := pcN_mono (by omega)
        rw [pcN_1] at h2
        have h3 : bI (m.testBit j) = 1 := by simp [hj2, bI]
        omega
      · rw [if_neg (show ¬ (8 : Int32) ≤ nI (pcN p m) from nI_ge (b := 8) (by omega) (by omega)), nI_1]
        by_cases c1 : m.testBit p = true
        · have hq := qin_nI (k := pcN p m) (n := 8) (by omega) (by omega)
          have hk6 : ∀ (z : Int32), (qmu ρ 97 (pcN p m) z) 96 6 = nI (pcN p m) := fun z => by rw [mu_k (by decide)]; exact h6
          have crow : (qmu ρ 97 (pcN p m) (nI p)) (15 + p) 3 = σ (15 + p) 3 := by rw [mu_k (by omega)]; exact ag _ _ (by omega)
          have o3 : p_Promises_of f (qmu ρ 97 (pcN p m) (nI p)) (nI p) 3 = some (σ (15 + p) 3) := by rw [← crow]; exact of_c (j := 3) hp12 (by omega)
          have cs := cov_s (f := f) (σ := qmu ρ 97 (pcN p m) (nI p)) (x := σ (15 + p) 3) (d := day) (n := nS) (by rw [mu_k (by decide), ag 33 3 (by omega)]; exact eS) hS (by omega)
          have csv : anyI (sickB (qmu ρ 97 (pcN p m) (nI p)) (σ (15 + p) 3) day) nS 0 = anyI (sickB σ (σ (15 + p) 3) day) nS 0 := anyI_cg nS 0 (fun j _ _ => by
            unfold sickB
            rw [mu_k (by decide), mu_k (by decide), mu_k (by decide), ag 34 j (by omega), ag 35 j (by omega), ag 36 j (by omega)])
          rw [if_pos ((i_bit (by omega) (by omega)).mpr c1), if_pos hq, qi_nI (by omega), o3, Option.bind_some, cs, Option.bind_some, hk6, if_pos hq, qi_nI (by omega), zn_01 (anyI_01 _ _ _), mu_k (show (96 : Nat) ≠ 99 by decide), hk6, nI_1, csv, ← hK]
          have e1 : pcN (p + 1) m = pcN p m + 1 := by rw [pcN_1]; simp [c1, bI]
          refine ih' _ fu' (by omega) (by omega) (by rw [mu_s, e1]) (fun a b hab => by rw [mu_k (by omega), mu_k (by omega), mu_k (by omega)]; exact ag a b hab) (fun j hj1 hj2 => ?_)
          by_cases q : j = p
          · subst q
            rw [mu_k (by decide), mu_k (by decide), mu_s, mu_k (by decide), mu_s]
            exact ⟨rfl, rfl⟩
          · have h1 : pcN (j + 1) m ≤ pcN p m := pcN_mono (by omega)
            rw [pcN_1] at h1
            have h2 : bI (m.testBit j) = 1 := by simp [hj2, bI]
            rw [mu_k (by decide), mu_k (by decide), mu_j (by omega), mu_k (by decide), mu_j (by omega), mu_k (by decide)]
            exact hj j (by omega) hj2
        · rw [if_neg (fun w0 => c1 ((i_bit (by omega) (by omega)).mp w0)), ← hK]
          have e1 : pcN (p + 1) m = pcN p m := by rw [pcN_1]; simp [c1, bI]
          refine ih' ρ fu' (by omega) (by omega) (by rw [e1]; exact h6) ag (fun j hj1 hj2 => ?_)
          have : j ≠ p := fun e => c1 (by rw [← e]; exact hj2)
          exact hj j (by omega) hj2
  exact key np 0 (qmu σ 96 6 0) f (by omega) (by omega) (by rw [mu_s]; rfl) (fun a b hab => mu_k (by omega)) (fun j hj => absurd hj (Nat.not_lt_zero _))
/-- the members' loop of the other -/
theorem members_m {f : Nat} {σ : qMem} {m : Nat} {x2 x3 : Int32} (hm0 : 0 < m) (hm : m < 2 ^ 31) (hf : 1000 < f) : ∃ τ : qMem, p_M_dawn f σ (nI m) x2 x3 = p_M_dawn_b57 f τ (nI m) x2 x3 (nI (pcN 12 m)) ∧ (∀ a b, a ≠ 145 → τ a b = (qmu σ 104 0 0) a b) ∧ ∀ j, j < 12 → m.testBit j = true → pcN j m < 8 → τ 145 (pcN j m) = nI j := by
  unfold p_M_dawn
  have key : ∀ (r p : Nat) (ρ : qMem) (fu : Nat), p + r = 12 → r < fu → (∀ a b, a ≠ 145 → ρ a b = (qmu σ 104 0 0) a b) → (∀ j, j < p → m.testBit j = true → pcN j m < 8 → ρ 145 (pcN j m) = nI j) → ∃ τ : qMem, qfix3 (p_M_dawn_l11 f (nI m) x2 x3) fu ρ (nI (pcN p m)) (nI p) = p_M_dawn_b57 f τ (nI m) x2 x3 (nI (pcN 12 m)) ∧ (∀ a b, a ≠ 145 → τ a b = (qmu σ 104 0 0) a b) ∧ ∀ j, j < 12 → m.testBit j = true → pcN j m < 8 → τ 145 (pcN j m) = nI j := by
    intro r
    induction r with
    | zero =>
      intro p ρ fu hp hfu ag hj
      obtain ⟨fu', rfl⟩ : ∃ fu', fu = fu' + 1 := ⟨fu - 1, by omega⟩
      have hp12 : p = 12 := by omega
      subst hp12
      refine ⟨ρ, ?_, ag, hj⟩
      rw [qfix3_s]
      unfold p_M_dawn_l11
      rw [if_pos (by decide)]
    | succ r ih =>
      intro p ρ fu hp hfu ag hj
      obtain ⟨fu', rfl⟩ : ∃ fu', fu = fu' + 1 := ⟨fu - 1, by omega⟩
      have hpl : pcN p m ≤ p := pcN_le
      have ih' := ih (p + 1)
      rw [qfix3_s]
      generalize hK : qfix3 (p_M_dawn_l11 f (nI m) x2 x3) fu' = K
      unfold p_M_dawn_l11
      rw [if_neg (show ¬ (12 : Int32) ≤ nI p from nI_ge (b := 12) (by omega) (by omega)), if_neg (nI_nle hm0 hm), nI_1, nI_1]
      by_cases c1 : m.testBit p = true
      · have e1 : pcN (p + 1) m = pcN p m + 1 := by rw [pcN_1]; simp [c1, bI]
        rw [if_pos ((i_bit hm (by omega)).mpr c1), ← hK, ← e1]
        by_cases c8 : 8 ≤ pcN p m
        · rw [if_pos (show (8 : Int32) ≤ nI (pcN p m) from nI_le (a := 8) c8 (by omega))]
          refine ih' ρ fu' (by omega) (by omega) ag (fun j hj1 hj2 hj3 => ?_)
          by_cases q : j = p
          · subst q; omega
          · exact hj j (by omega) hj2 hj3
        · rw [if_neg (show ¬ (8 : Int32) ≤ nI (pcN p m) from nI_ge (b := 8) (by omega) (by omega)), if_pos (qin_nI (by omega) (by omega)), qi_nI (by omega)]
          refine ih' _ fu' (by omega) (by omega) (fun a b hab => by rw [mu_k hab]; exact ag a b hab) (fun j hj1 hj2 hj3 => ?_)
          by_cases q : j = p
          · subst q; exact mu_s
          · have h1 : pcN (j + 1) m ≤ pcN p m := pcN_mono (by omega)
            rw [pcN_1] at h1
            have h2 : bI (m.testBit j) = 1 := by simp [hj2, bI]
            rw [mu_j (by omega)]
            exact hj j (by omega) hj2 hj3
      · have e1 : pcN (p + 1) m = pcN p m := by rw [pcN_1]; simp [c1, bI]
        rw [if_neg (fun w0 => c1 ((i_bit hm (by omega)).mp w0)), ← hK, ← e1]
        refine ih' ρ fu' (by omega) (by omega) ag (fun j hj1 hj2 hj3 => ?_)
        have : j ≠ p := fun e => c1 (by rw [← e]; exact hj2)
        exact hj j (by omega) hj2 hj3
  exact key 12 0 (qmu σ 104 0 0) f (by omega) (by omega) (fun _ _ _ => rfl) (fun j hj => absurd hj (Nat.not_lt_zero _))
