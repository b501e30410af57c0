/-! loops by a measure -/
theorem wf1 {A0 R : Type} {F : (A0 → Option R) → A0 → Option R} (I : A0 → Prop) (μ : A0 → Nat) (Q : A0 → R → Prop) (hs : ∀ k a0, I a0 → (∀ b0, I b0 → μ b0 < μ a0 → ∃ r, k b0 = some r ∧ Q b0 r) → ∃ r, F k a0 = some r ∧ Q a0 r) : ∀ f a0, I a0 → μ a0 < f → ∃ r, qfix1 F f a0 = some r ∧ Q a0 r
  | 0, _, _, h => absurd h (Nat.not_lt_zero _)
  | f + 1, a0, hI, h => by
    rw [qfix1_s]
    exact hs _ a0 hI (fun b0 hb hm => wf1 I μ Q hs f b0 hb (by omega))
theorem wf2 {A0 A1 R : Type} {F : (A0 → A1 → Option R) → A0 → A1 → Option R} (I : A0 → A1 → Prop) (μ : A0 → A1 → Nat) (Q : A0 → A1 → R → Prop) (hs : ∀ k a0 a1, I a0 a1 → (∀ b0 b1, I b0 b1 → μ b0 b1 < μ a0 a1 → ∃ r, k b0 b1 = some r ∧ Q b0 b1 r) → ∃ r, F k a0 a1 = some r ∧ Q a0 a1 r) : ∀ f a0 a1, I a0 a1 → μ a0 a1 < f → ∃ r, qfix2 F f a0 a1 = some r ∧ Q a0 a1 r
  | 0, _, _, _, h => absurd h (Nat.not_lt_zero _)
  | f + 1, a0, a1, hI, h => by
    rw [qfix2_s]
    exact hs _ a0 a1 hI (fun b0 b1 hb hm => wf2 I μ Q hs f b0 b1 hb (by omega))
theorem wf3 {A0 A1 A2 R : Type} {F : (A0 → A1 → A2 → Option R) → A0 → A1 → A2 → Option R} (I : A0 → A1 → A2 → Prop) (μ : A0 → A1 → A2 → Nat) (Q : A0 → A1 → A2 → R → Prop) (hs : ∀ k a0 a1 a2, I a0 a1 a2 → (∀ b0 b1 b2, I b0 b1 b2 → μ b0 b1 b2 < μ a0 a1 a2 → ∃ r, k b0 b1 b2 = some r ∧ Q b0 b1 b2 r) → ∃ r, F k a0 a1 a2 = some r ∧ Q a0 a1 a2 r) : ∀ f a0 a1 a2, I a0 a1 a2 → μ a0 a1 a2 < f → ∃ r, qfix3 F f a0 a1 a2 = some r ∧ Q a0 a1 a2 r
  | 0, _, _, _, _, h => absurd h (Nat.not_lt_zero _)
  | f + 1, a0, a1, a2, hI, h => by
    rw [qfix3_s]
    exact hs _ a0 a1 a2 hI (fun b0 b1 b2 hb hm => wf3 I μ Q hs f b0 b1 b2 hb (by omega))
theorem wf4 {A0 A1 A2 A3 R : Type} {F : (A0 → A1 → A2 → A3 → Option R) → A0 → A1 → A2 → A3 → Option R} (I : A0 → A1 → A2 → A3 → Prop) (μ : A0 → A1 → A2 → A3 → Nat) (Q : A0 → A1 → A2 → A3 → R → Prop) (hs : ∀ k a0 a1 a2 a3, I a0 a1 a2 a3 → (∀ b0 b1 b2 b3, I b0 b1 b2 b3 → μ b0 b1 b2 b3 < μ a0 a1 a2 a3 → ∃ r, k b0 b1 b2 b3 = some r ∧ Q b0 b1 b2 b3 r) → ∃ r, F k a0 a1 a2 a3 = some r ∧ Q a0 a1 a2 a3 r) : ∀ f a0 a1 a2 a3, I a0 a1 a2 a3 → μ a0 a1 a2 a3 < f → ∃ r, qfix4 F f a0 a1 a2 a3 = some r ∧ Q a0 a1 a2 a3 r
  | 0, _, _, _, _, _, h => absurd h (Nat.not_lt_zero _)
  | f + 1, a0, a1, a2, a3, hI, h => by
    rw [qfix4_s]
    exact hs _ a0 a1 a2 a3 hI (fun b0 b1 b2 b3 hb hm => wf4 I μ Q hs f b0 b1 b2 b3 hb (by omega))
theorem run2c {A R : Type} {F : (A → Int32 → Option R) → A → Int32 → Option R} {n : Nat} {st : Nat → A} {r : R} (he : ∀ k, F k (st n) (nI n) = some r) (hs : ∀ k i, i < n → F k (st i) (nI i) = k (st (i + 1)) (nI (i + 1))) : ∀ (m i e : Nat), i + m = n → qfix2 F (m + 1 + e) (st i) (nI i) = some r
  | 0, i, e, h => by
    have hi : i = n := by omega
    subst hi
    rw [show 0 + 1 + e = e + 1 by omega, qfix2_s]
    exact he _
  | m + 1, i, e, h => by
    rw [show m + 1 + 1 + e = (m + 1 + e) + 1 by omega, qfix2_s, hs _ i (by omega)]
    exact run2c he hs m (i + 1) e (by omega)
theorem run2 {A R : Type} {F : (A → Int32 → Option R) → A → Int32 → Option R} {n f : Nat} (st : Nat → A) {r : R} (hf : n < f) (he : ∀ k, F k (st n) (nI n) = some r) (hs : ∀ k i, i < n → F k (st i) (nI i) = k (st (i + 1)) (nI (i + 1))) : qfix2 F f (st 0) (0 : Int32) = some r := by
  obtain ⟨e, rfl⟩ : ∃ e, f = n + 1 + e := ⟨f - n - 1, by omega⟩
  exact run2c he hs n 0 e (by omega)
/-! sheets -/
theorem rg_k {x : Int32} {b : Nat} {m : Int} (h : rg x 0 m) (hm : m = (b : Int)) : ∃ k : Nat, k ≤ b ∧ x = nI k := rg_nat (by rw [← hm]; exact h)
theorem fi_ok {σ σ' : qMem} (h : Inv σ) (ha : agr P_fi σ σ') (he : σ' 0 16 = σ' 104 1) : Inv σ' := h.u_fi ha he
theorem missL {f : Nat} {σ : qMem} {s : Nat} (hs : s < 8) : p_Sheets_missing f σ (nI s) = some (if σ 2 s = -1 then 1 else 0) := by
  have hq := qin_nI (k := s) (n := 8) hs (by omega)
  have hi : (nI s).toNatClampNeg = s := qi_nI (by omega)
  by_cases c : σ 2 s = -1 <;> simp [p_Sheets_missing, hq, hi, c]
theorem lane_neg {σ : qMem} (h : g_sh σ) {s : Nat} (hs : s < 8) : (σ 2 s < 0 ↔ σ 2 s = -1) ∧ (0 ≤ σ 2 s ↔ ¬ σ 2 s = -1) := by
  rcases h.2.2.2.1 s hs with e | e | e | e <;> rw [e] <;> decide
theorem holdsL {f : Nat} {σ : qMem} {s m : Nat} {x y : Int32} (hs : s < 8) (hm : σ 3 s = nI m) (hm2 : m ≤ 60) : p_Sheets_holds f σ (nI s) x y = some (if 0 ≤ x.toInt ∧ 0 ≤ y.toInt ∧ x.toInt + y.toInt ≤ m then 1 else 0) := by
  have hq := qin_nI (k := s) (n := 8) hs (by omega)
  have hi : (nI s).toNatClampNeg = s := qi_nI (by omega)
  unfold p_Sheets_holds
  by_cases c1 : x < 0
  · rw [if_pos c1, if_neg]
    rw [i32_lt] at c1
    have : (0 : Int32).toInt = 0 := rfl
    omega
  · rw [if_neg c1]
    by_cases c2 : y < 0
    · rw [if_pos c2, if_neg]
      rw [i32_lt] at c2
      have : (0 : Int32).toInt = 0 := rfl
      omega
    · obtain ⟨a, ha, rfl⟩ := nI_of c1
      obtain ⟨b, hb, rfl⟩ := nI_of c2
      rw [if_neg c2, if_pos hq, qi_nI (by omega), hm]
      by_cases c3 : nI m < nI a
      · rw [if_pos c3, if_neg]
        rw [i32_lt] at c3
        rw [nI_toInt ha, nI_toInt hb]
        rw [nI_toInt ha, nI_toInt (by omega)] at c3
        omega
      · rw [if_neg c3]
        rw [i32_lt, nI_toInt ha, nI_toInt (by omega)] at c3
        rw [if_pos hq, pk_sub (by omega)]
        by_cases c4 : nI (m - a) < nI b
        · rw [if_pos c4, if_neg]
          rw [i32_lt, nI_toInt (by omega), nI_toInt hb] at c4
          rw [nI_toInt ha, nI_toInt hb]
          omega
        · rw [if_neg c4, if_pos]
          rw [i32_lt, nI_toInt (by omega), nI_toInt hb] at c4
          rw [nI_toInt ha, nI_toInt hb]
          omega
theorem lg_add2 (x y : Int32) : (x.toInt64 + y.toInt64).toInt = x.toInt + y.toInt := by
  rw [Int64.toInt_add, tl_int, tl_int]
  have h1 := x.toInt_lt
  have h2 := x.le_toInt
  have h3 := y.toInt_lt
  have h4 := y.le_toInt
  exact Int.bmod_eq_of_le (by omega) (by omega)
theorem idx60 {s j : Nat} : ((60 : Int32) * nI s) + nI j = nI (60 * s + j) := by
  rw [show (60 : Int32) = nI 60 from rfl, nI_mul, nI_add]
theorem drop_ok {f : Nat} {σ : qMem} (h : Inv σ) (x : Int32) : PairW (p_C_drop f σ x) (fun s => p_M_drop f s x) := by
  by_cases c1 : rg x 0 7
  · obtain ⟨s, hs, rfl⟩ := rg_nat (b := 7) c1
    obtain ⟨a1, a2, a3, a4, a5⟩ := h.sh
    have hq := qin_nI (k := s) (n := 8) (by omega) (by omega)
    have hi : (nI s).toNatClampNeg = s := qi_nI (by omega)
    have hl := lane_neg h.sh (s := s) (by omega)
    by_cases c2 : σ 2 s = -1
    · refine ⟨-1000011, qmu σ 0 16 1, qmu (qmu (qmu (qmu σ 0 16 1) 104 0 0) 104 1 0) 104 1 1, ?_, ?_, ?_⟩
      · simp [p_C_drop, noSheetL, c1, missL (show s < 8 by omega), c2, p_C_found]
      · simp [p_M_drop, isSheetL, c1, hq, hi, mu_c, ← a1, hl.2, c2, p_M_finding]
      · exact fi_ok h (by repeat (first | exact agr_rf | refine agr_mu ?_ (by unfold P_fi; omega))) (by simp [mu_c, upd])
    · refine ⟨σ 3 s, qmu (qmu σ 2 s (-1)) 0 16 0, qmu (qmu (qmu (qmu (qmu σ 2 s (-1)) 0 16 0) 104 0 0) 104 1 0) 105 s (-1), ?_, ?_, ?_⟩
      · simp [p_C_drop, noSheetL, c1, missL (show s < 8 by omega), c2, p_Sheets_remove, hq, hi, p_C_foundNothing, mu_c]
      · simp [p_M_drop, isSheetL, c1, hq, hi, mu_c, ← a1, ← a2, hl.2, c2]
      · refine h.u_sh_fi (by repeat (first | exact agr_rf | refine agr_mu ?_ (by unfold P_sh_fi; omega))) ⟨by simp [mu_c, a1], by simp [mu_c, a2], ?_, ?_, ?_⟩ (by simp [g_fi, mu_c, upd])
        · intro t ht i hi2
          (simp only [qmu, true_and, and_self, if_true]; repeat (first | rw [if_neg (by omega)] | rw [if_pos (by omega)]))
          exact a3 t ht i hi2
        · intro t ht
          simp only [mu_c, upd]
          by_cases e : t = s
          · simp [e, upd]
          · simpa [e, upd] using a4 t ht
        · simpa [mu_c] using a5
  · refine badW (r := -1000001) h ?_ ?_
    · simp [p_C_drop, noSheetL, c1]
    · simp [p_M_drop, isSheetL, c1]
theorem set_ok {f : Nat} {σ : qMem} (h : Inv σ) (x y z : Int32) : PairW (p_C_set f σ x y z) (fun s => p_M_set f s x y z) := by
  by_cases c1 : rg x 0 7
  · obtain ⟨s, hs, rfl⟩ := rg_nat (b := 7) c1
    obtain ⟨a1, a2, a3, a4, a5⟩ := h.sh
    obtain ⟨m, hm, em⟩ := a5 s (by omega)
    have hq := qin_nI (k := s) (n := 8) (by omega) (by omega)
    have hi : (nI s).toNatClampNeg = s := qi_nI (by omega)
    have hl := lane_neg h.sh (s := s) (by omega)
    by_cases c2 : σ 2 s = -1
    · refine ⟨-1000011, qmu σ 0 16 1, qmu (qmu (qmu (qmu σ 0 16 1) 104 0 0) 104 1 0) 104 1 1, ?_, ?_, ?_⟩
      · simp [p_C_set, noSheetL, c1, missL (show s < 8 by omega), c2, p_C_found]
      · simp [p_M_set, isSheetL, c1, hq, hi, mu_c, ← a1, hl.2, c2, p_M_finding]
      · exact fi_ok h (by repeat (first | exact agr_rf | refine agr_mu ?_ (by unfold P_fi; omega))) (by simp [mu_c, upd])
    · by_cases c3 : rg y 0 ((m : Int) - 1)
      · obtain ⟨i, hi2, rfl⟩ := rg_p c3 (by omega)
        have hq2 := qin_nI (k := i) (n := 60) (by omega) (by omega)
        have hi3 : (nI i).toNatClampNeg = i := qi_nI (by omega)
        have hq4 := qin_nI (k := 60 * s + i) (n := 480) (by omega) (by omega)
        have hi4 : (nI (60 * s + i)).toNatClampNeg = 60 * s + i := qi_nI (by omega)
        have hh : p_Sheets_holds f σ (nI s) (nI i) 1 = some 1 := by
          rw [holdsL (by omega) em hm, if_pos]
          rw [nI_toInt (by omega)]
          have : (1 : Int32).toInt = 1 := rfl
          omega
        have key : ∀ w : Int32, Inv (qmu (qmu (qmu (qmu (qmu σ (5 + s) i w) 0 16 0) 104 0 0) 104 1 0) 107 (60 * s + i) w) := by
          intro w
          refine h.u_sh_fi (by repeat (first | exact agr_rf | refine agr_mu ?_ (by unfold P_sh_fi; omega))) ⟨?_, ?_, ?_, ?_, ?_⟩ (by simp [g_fi, mu_c, upd])
          · funext b
            (simp only [qmu, true_and, and_self, if_true]; repeat (first | rw [if_neg (by omega)] | rw [if_pos (by omega)]))
            rw [a1]
          · funext b
            (simp only [qmu, true_and, and_self, if_true]; repeat (first | rw [if_neg (by omega)] | rw [if_pos (by omega)]))
            rw [a2]
          · intro t ht j hj
            by_cases e : t = s
            · subst e
              by_cases e2 : j = i
              · subst e2
                (simp only [qmu, true_and, and_self, if_true]; repeat (first | rw [if_neg (by omega)] | rw [if_pos (by omega)]))
              · (simp only [qmu, true_and, and_self, if_true]; repeat (first | rw [if_neg (by omega)] | rw [if_pos (by omega)]))
                exact a3 t ht j hj
            · (simp only [qmu, true_and, and_self, if_true]; repeat (first | rw [if_neg (by omega)] | rw [if_pos (by omega)]))
              exact a3 t ht j hj
          · intro t ht
            (simp only [qmu, true_and, and_self, if_true]; repeat (first | rw [if_neg (by omega)] | rw [if_pos (by omega)]))
            exact a4 t ht
          · intro t ht
            (simp only [qmu, true_and, and_self, if_true]; repeat (first | rw [if_neg (by omega)] | rw [if_pos (by omega)]))
            exact a5 t ht
        have f1 : ¬ 105 = 5 + s := by omega
        have f2 : ¬ 106 = 5 + s := by omega
        have f3 : ¬ 104 = 5 + s := by omega
        have key2 : ∀ w : Int32, p_Sheets_lowestBits f σ (σ 2 s) z = some w → PairW (p_C_set f σ (nI s) (nI i) z) (fun t => p_M_set f t (nI s) (nI i) z) := by
          intro w hw
          refine ⟨w, qmu (qmu σ (5 + s) i w) 0 16 0, _, ?_, ?_, key w⟩
          · simp [p_C_set, noSheetL, c1, missL (show s < 8 by omega), c2, hh, p_Sheets_put, hq, hi, hw, hq2, hi3, p_C_foundNothing, mu_s]
          · unfold p_Sheets_lowestBits at hw
            rcases a4 s (by omega) with e | e | e | e
            · exact absurd e c2
            · simp [e] at hw
              simp [p_M_set, isSheetL, c1, hq, hi, mu_c, ← a1, ← a2, hl.2, c2, inL, em, nI_m1 (show m ≤ 1000 by omega), c3, idx60, hq4, hi4, e, f1, f2, f3, hw, upd]
            · simp [e] at hw
              simp [p_M_set, isSheetL, c1, hq, hi, mu_c, ← a1, ← a2, hl.2, c2, inL, em, nI_m1 (show m ≤ 1000 by omega), c3, idx60, hq4, hi4, e, f1, f2, f3, hw, upd]
            · simp [e] at hw
              simp [p_M_set, isSheetL, c1, hq, hi, mu_c, ← a1, ← a2, hl.2, c2, inL, em, nI_m1 (show m ≤ 1000 by omega), c3, idx60, hq4, hi4, e, f1, f2, f3, hw, upd]
        unfold p_Sheets_lowestBits at key2
        by_cases g1 : σ 2 s = 0
        · exact key2 _ (by rw [if_pos g1])
        · by_cases g2 : σ 2 s = 1
          · exact key2 _ (by rw [if_neg g1, if_pos g2])
          · exact key2 _ (by rw [if_neg g1, if_neg g2])
      · have hh : p_Sheets_holds f σ (nI s) y 1 = some 0 := by
          rw [holdsL (by omega) em hm, if_neg]
          have : (1 : Int32).toInt = 1 := rfl
          unfold rg at c3
          omega
        refine ⟨-1000012, qmu σ 0 16 2, qmu (qmu (qmu (qmu σ 0 16 2) 104 0 0) 104 1 0) 104 1 2, ?_, ?_, ?_⟩
        · simp [p_C_set, noSheetL, c1, missL (show s < 8 by omega), c2, hh, p_C_found]
        · simp [p_M_set, isSheetL, c1, hq, hi, mu_c, ← a1, ← a2, hl.2, c2, inL, em, nI_m1 (show m ≤ 1000 by omega), c3, p_M_finding]
        · exact fi_ok h (by repeat (first | exact agr_rf | refine agr_mu ?_ (by unfold P_fi; omega))) (by simp [mu_c, upd])
  · refine badW (r := -1000001) h ?_ ?_
    · simp [p_C_set, noSheetL, c1]
    · simp [p_M_set, isSheetL, c1]
