theorem ite_t {α : Type} {c : Prop} [Decidable c] {a b r : α} (h1 : c → a = r) (h2 : ¬ c → b = r) : (if c then a else b) = r := by
  by_cases h : c
  · rw [if_pos h]; exact h1 h
  · rw [if_neg h]; exact h2 h
theorem agr_fl {P : Nat → Nat → Prop} {σ σ' : qMem} {k n : Nat} {v : Int32} (h : agr P σ σ') (hp : ∀ b, P k b) : agr P σ (qfl σ' k n v) := by
  intro a b hn
  unfold qfl
  rw [if_neg]
  · exact h a b hn
  · rintro ⟨rfl, -⟩
    exact hn (hp b)
theorem sheet_m {f : Nat} {σ : qMem} {s : Nat} {r : Int32} (hs : s < 8) (hf : 100 < f) : qfix2 (p_M_sheet_l65 f (nI s) r) f σ (0 : Int32) = some (r, fun a b => if a = 107 ∧ 60 * s ≤ b ∧ b < 60 * s + 60 then 0 else σ a b) := by
  have h := run2 (F := p_M_sheet_l65 f (nI s) r) (n := 60) (f := f) (fun i a b => if a = 107 ∧ 60 * s ≤ b ∧ b < 60 * s + i then 0 else σ a b) (r := (r, fun a b => if a = 107 ∧ 60 * s ≤ b ∧ b < 60 * s + 60 then 0 else σ a b)) (by omega) ?_ ?_
  · refine Eq.trans ?_ h
    congr 1
    funext a b
    rw [if_neg (by omega)]
  · intro k
    unfold p_M_sheet_l65
    rw [if_pos (by exact nI_le (a := 60) (b := 60) (by omega) (by omega))]
  · intro k i hi
    unfold p_M_sheet_l65
    rw [if_neg (by exact nI_ge (a := i) (b := 60) (by omega) (by omega)), idx60, if_pos (qin_nI (by omega) (by omega)), nI_1, qi_nI (by omega)]
    congr 1
    funext a b
    simp only [qmu]
    refine ite_t (fun c => ?_) (fun c => ?_)
    · rw [if_pos (by omega)]
    · refine ite_t (fun c2 => ?_) (fun c2 => ?_)
      · rw [if_pos (by omega)]
      · rw [if_neg (by omega)]
theorem sheet_ok {f : Nat} {σ : qMem} (h : Inv σ) (hf : 100 < f) (x y z : Int32) : PairW (p_C_sheet f σ x y z) (fun s => p_M_sheet f s x y z) := by
  by_cases c1 : rg x 0 7
  · by_cases c2 : rg y 0 2
    · obtain ⟨s, hs, rfl⟩ := rg_nat (b := 7) c1
      obtain ⟨a1, a2, a3, a4, a5⟩ := h.sh
      have hq := qin_nI (k := s) (n := 8) (by omega) (by omega)
      have hi : (nI s).toNatClampNeg = s := qi_nI (by omega)
      by_cases c3 : z ≤ 60
      · by_cases c4 : 0 ≤ z
        · refine ⟨z, qmu (qfl (qmu (qmu σ 2 s y) 3 s z) (5 + s) 60 0) 0 16 0, fun a b => if a = 107 ∧ 60 * s ≤ b ∧ b < 60 * s + 60 then 0 else (qmu (qmu (qmu (qmu (qmu (qfl (qmu (qmu σ 2 s y) 3 s z) (5 + s) 60 0) 0 16 0) 104 0 0) 104 1 0) 105 s y) 106 s z) a b, ?_, ?_, ?_⟩
          · simp [p_C_sheet, noSheetL, c1, outL, c2, c3, c4, p_Sheets_make, hq, hi, fill_ok (show 60 < 2 ^ 31 by omega) (show 60 < f by omega), p_C_foundNothing]
          · simp [p_M_sheet, isSheetL, c1, inL, c2, c3, c4, hq, hi, sheet_m (show s < 8 by omega) hf]
          · refine h.u_sh_fi ?_ ⟨?_, ?_, ?_, ?_, ?_⟩ ?_
            · intro a b hn
              unfold P_sh_fi at hn
              simp only [qmu, qfl, true_and, and_self, if_true]
              repeat (first | rw [if_neg (by omega)] | rw [if_pos (by omega)])
            · funext b
              simp only [qmu, qfl, true_and, and_self, if_true]
              by_cases e : b = s
              · repeat (first | rw [if_neg (by omega)] | rw [if_pos (by omega)])
              · repeat (first | rw [if_neg (by omega)] | rw [if_pos (by omega)])
                rw [a1]
            · funext b
              simp only [qmu, qfl, true_and, and_self, if_true]
              by_cases e : b = s
              · repeat (first | rw [if_neg (by omega)] | rw [if_pos (by omega)])
              · repeat (first | rw [if_neg (by omega)] | rw [if_pos (by omega)])
                rw [a2]
            · intro t ht j hj
              simp only [qmu, qfl, true_and, and_self, if_true]
              by_cases e : t = s
              · repeat (first | rw [if_neg (by omega)] | rw [if_pos (by omega)])
              · repeat (first | rw [if_neg (by omega)] | rw [if_pos (by omega)])
                exact a3 t ht j hj
            · intro t ht
              simp only [qmu, qfl, true_and, and_self, if_true]
              by_cases e : t = s
              · repeat (first | rw [if_neg (by omega)] | rw [if_pos (by omega)])
                obtain ⟨l, hl, rfl⟩ := rg_nat (b := 2) c2
                rcases (by omega : l = 0 ∨ l = 1 ∨ l = 2) with rfl | rfl | rfl
                · exact Or.inr (Or.inl rfl)
                · exact Or.inr (Or.inr (Or.inl rfl))
                · exact Or.inr (Or.inr (Or.inr rfl))
              · repeat (first | rw [if_neg (by omega)] | rw [if_pos (by omega)])
                exact a4 t ht
            · intro t ht
              simp only [qmu, qfl, true_and, and_self, if_true]
              by_cases e : t = s
              · repeat (first | rw [if_neg (by omega)] | rw [if_pos (by omega)])
                obtain ⟨l, hl, rfl⟩ := rg_nat (x := z) (b := 60) ⟨i32_le.mp c4, i32_le.mp c3⟩
                exact ⟨l, hl, rfl⟩
              · repeat (first | rw [if_neg (by omega)] | rw [if_pos (by omega)])
                exact a5 t ht
            · unfold g_fi
              simp only [qmu, qfl, true_and, and_self, if_true]
              repeat (first | rw [if_neg (by omega)] | rw [if_pos (by omega)])
        · refine ⟨-1000014, qmu σ 0 16 4, qmu (qmu (qmu (qmu σ 0 16 4) 104 0 0) 104 1 0) 104 1 4, ?_, ?_, ?_⟩
          · simp [p_C_sheet, noSheetL, c1, outL, c2, c3, c4, p_C_found]
          · simp [p_M_sheet, isSheetL, c1, inL, c2, c3, c4, p_M_finding]
          · exact fi_ok h (by repeat (first | exact agr_rf | refine agr_mu ?_ (by unfold P_fi; omega))) (by simp [mu_c, upd])
      · refine badW (r := -1000001) h ?_ ?_
        · simp [p_C_sheet, noSheetL, c1, outL, c2, c3]
        · simp [p_M_sheet, isSheetL, c1, inL, c2, c3]
    · refine badW (r := -1000001) h ?_ ?_
      · simp [p_C_sheet, noSheetL, c1, outL, c2]
      · simp [p_M_sheet, isSheetL, c1, inL, c2]
  · refine badW (r := -1000001) h ?_ ?_
    · simp [p_C_sheet, noSheetL, c1]
    · simp [p_M_sheet, isSheetL, c1]
theorem ix3 {s i k : Nat} : (((60 : Int32) * nI s) + nI i) + nI k = nI (60 * s + i + k) := by rw [idx60, nI_add]
def cpM (σ : qMem) (p q n : Nat) : qMem := fun a b => if a = 107 ∧ q ≤ b ∧ b < q + n then σ 107 (p + (b - q)) else σ a b
theorem copy_up {f : Nat} {σ : qMem} {a i b j n : Nat} (ha : a < 8) (hb : b < 8) (hi : i + n ≤ 60) (hj : j + n ≤ 60) (hji : j ≤ i) (hf : 100 < f) : qfix2 (p_M_copy_l143 f (nI a) (nI i) (nI b) (nI j) (nI n) (1 : Int32)) f σ (0 : Int32) = some (nI n, cpM σ (60 * a + i) (60 * b + j) n) := by
  have h := run2 (F := p_M_copy_l143 f (nI a) (nI i) (nI b) (nI j) (nI n) (1 : Int32)) (n := n) (f := f) (fun k => cpM σ (60 * a + i) (60 * b + j) k) (r := (nI n, cpM σ (60 * a + i) (60 * b + j) n)) (by omega) ?_ ?_
  · refine Eq.trans ?_ h
    congr 1
    funext A B
    unfold cpM
    rw [if_neg (by omega)]
  · intro k
    unfold p_M_copy_l143
    rw [if_pos (nI_le (Nat.le_refl _) (by omega))]
  · intro k t ht
    unfold p_M_copy_l143 p_M_copy_b167
    rw [if_neg (nI_ge ht (by omega)), if_neg (by decide), ix3, ix3, if_pos (qin_nI (by omega) (by omega)), if_pos (qin_nI (by omega) (by omega)), nI_1, qi_nI (by omega), qi_nI (by omega)]
    congr 1
    funext A B
    simp only [qmu, cpM, true_and]
    refine ite_t (fun c => ?_) (fun c => ?_)
    · have e : ¬ (60 * b + j ≤ 60 * a + i + t ∧ 60 * a + i + t < 60 * b + j + t) := by
        rcases Nat.lt_trichotomy a b with q | q | q <;> omega
      rw [if_neg e, if_pos (by omega)]
      congr 1
      omega
    · refine ite_t (fun c2 => ?_) (fun c2 => ?_)
      · rw [if_pos (by omega)]
      · rw [if_neg (by omega)]
theorem copy_dn {f : Nat} {σ : qMem} {a i b j n : Nat} (ha : a < 8) (hb : b < 8) (hi : i + n ≤ 60) (hj : j + n ≤ 60) (hji : i < j) (hf : 100 < f) : qfix2 (p_M_copy_l143 f (nI a) (nI i) (nI b) (nI j) (nI n) (0 : Int32)) f σ (0 : Int32) = some (nI n, cpM σ (60 * a + i) (60 * b + j) n) := by
  have h := run2 (F := p_M_copy_l143 f (nI a) (nI i) (nI b) (nI j) (nI n) (0 : Int32)) (n := n) (f := f) (fun k => cpM σ (60 * a + i + (n - k)) (60 * b + j + (n - k)) k) (r := (nI n, cpM σ (60 * a + i) (60 * b + j) n)) (by omega) ?_ ?_
  · refine Eq.trans ?_ h
    congr 1
    funext A B
    unfold cpM
    rw [if_neg (by omega)]
  · intro k
    unfold p_M_copy_l143
    rw [if_pos (nI_le (Nat.le_refl _) (by omega)), Nat.sub_self]
    rfl
  · intro k t ht
    unfold p_M_copy_l143 p_M_copy_b167
    have e1 : (nI n - 1) - nI t = nI (n - 1 - t) := by rw [show (1 : Int32) = nI 1 from rfl, pk_sub (by omega), pk_sub (by omega)]
    rw [if_neg (nI_ge ht (by omega)), if_pos rfl, e1, ix3, ix3, if_pos (qin_nI (by omega) (by omega)), if_pos (qin_nI (by omega) (by omega)), nI_1, qi_nI (by omega), qi_nI (by omega)]
    congr 1
    funext A B
    simp only [qmu, cpM, true_and]
    refine ite_t (fun c => ?_) (fun c => ?_)
    · have e : ¬ (60 * b + j + (n - t) ≤ 60 * a + i + (n - 1 - t) ∧ 60 * a + i + (n - 1 - t) < 60 * b + j + (n - t) + t) := by
        rcases Nat.lt_trichotomy a b with q | q | q <;> omega
      rw [if_neg e, if_pos (by omega)]
      congr 1
      omega
    · refine ite_t (fun c2 => ?_) (fun c2 => ?_)
      · rw [if_pos (by omega)]
        congr 1
        omega
      · rw [if_neg (by omega)]
