/-! asked -/
theorem agq_s {σ τ : qMem} (h : agr Pq σ τ) : agr Pq τ σ := fun k j hn => (h k j hn).symm
def trC (σ : qMem) (l : List Int32) : qMem := fun a b => if a = 103 ∧ b < l.length then l.getD b 0 else if a = 0 ∧ b = 14 then nI l.length else σ a b
def trM (σ : qMem) (l : List Int32) : qMem := fun a b => if a = 146 ∧ b < l.length then l.getD b 0 else if a = 104 ∧ b = 64 then nI l.length else σ a b
theorem trC_0 {σ : qMem} : qmu σ 0 14 0 = trC σ [] := by
  funext a b
  unfold qmu trC
  rw [if_neg (show ¬ (a = 103 ∧ b < ([] : List Int32).length) from fun w => absurd w.2 (Nat.not_lt_zero _))]
  rfl
theorem trM_0 {σ : qMem} : qmu σ 104 64 0 = trM σ [] := by
  funext a b
  unfold qmu trM
  rw [if_neg (show ¬ (a = 146 ∧ b < ([] : List Int32).length) from fun w => absurd w.2 (Nat.not_lt_zero _))]
  rfl
theorem getD_ap {l : List Int32} {v : Int32} {b : Nat} : (l ++ [v]).getD b 0 = if b < l.length then l.getD b 0 else if b = l.length then v else 0 := by
  by_cases c : b < l.length
  · rw [if_pos c, List.getD_eq_getElem?_getD, List.getD_eq_getElem?_getD, List.getElem?_append_left c]
  · rw [if_neg c]
    rw [List.getD_eq_getElem?_getD, List.getElem?_append_right (by omega)]
    by_cases c2 : b = l.length
    · rw [if_pos c2, c2, Nat.sub_self]; rfl
    · rw [if_neg c2]
      obtain ⟨k, hk⟩ : ∃ k, b - l.length = k + 1 := ⟨b - l.length - 1, by omega⟩
      rw [hk]; rfl
theorem leave_c {f : Nat} {σ : qMem} {l : List Int32} {v : Int32} (h : l.length < 16) : p_C_leaveInTrace f (trC σ l) v = some (trC σ (l ++ [v])) := by
  have e14 : trC σ l 0 14 = nI l.length := by unfold trC; rw [if_neg (by omega), if_pos ⟨rfl, rfl⟩]
  unfold p_C_leaveInTrace
  rw [mu_k (by decide), e14, if_neg (show ¬ (16 : Int32) ≤ nI l.length from nI_ge (a := l.length) (b := 16) h (by omega)), if_pos (qin_nI h (by omega)), qi_nI (by omega), nI_1]
  congr 1
  funext a b
  unfold qmu
  by_cases c1 : a = 0 ∧ b = 14
  · rw [if_pos c1]
    unfold trC
    rw [if_neg (by omega), if_pos c1, List.length_append]
    rfl
  · rw [if_neg c1]
    unfold trC
    rw [if_neg c1, if_neg c1, getD_ap, List.length_append]
    by_cases c2 : a = 103 ∧ b = l.length
    · rw [if_pos c2, if_pos ⟨c2.1, by rw [c2.2]; exact Nat.lt_succ_self _⟩, if_neg (by omega), if_pos c2.2]
    · rw [if_neg c2]
      by_cases c3 : a = 103 ∧ b < l.length
      · rw [if_pos c3, if_pos ⟨c3.1, by have := c3.2; show b < l.length + 1; omega⟩, if_pos c3.2]
      · rw [if_neg c3, if_neg (fun w => by have h2 : b < l.length + 1 := w.2; have := w.1; omega)]
theorem began_m {f : Nat} {σ : qMem} {l : List Int32} {v : Int32} (h : l.length < 16) : p_M_began f (trM σ l) v = some (trM σ (l ++ [v])) := by
  have e14 : trM σ l 104 64 = nI l.length := by unfold trM; rw [if_neg (by omega), if_pos ⟨rfl, rfl⟩]
  unfold p_M_began
  rw [mu_k (by decide), e14, if_neg (show ¬ (16 : Int32) ≤ nI l.length from nI_ge (a := l.length) (b := 16) h (by omega)), if_pos (qin_nI h (by omega)), qi_nI (by omega), nI_1]
  congr 1
  funext a b
  unfold qmu
  by_cases c1 : a = 104 ∧ b = 64
  · rw [if_pos c1]
    unfold trM
    rw [if_neg (by omega), if_pos c1, List.length_append]
    rfl
  · rw [if_neg c1]
    unfold trM
    rw [if_neg c1, if_neg c1, getD_ap, List.length_append]
    by_cases c2 : a = 146 ∧ b = l.length
    · rw [if_pos c2, if_pos ⟨c2.1, by rw [c2.2]; exact Nat.lt_succ_self _⟩, if_neg (by omega), if_pos c2.2]
    · rw [if_neg c2]
      by_cases c3 : a = 146 ∧ b < l.length
      · rw [if_pos c3, if_pos ⟨c3.1, by have := c3.2; show b < l.length + 1; omega⟩, if_pos c3.2]
      · rw [if_neg c3, if_neg (fun w => by have h2 : b < l.length + 1 := w.2; have := w.1; omega)]
theorem trC_q {σ ρ : qMem} (h : agr Pq σ ρ) (l : List Int32) : agr Pq σ (trC ρ l) := by
  intro a b hn
  have h2 := h a b hn
  unfold Pq at hn
  unfold trC
  rw [if_neg (by omega), if_neg (by omega)]
  exact h2
theorem trM_q {σ ρ : qMem} (h : agr Pq σ ρ) (l : List Int32) : agr Pq σ (trM ρ l) := by
  intro a b hn
  have h2 := h a b hn
  unfold Pq at hn
  unfold trM
  rw [if_neg (by omega), if_neg (by omega)]
  exact h2
theorem tr_inv {σ : qMem} (h : Inv σ) {l : List Int32} (hl : l.length ≤ 16) : Inv (trM (qmu (trC σ l) 104 0 0) l) := by
  obtain ⟨a1, -⟩ := h.tr
  refine h.u_tr (fun a b hn => ?_) ⟨?_, l.length, hl, ?_, ?_⟩
  · unfold P_tr at hn
    unfold trM qmu trC
    rw [if_neg (by omega), if_neg (by omega), if_neg (by omega), if_neg (by omega), if_neg (by omega)]
  · funext b
    unfold trM qmu trC
    by_cases c : b < l.length
    · rw [if_neg (by omega), if_neg (by omega), if_neg (by omega), if_pos ⟨rfl, c⟩, if_pos ⟨rfl, c⟩]
    · rw [if_neg (by omega), if_neg (by omega), if_neg (by omega), if_neg (fun w => c w.2), if_neg (by omega), if_neg (fun w => c w.2), if_neg (by omega), if_neg (by omega), if_neg (by omega), if_neg (by omega), a1]
  · unfold trM qmu trC
    rw [if_neg (by omega), if_neg (by omega), if_neg (by omega), if_neg (by omega), if_pos ⟨rfl, rfl⟩]
  · unfold trM
    rw [if_neg (by omega), if_pos ⟨rfl, rfl⟩]
/-- all that an ask reads, told of the state before it -/
theorem ask_rd {f : Nat} {σ : qMem} (h : Inv σ) {np nA nJ p : Nat} (hc : cnts σ np nA nJ) (hp : p < np) (hf : 30000 < f) : ∃ O : Int32, (∀ ρ, agr Pq σ ρ → p_C_owedTill f ρ (nI p) (ρ 0 15) = some O) ∧ (∀ τ, agr Pq σ τ → ∃ r, p_M_owedTill f τ (nI p) (τ 104 62) = some (O, r) ∧ ∀ k, k ≠ 115 → r k = τ k) ∧ (∀ ρ, agr Pq σ ρ → p_Joins_otherOf f ρ (nI p) (ρ 0 15) = some (otF σ (nI p) (σ 0 15) nJ 0)) ∧ (∀ τ, agr Pq σ τ → p_M_otherOf f τ (nI p) (τ 104 62) = some (otF σ (nI p) (σ 0 15) nJ 0)) ∧ (∀ ρ, agr Pq σ ρ → ∀ j, j < 11 → p_Promises_of f ρ (nI p) (nI j) = some (σ (15 + p) j)) ∧ ∀ τ, agr Pq σ τ → ∀ j, j < 11 → p_M_of f τ (nI p) (nI j) = some (σ (15 + p) j) := by
  obtain ⟨d, hd, d1, d2⟩ := h.dy
  have hp12 : p < 12 := by have := hc.1; omega
  have k15 : ∀ ρ, agr Pq σ ρ → ρ 0 15 = nI d := fun ρ ha => by rw [ha 0 15 (by unfold Pq scrP; omega)]; exact d1
  have k62 : ∀ ρ, agr Pq σ ρ → ρ 104 62 = nI d := fun ρ ha => by rw [ha 104 62 (by unfold Pq scrP; omega)]; exact d2
  obtain ⟨-, -, O, r0, -, -, -, -, q5, q6, -⟩ := owed_q (f := f) h.q0 h.q0 agr_rf hc hp hd hf
  refine ⟨O, fun ρ ha => ?_, fun τ ha => ?_, fun ρ ha => ?_, fun τ ha => ?_, fun ρ ha j hj => ?_, fun τ ha j hj => ?_⟩
  · obtain ⟨-, -, O', r, -, -, -, -, w5, w6, -⟩ := owed_q (f := f) (h.q ha) h.q0 (agq_s ha) (hc.q ha) hp hd hf
    rw [q6] at w6
    have : O = O' := congrArg Prod.fst (Option.some.inj w6)
    rw [k15 ρ ha, w5, this]
  · obtain ⟨-, -, O', r, -, -, -, -, w5, w6, hr⟩ := owed_q (f := f) h.q0 (h.q ha) ha hc hp hd hf
    rw [q5] at w5
    have : O = O' := Option.some.inj w5
    rw [k62 τ ha]
    exact ⟨r, by rw [w6, this], hr⟩
  · rw [other_c (hc.q ha).2.2.2.2.2 hc.2.2.2.2.1 (by omega), otF_q ha, k15 ρ ha, d1]
  · obtain ⟨hj, e1, e2, e3⟩ := (h.q ha).joc (hc.q ha)
    rw [k62 τ ha, other_m hj e1 e2 e3 (nI_rg (by omega) (by omega) (by omega)) (by omega), otF_q ha, d1]
  · rw [of_c hp12 hj, agr_c ha (15 + p) (by omega)]
  · rw [of_r ((h.q ha).pr.row (hc.q ha).2.1 hc.1 hp) hp12 hj, agr_c ha (15 + p) (by omega)]
theorem szS {f n : Nat} : p_C_sizeAs f (n + 1) = p_C_sizeAs_body f (p_C_sizeAs f n) (p_C_markAs f n) := rfl
theorem mkS {f n : Nat} : p_C_markAs f (n + 1) = p_C_markAs_body f (p_C_sizeAs f n) (p_C_markAs f n) := rfl
theorem ask_ok {f : Nat} {σ : qMem} (h : Inv σ) (hf : 30000 < f) (x y : Int32) : PairW (p_C_ask f σ x y) (fun s => p_M_ask f s x y) := by
  obtain ⟨np, nA, nJ, hc⟩ := h.q0.cn
  have e5 := h.np hc.1 hc.2.1
  by_cases c1 : rg x 0 ((np : Int) - 1)
  · by_cases c2 : rg y 0 1
    · obtain ⟨p, hp, rfl⟩ := rg_p c1 (by have := hc.1; omega)
      obtain ⟨O, oC, oM, tC, tM, rC, rM⟩ := ask_rd (f := f) h hc hp hf
      have hp12 : p < 12 := by have := hc.1; omega
      have qC : ∀ l, agr Pq σ (trC σ l) := fun l => trC_q agr_rf l
      have lC : ∀ (l : List Int32) v, l.length < 16 → p_C_leaveInTrace f (trC σ l) v = some (trC σ (l ++ [v])) := fun l v hl => leave_c hl
      have cO : ∀ l, p_C_owedTill f (trC σ l) (nI p) (trC σ l 0 15) = some O := fun l => oC _ (qC l)
      have cT : ∀ l, p_Joins_otherOf f (trC σ l) (nI p) (trC σ l 0 15) = some (otF σ (nI p) (σ 0 15) nJ 0) := fun l => tC _ (qC l)
      have cR1 : ∀ l, p_Promises_of f (trC σ l) (nI p) 1 = some (σ (15 + p) 1) := fun l => rC _ (qC l) 1 (by omega)
      have cR2 : ∀ l, p_Promises_of f (trC σ l) (nI p) 2 = some (σ (15 + p) 2) := fun l => rC _ (qC l) 2 (by omega)
      have cR4 : ∀ l, p_Promises_of f (trC σ l) (nI p) 4 = some (σ (15 + p) 4) := fun l => rC _ (qC l) 4 (by omega)
      have cR9 : ∀ l, p_Promises_of f (trC σ l) (nI p) 9 = some (σ (15 + p) 9) := fun l => rC _ (qC l) 9 (by omega)
      have hk := kind_c (f := f) (hc.q (qC [])) hp (by omega)
      rw [kdV_q (qC []) hp12] at hk
      have HC : p_C_ask f σ (nI p) y = if y = 0 then p_C_sizeAs f 8 (trC σ []) (kdV σ p nA nJ) (nI p) 0 else p_C_markAs f 8 (trC σ []) (kdV σ p nA nJ) (nI p) 0 := by
        unfold p_C_ask
        rw [hasL hc.2.1 hc.1, Option.bind_some, if_pos c1, if_neg bad_ne, outL, Option.bind_some, if_pos (show rg y (0 : Int32).toInt (1 : Int32).toInt from c2), if_pos rfl, trC_0, hk, Option.bind_some, bind_eta, bind_eta]
      have HM : ∀ s : qMem, agr Pq σ s → p_M_ask f s (nI p) y = if y = 0 then p_M_sizeOf f (trM (qmu s 104 0 0) []) (nI p) (kdV σ p nA nJ) else p_M_markOf f (trM (qmu s 104 0 0) []) (nI p) (kdV σ p nA nJ) := by
        intro s hs
        have hs0 : agr Pq σ (qmu s 104 0 0) := agr_mu hs (by unfold Pq scrP; omega)
        have hs1 := trM_q hs0 []
        have e5' : (qmu s 104 0 0) 104 5 = nI np := by rw [hs0 104 5 (by unfold Pq scrP; omega)]; exact e5
        have hkm := kind_m (f := f) (h.q hs1) (hc.q hs1) hp (by omega)
        rw [kdV_q hs1 hp12] at hkm
        unfold p_M_ask
        rw [isPL e5' hc.1, Option.bind_some, if_pos c1, if_neg bad_ne, inL, Option.bind_some, if_pos (show rg y (0 : Int64).toInt (1 : Int64).toInt from c2), if_neg bad_ne, trM_0, hkm, Option.bind_some, bind_eta, bind_eta]
      have fin : ∀ (v : Int32) (l : List Int32), l.length ≤ 16 → p_C_ask f σ (nI p) y = some (v, trC σ l) → (∃ r, (if y = 0 then p_M_sizeOf f (trM (qmu (trC σ l) 104 0 0) []) (nI p) (kdV σ p nA nJ) else p_M_markOf f (trM (qmu (trC σ l) 104 0 0) []) (nI p) (kdV σ p nA nJ)) = some (v, r) ∧ ∀ k, k ≠ 115 → r k = trM (qmu (trC σ l) 104 0 0) l k) → PairW (p_C_ask f σ (nI p) y) (fun s => p_M_ask f s (nI p) y) := by
        rintro v l hl e ⟨r, e2, hr⟩
        exact ⟨v, trC σ l, r, e, by show p_M_ask f _ _ _ = _; rw [HM _ (qC l), e2], (tr_inv h hl).scr (j115 hr)⟩
      have bM : ∀ (s : qMem) (l : List Int32) v, l.length < 16 → p_M_began f (trM s l) v = some (trM s (l ++ [v])) := fun s l v hl => began_m hl
      have qM : ∀ k l, agr Pq σ (trM (qmu (trC σ k) 104 0 0) l) := fun k l => trM_q (agr_mu (qC k) (by unfold Pq scrP; omega)) l
      have mT : ∀ k l, p_M_otherOf f (trM (qmu (trC σ k) 104 0 0) l) (nI p) (trM (qmu (trC σ k) 104 0 0) l 104 62) = some (otF σ (nI p) (σ 0 15) nJ 0) := fun k l => tM _ (qM k l)
      have mR1 : ∀ k l, p_M_of f (trM (qmu (trC σ k) 104 0 0) l) (nI p) 1 = some (σ (15 + p) 1) := fun k l => rM _ (qM k l) 1 (by omega)
      have mR2 : ∀ k l, p_M_of f (trM (qmu (trC σ k) 104 0 0) l) (nI p) 2 = some (σ (15 + p) 2) := fun k l => rM _ (qM k l) 2 (by omega)
      have mR4 : ∀ k l, p_M_of f (trM (qmu (trC σ k) 104 0 0) l) (nI p) 4 = some (σ (15 + p) 4) := fun k l => rM _ (qM k l) 4 (by omega)
      have mR9 : ∀ k l, p_M_of f (trM (qmu (trC σ k) 104 0 0) l) (nI p) 9 = some (σ (15 + p) 9) := fun k l => rM _ (qM k l) 9 (by omega)
      have kd : kdV σ p nA nJ = 4 ∨ kdV σ p nA nJ = 3 ∨ kdV σ p nA nJ = 2 ∨ kdV σ p nA nJ = 1 := by
        unfold kdV
        by_cases q1 : endP σ p nA (σ 0 15)
        · rw [if_pos q1]; exact Or.inl rfl
        · rw [if_neg q1]
          by_cases q2 : σ (15 + p) 0 = 1
          · rw [if_pos q2]; exact Or.inr (Or.inl rfl)
          · rw [if_neg q2]
            by_cases q3 : otF σ (nI p) (σ 0 15) nJ 0 = -1000000
            · rw [if_pos q3]; exact Or.inr (Or.inr (Or.inr rfl))
            · rw [if_neg q3]; exact Or.inr (Or.inr (Or.inl rfl))
      by_cases y0 : y = 0
      · rcases kd with k | k | k | k
        · refine fin (-(σ (15 + p) 1)) [14, 20] (by decide) ?_ ⟨trM (qmu (trC σ [14, 20]) 104 0 0) [14, 20], ?_, fun _ _ => rfl⟩
          · rw [HC, if_pos y0, k]
            simp [szS, mkS, p_C_sizeAs_body, p_C_markAs_body, lC, cR1]
          · rw [if_pos y0, k]
            simp [p_M_sizeOf, p_M_markOf, p_M_markOf_b11, p_M_markOf_b25, p_M_markOf_b36, p_M_markOf_b69, isOfL, bM, mR1]
        · refine fin (σ (15 + p) 4 + σ (15 + p) 9) [13, 10] (by decide) ?_ ⟨trM (qmu (trC σ [13, 10]) 104 0 0) [13, 10], ?_, fun _ _ => rfl⟩
          · rw [HC, if_pos y0, k]
            simp [szS, mkS, p_C_sizeAs_body, p_C_markAs_body, lC, cR4, cR9]
          · rw [if_pos y0, k]
            simp [p_M_sizeOf, p_M_obitSize, bM, mR4, mR9]
        · obtain ⟨r, er, hr⟩ := oM _ (qM [12, 11, 10] [12, 11, 10])
          refine fin (2 * (σ (15 + p) 4 + O)) [12, 11, 10] (by decide) ?_ ⟨r, ?_, hr⟩
          · rw [HC, if_pos y0, k]
            simp [szS, mkS, p_C_sizeAs_body, p_C_markAs_body, lC, cR4, cO]
          · rw [if_pos y0, k]
            simp [p_M_sizeOf, p_M_sizeOf_b41, bM, mR4, er]
        · obtain ⟨r, er, hr⟩ := oM _ (qM [11, 10] [11, 10])
          refine fin (σ (15 + p) 4 + O) [11, 10] (by decide) ?_ ⟨r, ?_, hr⟩
          · rw [HC, if_pos y0, k]
            simp [szS, mkS, p_C_sizeAs_body, p_C_markAs_body, lC, cR4, cO]
          · rw [if_pos y0, k]
            simp [p_M_sizeOf, p_M_sizeOf_b41, bM, mR4, er]
      · rcases kd with k | k | k | k
        · refine fin (σ (15 + p) 1) [20] (by decide) ?_ ⟨trM (qmu (trC σ [20]) 104 0 0) [20], ?_, fun _ _ => rfl⟩
          · rw [HC, if_neg y0, k]
            simp [szS, mkS, p_C_sizeAs_body, p_C_markAs_body, lC, cR1]
          · rw [if_neg y0, k]
            simp [p_M_markOf, p_M_markOf_b11, p_M_markOf_b25, p_M_markOf_b36, p_M_markOf_b69, isOfL, bM, mR1]
        · refine fin (σ (15 + p) 1 + (σ (15 + p) 4 + σ (15 + p) 9)) [23, 20, 13, 10] (by decide) ?_ ⟨trM (qmu (trC σ [23, 20, 13, 10]) 104 0 0) [23, 20, 13, 10], ?_, fun _ _ => rfl⟩
          · rw [HC, if_neg y0, k]
            simp [szS, mkS, p_C_sizeAs_body, p_C_markAs_body, lC, cR1, cR4, cR9]
          · rw [if_neg y0, k]
            simp [p_M_markOf, p_M_markOf_b11, p_M_markOf_b25, p_M_markOf_b36, p_M_markOf_b69, p_M_obitSize, isOfL, bM, mR1, mR4, mR9]
        · refine fin ((σ (15 + p) 1 + 100 * σ (15 + p) 2) + otF σ (nI p) (σ 0 15) nJ 0) [22, 21, 20] (by decide) ?_ ⟨trM (qmu (trC σ [22, 21, 20]) 104 0 0) [22, 21, 20], ?_, fun _ _ => rfl⟩
          · rw [HC, if_neg y0, k]
            simp [szS, mkS, p_C_sizeAs_body, p_C_markAs_body, lC, cR1, cR2, cT]
          · rw [if_neg y0, k]
            simp [p_M_markOf, p_M_markOf_b11, p_M_markOf_b25, p_M_markOf_b36, p_M_markOf_b69, isOfL, bM, mR1, mR2, mT]
        · refine fin (σ (15 + p) 1 + 100 * σ (15 + p) 2) [21, 20] (by decide) ?_ ⟨trM (qmu (trC σ [21, 20]) 104 0 0) [21, 20], ?_, fun _ _ => rfl⟩
          · rw [HC, if_neg y0, k]
            simp [szS, mkS, p_C_sizeAs_body, p_C_markAs_body, lC, cR1, cR2]
          · rw [if_neg y0, k]
            simp [p_M_markOf, p_M_markOf_b11, p_M_markOf_b25, p_M_markOf_b36, p_M_markOf_b69, isOfL, bM, mR1, mR2]
    · refine badW (r := -1000001) h ?_ ?_
      · simp [p_C_ask, hasL hc.2.1 hc.1, c1, outL, c2]
      · simp [p_M_ask, isPL (thr_pr e5) hc.1, c1, inL, c2]
  · refine badW (r := -1000001) h ?_ ?_
    · simp [p_C_ask, hasL hc.2.1 hc.1, c1]
    · simp [p_M_ask, isPL (thr_pr e5) hc.1, c1]
