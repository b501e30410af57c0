/-! what is told anew, and judged anew -/
def jm (σ : qMem) (g : Nat → Int32) : qMem := fun a b => if a = 46 then g b else σ a b
theorem jm_ne {σ : qMem} {g : Nat → Int32} {a : Nat} (h : a ≠ 46) : jm σ g a = σ a := by
  funext b
  exact if_neg h
theorem jm_s {σ : qMem} {g : Nat → Int32} : jm σ g 46 = g := by
  funext b
  exact if_pos rfl
theorem agr_jm {P : Nat → Nat → Prop} {σ σ' : qMem} {g : Nat → Int32} (h : agr P σ σ') (hp : ∀ b, P 46 b) : agr P σ (jm σ' g) := by
  intro a b hn
  have : a ≠ 46 := fun e => hn (by rw [e]; exact hp b)
  rw [jm_ne this]
  exact h a b hn
theorem g_pr.rg {σ : qMem} (h : g_pr σ) {n p j : Nat} (hn : σ 13 1 = nI n) (hn2 : n ≤ 12) (hp : p < n) (hj : j < 11) : rg (σ (15 + p) j) (qLeast.getD j 0).toInt (qMost.getD j 0).toInt := by
  obtain ⟨m, h0, h1, h2, h3⟩ := h
  have e : m = n := (nI_eq (by omega) (by omega)).mp (h1.symm.trans hn)
  subst e
  exact (h3 p hp j hj).2
theorem Inv.lih {σ : qMem} (h : Inv σ) : ∃ (n np nA nS : Nat) (ord : Nat → Nat), liH σ n np nA nS ord ∧ σ 43 = σ 112 ∧ σ 44 = σ 113 ∧ σ 45 = σ 114 ∧ σ 104 21 = nI n ∧ judged σ (σ 46) ord n nA nS := by
  obtain ⟨h1, h2, h3, n, np, nA, nS, ord, k1, k2, k3, k4, k5, k6, k7, k8, k9, k10, k11, k12⟩ := h.li
  refine ⟨n, np, nA, nS, ord, ⟨k1, k2, k4, k5, k6, k7, k8, k9, k10, k11, fun p hp => ?_⟩, h1, h2, h3, k3, k12⟩
  obtain ⟨v, hv, e⟩ := rg_nat (b := 7) (h.pr.rg (j := 3) k5 k4 hp (by omega))
  exact ⟨v, hv, e⟩
theorem liH_up {σ σ' : qMem} {n np nA nS nA' nS' : Nat} {ord : Nat → Nat} (h : liH σ n np nA nS ord) (ha : ∀ k j, ((43 ≤ k ∧ k ≤ 45) ∨ k = 47 ∨ (15 ≤ k ∧ k ≤ 26) ∨ (k = 42 ∧ j = 9) ∨ (k = 13 ∧ j = 1)) → σ' k j = σ k j) (hA : nA' ≤ 10) (eA : σ' 37 5 = nI nA') (hS : nS' ≤ 20) (eS : σ' 33 3 = nI nS') : liH σ' n np nA' nS' ord := by
  have c : ∀ k, ((43 ≤ k ∧ k ≤ 45) ∨ k = 47) → σ' k = σ k := fun k hk => funext fun j => ha k j (by omega)
  obtain ⟨h1, h2, h3, h4, h5, h6, h7, h8, h9, h10, h11⟩ := h
  refine ⟨h1, by rw [ha _ _ (by omega)]; exact h2, h3, by rw [ha _ _ (by omega)]; exact h4, hA, eA, hS, eS, ?_, ?_, ?_⟩
  · unfold lnOk
    rw [c 43 (by omega), c 44 (by omega), c 45 (by omega)]
    exact h9
  · unfold ordOk lkey
    rw [c 47 (by omega), c 44 (by omega), c 45 (by omega)]
    exact h10
  · intro p hp
    rw [ha _ _ (by omega)]
    exact h11 p hp
theorem judged_cg {σ σ' : qMem} {n np nA nS : Nat} {ord : Nat → Nat} {g : Nat → Int32} (h : liH σ n np nA nS ord) (ha : ∀ k j, supS k j → σ' k j = σ k j) (hj : judged σ g ord n nA nS) : judged σ' g ord n nA nS := by
  intro i hi
  rw [stands_cg h.2.2.2.2.2.2.2.2.1 h.2.2.1 (fun i hi => (h.ol hi).1) ha hi]
  exact hj i hi
theorem li_mk {σ1 τ : qMem} {n np nA nS : Nat} {ord : Nat → Nat} {g : Nat → Int32} (hl : liH σ1 n np nA nS ord) (hj : judged σ1 g ord n nA nS) (ha : ∀ k j, (supS k j ∨ k = 47 ∨ (k = 42 ∧ j = 9) ∨ (k = 13 ∧ j = 1) ∨ (k = 37 ∧ j = 5) ∨ (k = 33 ∧ j = 3)) → τ k j = σ1 k j) (hg : τ 46 = g) (e1 : τ 43 = τ 112) (e2 : τ 44 = τ 113) (e3 : τ 45 = τ 114) (e4 : τ 104 21 = nI n) : g_li τ := by
  have h' : liH τ n np nA nS ord := liH_up hl (fun k j hk => ha k j (by unfold supS; omega)) hl.2.2.2.2.1 (by rw [ha _ _ (by unfold supS; omega)]; exact hl.2.2.2.2.2.1) hl.2.2.2.2.2.2.1 (by rw [ha _ _ (by unfold supS; omega)]; exact hl.2.2.2.2.2.2.2.1)
  have hj' := judged_cg hl (fun k j hk => ha k j (Or.inl hk)) hj
  obtain ⟨h1, h2, h3, h4, h5, h6, h7, h8, h9, h10, h11⟩ := h'
  exact ⟨e1, e2, e3, n, np, nA, nS, ord, h1, h2, e4, h3, h4, h5, h6, h7, h8, h9, h10, by rw [hg]; exact hj'⟩
theorem judge_j {f : Nat} {σ : qMem} {n np nA nS : Nat} {ord : Nat → Nat} (h : liH σ n np nA nS ord) (hf : 100 < f) : ∃ g : Nat → Int32, p_Lines_judge f σ = some (jm σ g) ∧ judged σ g ord n nA nS := judge_c h hf
theorem vow_ok {f : Nat} {σ : qMem} (h : Inv σ) (hf : 100 < f) (x y : Int32) : PairW (p_C_vow f σ x y) (fun s => p_M_vow f s x y) := by
  obtain ⟨hv, hv2⟩ := h.vo
  by_cases c1 : rg x 0 7
  · by_cases c2 : rg y 1 3
    · obtain ⟨k, hk, rfl⟩ := rg_nat (b := 7) c1
      have hq := qin_nI (k := k) (n := 8) (by omega) (by omega)
      have hi : (nI k).toNatClampNeg = k := qi_nI (by omega)
      obtain ⟨n, np, nA, nS, ord, hl, a1, a2, a3, a4, -⟩ := h.lih
      have hl1 : liH (qmu σ 32 k y) n np nA nS ord := liH_up hl (fun a b hs => mu_k (by omega)) hl.2.2.2.2.1 (by rw [mu_k (by omega)]; exact hl.2.2.2.2.2.1) hl.2.2.2.2.2.2.1 (by rw [mu_k (by omega)]; exact hl.2.2.2.2.2.2.2.1)
      obtain ⟨g, e, hj⟩ := judge_j hl1 hf
      refine ⟨σ 32 k, jm (qmu σ 32 k y) g, qmu (qmu (jm (qmu σ 32 k y) g) 104 0 0) 116 k y, ?_, ?_, ?_⟩
      · simp [p_C_vow, outL, c1, c2, hq, hi, e]
      · simp [p_M_vow, isPriestL, inL, c1, c2, hq, hi, mu_c, jm_ne, hv]
      · refine h.u_vo_li (by repeat (first | exact agr_rf | refine agr_mu ?_ (by unfold P_vo_li; omega) | refine agr_jm ?_ (fun b => by unfold P_vo_li; omega))) ⟨by simp [mu_c, jm_ne, hv], fun p hp => ?_⟩ ?_
        · by_cases cp : p = k
          · obtain ⟨v, hv3, rfl⟩ := rg_nat (b := 3) ⟨by have := c2.1; omega, c2.2⟩
            have := c2.1
            rw [nI_toInt (by omega)] at this
            exact ⟨v, by omega, hv3, by simp [mu_c, jm_ne, upd, cp]⟩
          · simp [mu_c, jm_ne, upd, cp, hv2 p hp]
        · refine li_mk hl1 hj (fun a b hs => ?_) (by simp [mu_c, jm_s]) (by simp [mu_c, jm_ne, a1]) (by simp [mu_c, jm_ne, a2]) (by simp [mu_c, jm_ne, a3]) (by simp [mu_c, jm_ne, upd, a4])
          unfold supS at hs
          rw [mu_k (by omega), mu_k (by omega), jm_ne (by omega)]
    · refine badW (r := -1000001) h ?_ ?_
      · simp [p_C_vow, outL, c1, c2]
      · simp [p_M_vow, isPriestL, inL, c1, c2]
  · refine badW (r := -1000001) h ?_ ?_
    · simp [p_C_vow, outL, c1]
    · simp [p_M_vow, isPriestL, inL, c1]
theorem sick_ok {f : Nat} {σ : qMem} (h : Inv σ) (hf : 100 < f) (x y z : Int32) : PairW (p_C_sick f σ x y z) (fun s => p_M_sick f s x y z) := by
  obtain ⟨b1, b2, b3, m, hm, d1, d2⟩ := h.si
  by_cases c1 : rg x 0 7
  · by_cases c2 : rg y 0 9999
    · by_cases c3 : rg z y.toInt 9999
      · by_cases c4 : m < 20
        · have hq := qin_nI (k := m) (n := 20) c4 (by omega)
          have hi : (nI m).toNatClampNeg = m := qi_nI (by omega)
          have hne : ¬ nI m = 20 := fun e => by have := (full20 hm).2.mp e; omega
          have hlt : nI m < 20 := (full20 hm).1.mpr c4
          obtain ⟨n, np, nA, nS, ord, hl, a1, a2, a3, a4, -⟩ := h.lih
          have hl1 : liH (qmu (qmu (qmu (qmu σ 34 m x) 35 m y) 36 m z) 33 3 (nI (m + 1))) n np nA (m + 1) ord := liH_up hl (fun a b hs => by rw [mu_k (by omega), mu_k (by omega), mu_k (by omega), mu_k (by omega)]) hl.2.2.2.2.1 (by rw [mu_k (by omega), mu_k (by omega), mu_k (by omega), mu_k (by omega)]; exact hl.2.2.2.2.2.1) (by omega) mu_s
          obtain ⟨g, e, hj⟩ := judge_j hl1 hf
          refine ⟨nI (m + 1), jm (qmu (qmu (qmu (qmu σ 34 m x) 35 m y) 36 m z) 33 3 (nI (m + 1))) g, qmu (qmu (qmu (qmu (qmu (jm (qmu (qmu (qmu (qmu σ 34 m x) 35 m y) 36 m z) 33 3 (nI (m + 1))) g) 104 0 0) 117 m x) 118 m y) 119 m z) 104 27 (nI (m + 1)), ?_, ?_, ?_⟩
          · simp [p_C_sick, outL, noSpanL, c1, c2, c3, p_Spans_full_33, p_Spans_add_33, d1, hlt, hq, hi, mu_c, nI_1, upd, e]
          · simp [p_M_sick, isPriestL, isDayL, inL, c1, c2, c3, d2, hne, hq, hi, mu_c, jm_ne, nI_1, upd]
          · refine h.u_si_li (by repeat (first | exact agr_rf | refine agr_mu ?_ (by unfold P_si_li; omega) | refine agr_jm ?_ (fun b => by unfold P_si_li; omega))) ⟨by simp [mu_c, jm_ne, b1], by simp [mu_c, jm_ne, b2], by simp [mu_c, jm_ne, b3], m + 1, by omega, by simp [mu_c, jm_ne, upd], by simp [mu_c, upd]⟩ ?_
            refine li_mk hl1 hj (fun a b hs => ?_) (by simp [mu_c, jm_s]) (by simp [mu_c, jm_ne, a1]) (by simp [mu_c, jm_ne, a2]) (by simp [mu_c, jm_ne, a3]) (by simp [mu_c, jm_ne, upd, a4])
            unfold supS at hs
            rw [mu_k (by omega), mu_k (by omega), mu_k (by omega), mu_k (by omega), mu_k (by omega), jm_ne (by omega)]
        · have hn20 : nI m = 20 := (full20 hm).2.mpr (by omega)
          refine badW (r := -1000003) h ?_ ?_
          · simp [p_C_sick, outL, noSpanL, c1, c2, c3, p_Spans_full_33, d1, hn20]
          · simp [p_M_sick, isPriestL, isDayL, inL, c1, c2, c3, mu_c, upd, d2, hn20]
      · refine badW (r := -1000001) h ?_ ?_
        · simp [p_C_sick, outL, noSpanL, c1, c2, c3]
        · simp [p_M_sick, isPriestL, isDayL, inL, c1, c2, c3]
    · refine badW (r := -1000001) h ?_ ?_
      · simp [p_C_sick, outL, noSpanL, c1, c2]
      · simp [p_M_sick, isPriestL, isDayL, inL, c1, c2]
  · refine badW (r := -1000001) h ?_ ?_
    · simp [p_C_sick, outL, c1]
    · simp [p_M_sick, isPriestL, c1]
theorem full10 {n : Nat} (hn : n ≤ 10) : (nI n < 10 ↔ n < 10) ∧ (nI n = 10 ↔ n = 10) := ⟨nI_ltI (a := n) (b := 10) (by omega) (by omega), nI_eq (a := n) (b := 10) (by omega) (by omega)⟩
theorem act_ok {f : Nat} {σ : qMem} (h : Inv σ) (hf : 100 < f) (x y z w : Int32) : PairW (p_C_act f σ x y z w) (fun s => p_M_act f s x y z w) := by
  obtain ⟨b1, b2, b3, b4, m, hm, d1, d2, d3⟩ := h.ac
  by_cases c1 : rg x 0 9999
  · by_cases c2 : rg y 0 99
    · by_cases c3 : rg z y.toInt 99
      · by_cases c5 : rg w 0 1
        · by_cases c4 : m < 10
          · have hq := qin_nI (k := m) (n := 10) c4 (by omega)
            have hi : (nI m).toNatClampNeg = m := qi_nI (by omega)
            have hne : ¬ nI m = 10 := fun e => by have := (full10 hm).2.mp e; omega
            have hlt : nI m < 10 := (full10 hm).1.mpr c4
            obtain ⟨n, np, nA, nS, ord, hl, a1, a2, a3, a4, -⟩ := h.lih
            have hl1 : liH (qmu (qmu (qmu (qmu (qmu σ 38 m x) 39 m y) 40 m z) 41 m w) 37 5 (nI (m + 1))) n np (m + 1) nS ord := liH_up hl (fun a b hs => by rw [mu_k (by omega), mu_k (by omega), mu_k (by omega), mu_k (by omega), mu_k (by omega)]) (by omega) mu_s hl.2.2.2.2.2.2.1 (by rw [mu_k (by omega), mu_k (by omega), mu_k (by omega), mu_k (by omega), mu_k (by omega)]; exact hl.2.2.2.2.2.2.2.1)
            obtain ⟨g, e, hj⟩ := judge_j hl1 hf
            refine ⟨nI (m + 1), jm (qmu (qmu (qmu (qmu (qmu σ 38 m x) 39 m y) 40 m z) 41 m w) 37 5 (nI (m + 1))) g, qmu (qmu (qmu (qmu (qmu (qmu (jm (qmu (qmu (qmu (qmu (qmu σ 38 m x) 39 m y) 40 m z) 41 m w) 37 5 (nI (m + 1))) g) 104 0 0) 136 m x) 137 m y) 138 m z) 139 m w) 104 50 (nI (m + 1)), ?_, ?_, ?_⟩
            · simp [p_C_act, outL, noDayL, c1, c2, c3, c5, p_Acts_full, p_Acts_add, d1, hlt, hq, hi, mu_c, nI_1, upd, e]
            · simp [p_M_act, isDayL, inL, c1, c2, c3, c5, d2, hne, hq, hi, mu_c, jm_ne, nI_1, upd]
            · refine h.u_ac_li (by repeat (first | exact agr_rf | refine agr_mu ?_ (by unfold P_ac_li; omega) | refine agr_jm ?_ (fun b => by unfold P_ac_li; omega))) ⟨by simp [mu_c, jm_ne, b1], by simp [mu_c, jm_ne, b2], by simp [mu_c, jm_ne, b3], by simp [mu_c, jm_ne, b4], m + 1, by omega, by simp [mu_c, jm_ne, upd], by simp [mu_c, upd], fun i hi2 => ?_⟩ ?_
              · by_cases ci : i = m
                · simp [mu_c, jm_ne, upd, ci, c1]
                · simp [mu_c, jm_ne, upd, ci, d3 i (by omega)]
              · refine li_mk hl1 hj (fun a b hs => ?_) (by simp [mu_c, jm_s]) (by simp [mu_c, jm_ne, a1]) (by simp [mu_c, jm_ne, a2]) (by simp [mu_c, jm_ne, a3]) (by simp [mu_c, jm_ne, upd, a4])
                unfold supS at hs
                rw [mu_k (by omega), mu_k (by omega), mu_k (by omega), mu_k (by omega), mu_k (by omega), mu_k (by omega), jm_ne (by omega)]
          · have hn10 : nI m = 10 := (full10 hm).2.mpr (by omega)
            refine badW (r := -1000003) h ?_ ?_
            · simp [p_C_act, outL, noDayL, c1, c2, c3, c5, p_Acts_full, d1, hn10]
            · simp [p_M_act, isDayL, inL, c1, c2, c3, c5, mu_c, upd, d2, hn10]
        · refine badW (r := -1000001) h ?_ ?_
          · simp [p_C_act, outL, noDayL, c1, c2, c3, c5]
          · simp [p_M_act, isDayL, inL, c1, c2, c3, c5]
      · refine badW (r := -1000001) h ?_ ?_
        · simp [p_C_act, outL, noDayL, c1, c2, c3]
        · simp [p_M_act, isDayL, inL, c1, c2, c3]
    · refine badW (r := -1000001) h ?_ ?_
      · simp [p_C_act, outL, noDayL, c1, c2]
      · simp [p_M_act, isDayL, inL, c1, c2]
  · refine badW (r := -1000001) h ?_ ?_
    · simp [p_C_act, noDayL, c1]
    · simp [p_M_act, isDayL, c1]
