/-! what was said, what is owed -/
def sdB (σ : qMem) (x d : Int32) (nJ l : Nat) : Bool := !decide (σ 46 l = 0) && (decide (σ 44 l ≤ d) && decide (σ 43 l = x ∨ otF σ x (σ 44 l) nJ 0 = σ 43 l))
def sdN (σ : qMem) (x d : Int32) (nJ n : Nat) : Nat := sm (fun l => bI (sdB σ x d nJ l)) n
theorem sdN_s {σ : qMem} {x d : Int32} {nJ n : Nat} : sdN σ x d nJ (n + 1) = sdN σ x d nJ n + bI (sdB σ x d nJ n) := rfl
theorem sdN_le {σ : qMem} {x d : Int32} {nJ : Nat} : ∀ {n : Nat}, sdN σ x d nJ n ≤ n
  | 0 => Nat.le_refl _
  | n + 1 => by
    rw [sdN_s]
    have := sdN_le (σ := σ) (x := x) (d := d) (nJ := nJ) (n := n)
    have : bI (sdB σ x d nJ n) ≤ 1 := by unfold bI; by_cases c : sdB σ x d nJ n = true <;> simp [c]
    omega
theorem sdN_q {σ τ : qMem} (ha : agr Pq σ τ) {x d : Int32} {nJ n : Nat} : sdN τ x d nJ n = sdN σ x d nJ n := by
  unfold sdN
  refine sm_cg (fun l hl => ?_)
  unfold sdB
  rw [otF_q ha, agr_c ha 46 (by omega), agr_c ha 44 (by omega), agr_c ha 43 (by omega)]
theorem said_c {f : Nat} {σ : qMem} {x d : Int32} {n nJ : Nat} (h1 : σ 42 9 = nI n) (h2 : n ≤ 60) (h3 : σ 48 4 = nI nJ) (h4 : nJ ≤ 10) (hf : 100 < f) : p_Lines_countTill f σ x d = some (nI (sdN σ x d nJ n)) := by
  unfold p_Lines_countTill
  refine run2 (n := n) (f := f) (fun i => nI (sdN σ x d nJ i)) (by omega) (fun k => ?_) (fun k i hi => ?_)
  · unfold p_Lines_countTill_l6
    rw [h1, if_pos (nI_le (Nat.le_refl _) (by omega))]
  · have hq := qin_nI (k := i) (n := 60) (by omega) (by omega)
    have hqi : qi (nI i) = i := qi_nI (by omega)
    unfold p_Lines_countTill_l6
    rw [h1, if_neg (nI_ge hi (by omega)), hqi, other_c h3 h4 hf, Option.bind_some, nI_1, nI_1, sdN_s]
    unfold sdB
    by_cases c1 : σ 46 i = 0 <;> by_cases c2 : d < σ 44 i <;> by_cases c3 : σ 43 i = x <;> by_cases c4 : otF σ x (σ 44 i) nJ 0 = σ 43 i <;> simp [hq, c1, c2, c3, c4, bI, ← Int32.not_lt] <;> simp_all
theorem said_m {f : Nat} {σ : qMem} {x d : Int32} {n np nA nS nJ np' : Nat} {ord : Nat → Nat} (hm : mdH σ n np nA nS ord) (hj : judged σ (σ 46) ord n nA nS) (hjo : joH σ nJ np') (e1 : σ 49 = σ 120) (e2 : σ 50 = σ 121) (e3 : σ 51 = σ 122) (hf : 100 < f) : ∃ r, p_M_saidTill f σ x d = some (nI (sdN σ x d nJ n), r) ∧ ∀ k, k ≠ 115 → r k = σ k := by
  have hn : n ≤ 60 := hm.1.1
  obtain ⟨r, e, hr, hg⟩ := judge_m (f := f) hm hj hf
  refine ⟨r, ?_, hr⟩
  unfold p_M_saidTill
  rw [e, Option.bind_some]
  have hjr : joH r nJ np' := hjo.cg (fun k j hk => by rw [hr k (by omega)])
  refine run2 (n := n) (f := f) (fun i => nI (sdN σ x d nJ i)) (by omega) (fun k => ?_) (fun k i hi => ?_)
  · unfold p_M_saidTill_l9
    rw [hr 104 (by decide), hm.2.2.2.2.1, if_pos (nI_le (Nat.le_refl _) (by omega))]
  · have hq := qin_nI (k := i) (n := 60) (by omega) (by omega)
    have hqi : qi (nI i) = i := qi_nI (by omega)
    obtain ⟨⟨D, hD, d1, -⟩, -⟩ := hm.1.day hi
    have hd : rg (r 113 i) 0 9999 := by
      rw [hr 113 (by decide), ← hm.2.2.1, d1]
      exact nI_rg (by omega) (by omega) (by omega)
    have ho := other_m (f := f) (σ := r) (x := x) hjr (by rw [hr 49 (by decide), hr 120 (by decide)]; exact e1) (by rw [hr 50 (by decide), hr 121 (by decide)]; exact e2) (by rw [hr 51 (by decide), hr 122 (by decide)]; exact e3) hd hf
    unfold p_M_saidTill_l9 p_M_saidTill_b56
    rw [hr 104 (by decide), hm.2.2.2.2.1, if_neg (nI_ge hi (by omega)), hqi, ho, Option.bind_some, nI_1, nI_1, sdN_s, hr 112 (by decide), hr 113 (by decide), ← hm.2.1, ← hm.2.2.1, hg i hi, otF_cg (σ := σ) (fun k hk => hr k (by omega)), Int32.add_zero]
    unfold sdB
    by_cases c1 : σ 46 i = 0 <;> by_cases c2 : d < σ 44 i <;> by_cases c3 : σ 43 i = x <;> by_cases c4 : otF σ x (σ 44 i) nJ 0 = σ 43 i <;> simp [hq, c1, c2, c3, c4, bI, ← Int32.not_lt] <;> simp_all
theorem max0 (v : Int32) : (if (0 : Int32) < v then v else 0) = if 0 ≤ v then v else 0 := by
  by_cases c : (0 : Int32) < v
  · rw [if_pos c, if_pos (i32_le.mpr (by have := i32_lt.mp c; omega))]
  · rw [if_neg c]
    by_cases c2 : 0 ≤ v
    · rw [if_pos c2]
      rw [i32_eq]
      have h1 := i32_le.mp c2
      have h2 := i32_le.mp (Int32.not_lt.mp c)
      omega
    · rw [if_neg c2]
theorem Inq.rw {σ : qMem} (h : Inq σ) {np p : Nat} (hn : np ≤ 12) (e : σ 13 1 = nI np) (hp : p < np) : ∃ F T E : Nat, F ≤ 9999 ∧ T ≤ 9999 ∧ 1 ≤ E ∧ E ≤ 360 ∧ σ (15 + p) 5 = nI F ∧ σ (15 + p) 6 = nI T ∧ σ (15 + p) 4 = nI E := by
  obtain ⟨F, hF, e1⟩ := rg_nat (b := 9999) (h.pr.rg (j := 5) e hn hp (by omega))
  obtain ⟨T, hT, e2⟩ := rg_nat (b := 9999) (h.pr.rg (j := 6) e hn hp (by omega))
  have h4 : rg (σ (15 + p) 4) 1 360 := h.pr.rg (j := 4) e hn hp (by omega)
  obtain ⟨E, hE, e3⟩ := rg_nat (b := 360) ⟨by have := h4.1; omega, h4.2⟩
  have h5 := h4.1
  rw [e3, nI_toInt (by omega)] at h5
  exact ⟨F, T, E, hF, hT, by omega, hE, e1, e2, e3⟩
theorem wN_q {σ τ : qMem} (ha : agr Pq σ τ) {m F T E lo hi : Nat} : wN τ m F T E lo hi = wN σ m F T E lo hi := by
  have e1 := agr_c ha 30 (by omega)
  have e2 := agr_c ha 31 (by omega)
  unfold wN gdB mvd occ
  rw [e1, e2]
theorem Inv.cn4 {σ : qMem} (h : Inq σ) {np nA nJ n np' nA' nS : Nat} {ord : Nat → Nat} (hc : cnts σ np nA nJ) (hm : mdH σ n np' nA' nS ord) : np' = np := (nI_eq (by have := hm.1.2.2.1; omega) (by have := hc.1; omega)).mp (hm.1.2.2.2.1.symm.trans hc.2.1)
/-- what is owed of a promise till a day, by the two -/
theorem want_c {f : Nat} {σ : qMem} (h : Inq σ) {n m : Nat} (hm : σ 29 2 = nI m) (hm2 : m ≤ 30) (hfe : feOk n m (σ 30) (σ 31) (σ 110) (σ 111)) {p d F T E : Nat} (hp : p < 12) (hF : F ≤ 9999) (hT : T ≤ 9999) (hE1 : 1 ≤ E) (hE2 : E ≤ 360) (r1 : σ (15 + p) 5 = nI F) (r2 : σ (15 + p) 6 = nI T) (r3 : σ (15 + p) 4 = nI E) (hd : d ≤ 9999) (hf : 100 < f) : p_C_wantedTill f σ (nI p) (nI d) = some (nI (wN σ m F T E 0 d)) := by
  have o5 : p_Promises_of f σ (nI p) 5 = some (nI F) := by rw [← r1]; exact of_c (j := 5) hp (by omega)
  have o6 : p_Promises_of f σ (nI p) 6 = some (nI T) := by rw [← r2]; exact of_c (j := 6) hp (by omega)
  have o4 : p_Promises_of f σ (nI p) 4 = some (nI E) := by rw [← r3]; exact of_c (j := 4) hp (by omega)
  unfold p_C_wantedTill
  rw [o5, Option.bind_some, o6, Option.bind_some, o4, Option.bind_some, wanted_c hm hm2 hfe hF hT hE1 hE2 hd hf, Option.bind_some]
theorem owed_q {f : Nat} {σ τ : qMem} (h : Inq σ) (hq : Inq τ) (ha : agr Pq σ τ) {np nA nJ p d : Nat} (hc : cnts σ np nA nJ) (hp : p < np) (hd : d ≤ 9999) (hf : 30000 < f) : ∃ (w s : Nat) (o : Int32) (r : qMem), p_C_wantedTill f σ (nI p) (nI d) = some (nI w) ∧ p_M_wantsIn f τ (nI p) 0 (nI d) = some (nI w) ∧ p_Lines_countTill f σ (nI p) (nI d) = some (nI s) ∧ p_M_saidTill f τ (nI p) (nI d) = some (nI s, r) ∧ p_C_owedTill f σ (nI p) (nI d) = some o ∧ p_M_owedTill f τ (nI p) (nI d) = some (o, r) ∧ ∀ k, k ≠ 115 → r k = τ k := by
  have hct := hc.q ha
  obtain ⟨n, m, hn, hm, e18, e29, hfe⟩ := hq.feh
  obtain ⟨F, T, E, hF, hT, hE1, hE2, r1, r2, r3⟩ := hq.rw hc.1 hct.2.1 hp
  obtain ⟨nL, np', nA', nS, ord, hmd, hj⟩ := hq.mdh
  obtain ⟨hjo, e1, e2, e3⟩ := hq.joc hct
  have hp12 : p < 12 := by have := hc.1; omega
  have c30 := agr_c ha 30 (by omega)
  have c31 := agr_c ha 31 (by omega)
  have crow := agr_c ha (15 + p) (by omega)
  have c29 := agr_c ha 29 (by omega)
  have c110 := agr_m ha 110 (by omega)
  have c111 := agr_m ha 111 (by omega)
  have w2 := wants_m (f := f) (lo := 0) (hi := d) e18 hn hfe (hq.pr.row hct.2.1 hc.1 hp) hp12 r1 r2 r3 hF hT hE1 hE2 (by omega) (by omega) hf
  obtain ⟨r, s2, hr⟩ := said_m (f := f) (x := nI p) (d := nI d) hmd hj hjo e1 e2 e3 (by omega)
  rw [wN_q ha] at w2
  rw [sdN_q ha] at s2
  rw [c30, c31, c110, c111] at hfe
  rw [crow] at r1 r2 r3
  rw [c29] at e29
  have w1 := want_c (f := f) (σ := σ) h e29 hm hfe hp12 hF hT hE1 hE2 r1 r2 r3 hd (by omega)
  have s1 := said_c (f := f) (σ := σ) (x := nI p) (d := nI d) (n := nL) (nJ := nJ) (by rw [← agr_c ha 42 (by omega)]; exact hmd.1.2.1) hmd.1.1 hc.2.2.2.2.2 hc.2.2.2.2.1 (by omega)
  refine ⟨wN σ m F T E 0 d, sdN σ (nI p) (nI d) nJ nL, if 0 ≤ nI (wN σ m F T E 0 d) - nI (sdN σ (nI p) (nI d) nJ nL) then nI (wN σ m F T E 0 d) - nI (sdN σ (nI p) (nI d) nJ nL) else 0, r, w1, w2, s1, s2, ?_, ?_, hr⟩
  · unfold p_C_owedTill
    rw [w1, Option.bind_some, s1, Option.bind_some, max0]
  · have w2' : p_M_wantsIn f τ (nI p) (0 : Int32) (nI d) = some (nI (wN σ m F T E 0 d)) := w2
    unfold p_M_owedTill
    rw [w2', Option.bind_some, s2, Option.bind_some]
    by_cases c : 0 ≤ nI (wN σ m F T E 0 d) - nI (sdN σ (nI p) (nI d) nJ nL)
    · rw [if_pos c, if_pos c]
    · rw [if_neg c, if_neg c]
theorem owed_cm {f : Nat} {σ τ : qMem} (h : Inv σ) (ha : agr Pq σ τ) {np nA nJ p d : Nat} (hc : cnts σ np nA nJ) (hp : p < np) (hd : d ≤ 9999) (hf : 30000 < f) : ∃ (w s : Nat) (o : Int32) (r : qMem), p_C_wantedTill f σ (nI p) (nI d) = some (nI w) ∧ p_M_wantsIn f τ (nI p) 0 (nI d) = some (nI w) ∧ p_Lines_countTill f σ (nI p) (nI d) = some (nI s) ∧ p_M_saidTill f τ (nI p) (nI d) = some (nI s, r) ∧ p_C_owedTill f σ (nI p) (nI d) = some o ∧ p_M_owedTill f τ (nI p) (nI d) = some (o, r) ∧ ∀ k, k ≠ 115 → r k = τ k := owed_q h.q0 (h.q ha) ha hc hp hd hf
theorem count_ok {f : Nat} {σ : qMem} (h : Inv σ) (hf : 30000 < f) (x y z : Int32) : PairR (p_C_count f σ x y z) (p_M_count f σ x y z) := by
  obtain ⟨np, nA, nJ, hc⟩ := h.q0.cn
  have e5 := h.np hc.1 hc.2.1
  by_cases c1 : rg x 0 ((np : Int) - 1)
  · by_cases c2 : rg y 0 9999
    · by_cases c3 : rg z 0 2
      · obtain ⟨p, hp, rfl⟩ := rg_p c1 (by have := hc.1; omega)
        obtain ⟨d, hd, rfl⟩ := rg_nat (b := 9999) c2
        obtain ⟨w, s, o, r, q1, q2, q3, q4, q5, q6, hr⟩ := owed_cm (f := f) (τ := qmu σ 104 0 0) h agq0 hc hp hd hf
        have hsr : Inv r := (h.thr 0).scr (j115 hr)
        have H1 : p_C_count f σ (nI p) (nI d) z = (if z = 0 then some (nI w) else if z = 1 then some (nI s) else some o) := by
          simp [p_C_count, hasL hc.2.1 hc.1, c1, noDayL, c2, outL, c3, q1, q3, q5]
        have H2 : p_M_count f σ (nI p) (nI d) z = (if z = 0 then some (nI w, qmu σ 104 0 0) else if z = 1 then some (nI s, r) else some (o, r)) := by
          simp [p_M_count, isPL (thr_pr e5) hc.1, c1, isDayL, c2, inL, c3, q2, q4, q6]
        rw [H1, H2]
        by_cases z0 : z = 0
        · rw [if_pos z0, if_pos z0]
          exact badR h rfl rfl
        · rw [if_neg z0, if_neg z0]
          by_cases z1 : z = 1
          · rw [if_pos z1, if_pos z1]
            exact ⟨_, _, rfl, rfl, hsr⟩
          · rw [if_neg z1, if_neg z1]
            exact ⟨_, _, rfl, rfl, hsr⟩
      · refine badR (r := -1000001) h ?_ ?_
        · simp [p_C_count, hasL hc.2.1 hc.1, c1, noDayL, c2, outL, c3]
        · simp [p_M_count, isPL (thr_pr e5) hc.1, c1, isDayL, c2, inL, c3]
    · refine badR (r := -1000001) h ?_ ?_
      · simp [p_C_count, hasL hc.2.1 hc.1, c1, noDayL, c2]
      · simp [p_M_count, isPL (thr_pr e5) hc.1, c1, isDayL, c2]
  · refine badR (r := -1000001) h ?_ ?_
    · simp [p_C_count, hasL hc.2.1 hc.1, c1]
    · simp [p_M_count, isPL (thr_pr e5) hc.1, c1]
/-! all -/
theorem all0 {f : Nat} {σ : qMem} (h : Inv σ) (hf : 100 < f) : ∃ v : Int32, p_Sheets_howMany f σ = some v ∧ qfix2 (p_M_all_l62 f (qmu σ 104 0 0)) f 0 0 = some (v, qmu σ 104 0 0) := by
  obtain ⟨a1, a2, a3, a4, a5⟩ := h.sh
  refine ⟨nI (sm (fun s => bI (!decide (σ 2 s = -1))) 8), ?_, ?_⟩
  · unfold p_Sheets_howMany
    refine run2 (n := 8) (f := f) (fun i => nI (sm (fun s => bI (!decide (σ 2 s = -1))) i)) (by omega) (fun k => ?_) (fun k i hi => ?_)
    · unfold p_Sheets_howMany_l4
      rw [if_pos (by decide)]
    · have hb : ¬ (8 : Int32) ≤ nI i := nI_ge (a := i) (b := 8) hi (by omega)
      unfold p_Sheets_howMany_l4
      rw [if_neg hb, missL hi, Option.bind_some, show sm (fun s => bI (!decide (σ 2 s = -1))) (i + 1) = sm (fun s => bI (!decide (σ 2 s = -1))) i + bI (!decide (σ 2 i = -1)) from rfl, nI_1]
      by_cases c : σ 2 i = -1 <;> simp [c, bI, nI_1]
  · refine run2 (n := 8) (f := f) (fun i => nI (sm (fun s => bI (!decide (σ 2 s = -1))) i)) (by omega) (fun k => ?_) (fun k i hi => ?_)
    · unfold p_M_all_l62
      rw [if_pos (by decide)]
    · have hb : ¬ (8 : Int32) ≤ nI i := nI_ge (a := i) (b := 8) hi (by omega)
      have hl := lane_neg h.sh hi
      unfold p_M_all_l62
      rw [if_neg hb, if_pos (qin_nI hi (by omega)), qi_nI (by omega), mu_k (by decide), ← a1, show sm (fun s => bI (!decide (σ 2 s = -1))) (i + 1) = sm (fun s => bI (!decide (σ 2 s = -1))) i + bI (!decide (σ 2 i = -1)) from rfl, nI_1]
      by_cases c : σ 2 i = -1
      · rw [if_pos (hl.1.mpr c)]; simp [c, bI]
      · rw [if_neg (fun w => c (hl.1.mp w))]; simp [c, bI, nI_1]
theorem all4 {f : Nat} {σ : qMem} (h : Inv σ) (hf : 100 < f) : ∃ (v : Int32) (r : qMem), p_Lines_howManyGood f σ = some v ∧ ((p_M_judge f (qmu σ 104 0 0)).bind fun u5 => qfix2 (p_M_all_l114 f u5 ) f (0 : Int32) (0 : Int32)) = some (v, r) ∧ Inv r := by
  obtain ⟨n, np, nA, nS, ord, hm, hj⟩ := (h.q (agq0 (v := 0))).mdh
  have hn : n ≤ 60 := hm.1.1
  have e42 : σ 42 9 = nI n := by have := hm.1.2.1; rw [mu_k (by decide)] at this; exact this
  have h46 : (qmu σ 104 0 0) 46 = σ 46 := funext fun j => mu_k (by decide)
  obtain ⟨r, e, hr, hg⟩ := judge_m (f := f) hm hj hf
  refine ⟨nI (sm (fun s => bI (!decide (σ 46 s = 0))) n), r, ?_, ?_, (h.thr 0).scr (j115 hr)⟩
  · unfold p_Lines_howManyGood
    refine run2 (n := n) (f := f) (fun i => nI (sm (fun s => bI (!decide (σ 46 s = 0))) i)) (by omega) (fun k => ?_) (fun k i hi => ?_)
    · unfold p_Lines_howManyGood_l4
      rw [e42, if_pos (nI_le (Nat.le_refl _) (by omega))]
    · unfold p_Lines_howManyGood_l4
      rw [e42, if_neg (nI_ge hi (by omega)), if_pos (qin_nI (by omega) (by omega)), qi_nI (by omega), show sm (fun s => bI (!decide (σ 46 s = 0))) (i + 1) = sm (fun s => bI (!decide (σ 46 s = 0))) i + bI (!decide (σ 46 i = 0)) from rfl, nI_1]
      by_cases c : σ 46 i = 0 <;> simp [c, bI, nI_1]
  · rw [e, Option.bind_some]
    refine run2 (n := n) (f := f) (fun i => nI (sm (fun s => bI (!decide (σ 46 s = 0))) i)) (by omega) (fun k => ?_) (fun k i hi => ?_)
    · unfold p_M_all_l114
      rw [hr 104 (by decide), hm.2.2.2.2.1, if_pos (nI_le (Nat.le_refl _) (by omega))]
    · unfold p_M_all_l114
      rw [hr 104 (by decide), hm.2.2.2.2.1, if_neg (nI_ge hi (by omega)), if_pos (qin_nI (by omega) (by omega)), qi_nI (by omega), hg i hi, h46, show sm (fun s => bI (!decide (σ 46 s = 0))) (i + 1) = sm (fun s => bI (!decide (σ 46 s = 0))) i + bI (!decide (σ 46 i = 0)) from rfl, nI_1]
      by_cases c : σ 46 i = 0 <;> simp [c, bI, nI_1]
noncomputable def gnB (σ : qMem) (nA p : Nat) : Bool := @decide (endP σ p nA (σ 0 15)) (Classical.propDecidable _)
theorem all5 {f : Nat} {σ : qMem} (h : Inv σ) (hf : 100 < f) : ∃ v : Int32, p_C_howManyGone f σ = some v ∧ qfix2 (p_M_all_l149 f (qmu σ 104 0 0)) f 0 0 = some (v, qmu σ 104 0 0) := by
  obtain ⟨np, nA, nJ, hc⟩ := h.q0.cn
  have e5 := h.np hc.1 hc.2.1
  have hq := h.q (agq0 (v := 0))
  have hct := hc.q (agq0 (v := 0))
  have hnp := hc.1
  have d15 : (qmu σ 104 0 0) 0 15 = σ 0 15 := mu_k (by decide)
  refine ⟨nI (sm (fun s => bI (gnB σ nA s)) np), ?_, ?_⟩
  · unfold p_C_howManyGone
    refine run2 (n := np) (f := f) (fun i => nI (sm (fun s => bI (gnB σ nA s)) i)) (by omega) (fun k => ?_) (fun k i hi => ?_)
    · unfold p_C_howManyGone_l4 p_Promises_size
      rw [Option.bind_some, hc.2.1, if_pos (nI_le (Nat.le_refl _) (by omega))]
    · unfold p_C_howManyGone_l4 p_Promises_size
      rw [Option.bind_some, hc.2.1, if_neg (nI_ge hi (by omega)), kind_c hc hi hf, Option.bind_some, show sm (fun s => bI (gnB σ nA s)) (i + 1) = sm (fun s => bI (gnB σ nA s)) i + bI (gnB σ nA i) from rfl, nI_1]
      unfold kdV gnB
      by_cases c : endP σ i nA (σ 0 15)
      · simp [c, bI, nI_1]
      · rw [if_neg c]
        have : ¬ (if σ (15 + i) 0 = 1 then (3 : Int32) else if otF σ (nI i) (σ 0 15) nJ 0 = -1000000 then 1 else 2) = 4 := by
          by_cases c2 : σ (15 + i) 0 = 1
          · rw [if_pos c2]; decide
          · rw [if_neg c2]
            by_cases c3 : otF σ (nI i) (σ 0 15) nJ 0 = -1000000
            · rw [if_pos c3]; decide
            · rw [if_neg c3]; decide
        rw [if_neg this]
        simp [c, bI, nI_1]
  · refine run2 (n := np) (f := f) (fun i => nI (sm (fun s => bI (gnB σ nA s)) i)) (by omega) (fun k => ?_) (fun k i hi => ?_)
    · unfold p_M_all_l149
      rw [thr_pr e5, if_pos (nI_le (Nat.le_refl _) (by omega))]
    · have he := end_m (f := f) (σ := qmu σ 104 0 0) (p := i) (d := (qmu σ 104 0 0) 0 15) hq.ac (hq.pr.row hct.2.1 hc.1 hi) (by omega) hct.2.2.2.1 hct.2.2.1 hf
      unfold p_M_all_l149
      rw [thr_pr e5, if_neg (nI_ge hi (by omega)), hq.day.1, show sm (fun s => bI (gnB σ nA s)) (i + 1) = sm (fun s => bI (gnB σ nA s)) i + bI (gnB σ nA i) from rfl, nI_1]
      have hen := endP_q (σ := σ) (τ := qmu σ 104 0 0) agq0 (p := i) (n := nA) (by omega) (d := (qmu σ 104 0 0) 0 15)
      unfold gnB
      by_cases c : endP σ i nA (σ 0 15)
      · rw [he.1 (hen.mpr (by rw [d15]; exact c)), Option.bind_some, if_neg (by decide), nI_1]
        simp [c, bI]
      · rw [he.2 (fun w => c (by have := hen.mp w; rw [d15] at this; exact this)), Option.bind_some, if_pos rfl]
        simp [c, bI]
theorem all_ok {f : Nat} {σ : qMem} (h : Inv σ) (hf : 100 < f) (x : Int32) : PairR (p_C_all f σ x) (p_M_all f σ x) := by
  unfold p_C_all p_M_all
  by_cases x0 : x = 0
  · obtain ⟨v, e1, e2⟩ := all0 (f := f) h hf
    rw [if_pos x0, if_pos x0, e1, Option.bind_some, e2]
    exact badR h rfl rfl
  rw [if_neg x0, if_neg x0]
  by_cases x1 : x = 1
  · obtain ⟨n, hn, e1, e2⟩ := h.pn
    rw [if_pos x1, if_pos x1, mu_j (by decide), e2]
    refine badR h ?_ rfl
    unfold p_Promises_size
    rw [Option.bind_some, e1]
  rw [if_neg x1, if_neg x1]
  by_cases x2 : x = 2
  · obtain ⟨n, m, hn, -, e1, e2, -⟩ := h.fe
    rw [if_pos x2, if_pos x2, mu_j (by decide), e2]
    refine badR h ?_ rfl
    unfold p_Feasts_size
    rw [Option.bind_some, e1]
  rw [if_neg x2, if_neg x2]
  by_cases x3 : x = 3
  · obtain ⟨n, np, nA, nS, ord, hm, hj⟩ := h.mdh
    rw [if_pos x3, if_pos x3, mu_j (by decide), hm.2.2.2.2.1]
    refine badR h ?_ rfl
    unfold p_Lines_size
    rw [Option.bind_some, hm.1.2.1]
  rw [if_neg x3, if_neg x3]
  by_cases x4 : x = 4
  · obtain ⟨v, r, e1, e2, hr⟩ := all4 (f := f) h hf
    rw [if_pos x4, if_pos x4, e1, Option.bind_some, e2]
    exact ⟨_, _, rfl, rfl, hr⟩
  rw [if_neg x4, if_neg x4]
  by_cases x5 : x = 5
  · obtain ⟨v, e1, e2⟩ := all5 (f := f) h hf
    rw [if_pos x5, if_pos x5, e1, Option.bind_some, e2]
    exact badR h rfl rfl
  rw [if_neg x5, if_neg x5]
  by_cases x6 : x = 6
  · obtain ⟨-, -, -, -, n, hn, e1, e2, -⟩ := h.ac
    rw [if_pos x6, if_pos x6, mu_j (by decide), e2]
    refine badR h ?_ rfl
    unfold p_Acts_size
    rw [Option.bind_some, e1]
  rw [if_neg x6, if_neg x6]
  by_cases x7 : x = 7
  · obtain ⟨-, -, -, n, hn, e1, e2, -⟩ := h.bi
    rw [if_pos x7, if_pos x7, mu_j (by decide), e2]
    refine badR h ?_ rfl
    unfold p_Houses_howManyBids
    rw [Option.bind_some, e1]
  rw [if_neg x7, if_neg x7]
  by_cases x8 : x = 8
  · obtain ⟨⟨n, hn, e1, e2⟩, -⟩ := h.tp
    rw [if_pos x8, if_pos x8, mu_j (by decide), e2]
    refine badR h ?_ rfl
    unfold p_Deeds_size
    rw [Option.bind_some, e1]
  rw [if_neg x8, if_neg x8]
  exact badR h rfl rfl
