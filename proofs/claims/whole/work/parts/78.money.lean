/-! rent, comes, fails, spent, pension -/
theorem rpS_q {σ τ : qMem} (ha : agr Pq σ τ) {x y : Int32} : ∀ n, rpS τ x y n = rpS σ x y n
  | 0 => rfl
  | n + 1 => by
    unfold rpS rpB
    rw [rpS_q ha n, agr_c ha 56 (by omega), agr_c ha 57 (by omega), agr_c ha 58 (by omega)]
theorem covR_q {σ τ : qMem} (ha : agr Pq σ τ) {x : Int32} {d : Nat} : ∀ n, covR τ x d n = covR σ x d n
  | 0 => rfl
  | n + 1 => by
    unfold covR ea eb
    rw [covR_q ha n, agr_c ha 60 (by omega), agr_c ha 61 (by omega), agr_c ha 62 (by omega)]
theorem rtV_q {σ τ : qMem} (ha : agr Pq σ τ) {h y nE nR : Nat} : rtV τ h y nE nR = rtV σ h y nE nR := by
  unfold rtV ecn
  simp only [rpS_q ha, covR_q ha, agr_c ha 54 (by omega), agr_c ha 55 (by omega)]
theorem rent_cm {f : Nat} {σ : qMem} (h : Inv σ) (hf : 1000 < f) : ∃ V : Nat → Nat → Int32, (∀ ρ, agr Pq σ ρ → ∀ a y, a < 6 → y ≤ 27 → p_Houses_rentIn f ρ (nI a) (nI y) = some (V a y)) ∧ ∀ τ, agr Pq σ τ → ∀ a y, a < 6 → y ≤ 27 → p_M_rentOf f τ (nI a) (nI y) = some (V a y) := by
  obtain ⟨nE, hE, -⟩ := h.em.h
  obtain ⟨-, -, -, nR, hR, eR, -⟩ := h.re
  refine ⟨fun a y => rtV σ a y nE nR, fun ρ ha a y h1 h2 => ?_, fun τ ha a y h1 h2 => ?_⟩
  · obtain ⟨nE', hE', -⟩ := (h.q ha).em.h
    have q1 : nE' = nE := (nI_eq (by have := hE'.1; omega) (by have := hE.1; omega)).mp (hE'.2.1.symm.trans ((ha 59 3 (by unfold Pq scrP; omega)).trans hE.2.1))
    subst q1
    rw [rent_c hE' (by rw [ha 53 5 (by unfold Pq scrP; omega)]; exact eR) hR h1 h2 (by omega), rtV_q ha]
  · obtain ⟨nE', hE', e1, e2, e3, e4⟩ := (h.q ha).em.h
    obtain ⟨d1, d2, d3, nR', hR', eR', eR2⟩ := (h.q ha).re
    have q1 : nE' = nE := (nI_eq (by have := hE'.1; omega) (by have := hE.1; omega)).mp (hE'.2.1.symm.trans ((ha 59 3 (by unfold Pq scrP; omega)).trans hE.2.1))
    have q2 : nR' = nR := (nI_eq (by omega) (by omega)).mp (eR'.symm.trans ((ha 53 5 (by unfold Pq scrP; omega)).trans eR))
    subst q1 q2
    rw [rent_m hE' e1 e2 e3 e4 d1 d2 d3 eR2 hR' (h.q ha).ho h1 h2 hf, rtV_q ha]
theorem rent_ok {f : Nat} {σ : qMem} (h : Inv σ) (hf : 1000 < f) (x y : Int32) : PairR (p_C_rent f σ x y) (p_M_rent f σ x y) := by
  obtain ⟨V, v1, v2⟩ := rent_cm (f := f) h hf
  by_cases c1 : rg x 0 5
  · by_cases c2 : rg y 0 27
    · obtain ⟨a, ha, rfl⟩ := rg_nat (b := 5) c1
      obtain ⟨b, hb, rfl⟩ := rg_nat (b := 27) c2
      refine badR (r := V a b) h ?_ ?_
      · simp [p_C_rent, noHouseL, noYearL, c1, c2, v1 σ agr_rf a b (by omega) hb]
      · simp [p_M_rent, isHouseL, isYearL, c1, c2, v2 _ agq0 a b (by omega) hb]
    · refine badR (r := -1000001) h ?_ ?_
      · simp [p_C_rent, noHouseL, noYearL, c1, c2]
      · simp [p_M_rent, isHouseL, isYearL, c1, c2]
  · refine badR (r := -1000001) h ?_ ?_
    · simp [p_C_rent, noHouseL, c1]
    · simp [p_M_rent, isHouseL, c1]
theorem comes_cm {f : Nat} {σ : qMem} (h : Inv σ) {np nA nJ : Nat} (hc : cnts σ np nA nJ) (hf : 1000 < f) : ∃ W : Nat → Nat → Int32, (∀ ρ, agr Pq σ ρ → ∀ p y, p < np → y ≤ 27 → p_C_comesTo f ρ (nI p) (nI y) = some (W p y)) ∧ ∀ τ, agr Pq σ τ → ∀ p y, p < np → y ≤ 27 → p_M_comesTo f τ (nI p) (nI y) = some (W p y) := by
  obtain ⟨V, v1, v2⟩ := rent_cm (f := f) h hf
  have hnp := hc.1
  have hh : ∀ p, p < np → ∃ a : Nat, a ≤ 5 ∧ σ (15 + p) 7 = nI a ∧ qi (σ (15 + p) 7) = a := fun p hp => by
    obtain ⟨a, ha, e⟩ := rg_nat (b := 5) (h.pr.rg (j := 7) hc.2.1 hc.1 hp (by omega))
    exact ⟨a, ha, e, by rw [e, qi_nI (by omega)]⟩
  have ov : ∀ p y, p < np → y ≤ 27 → otF σ (nI p) (nI (360 * y)) nJ 0 = -1000000 ∨ ∃ q : Nat, q < np ∧ otF σ (nI p) (nI (360 * y)) nJ 0 = nI q := fun p y hp hy => otF_v (h.q0.joc hc).1 (Nat.zero_add _)
  refine ⟨fun p y => if otF σ (nI p) (nI (360 * y)) nJ 0 = -1000000 then (V (qi (σ (15 + p) 7)) y * σ (15 + p) 8) / 100 else (V (qi (σ (15 + p) 7)) y * σ (15 + p) 8) / 100 + (V (qi (σ (15 + qi (otF σ (nI p) (nI (360 * y)) nJ 0)) 7)) y * σ (15 + qi (otF σ (nI p) (nI (360 * y)) nJ 0)) 8) / 100, fun ρ ha p y hp hy => ?_, fun τ ha p y hp hy => ?_⟩
  · have own : ∀ q, q < np → p_C_ownShare f ρ (nI q) (nI y) = some ((V (qi (σ (15 + q) 7)) y * σ (15 + q) 8) / 100) := by
      intro q hq
      obtain ⟨a, ha5, e, eq⟩ := hh q hq
      have o7 : p_Promises_of f ρ (nI q) 7 = some (nI a) := by rw [← e, ← agr_c ha (15 + q) (by omega)]; exact of_c (j := 7) (by omega) (by omega)
      have o8 : p_Promises_of f ρ (nI q) 8 = some (σ (15 + q) 8) := by rw [← agr_c ha (15 + q) (by omega)]; exact of_c (j := 8) (by omega) (by omega)
      unfold p_C_ownShare
      rw [o7, Option.bind_some, v1 ρ ha a y (by omega) hy, Option.bind_some, o8, Option.bind_some, eq]
    unfold p_C_comesTo
    rw [own p hp, Option.bind_some, show nI y * 360 = nI (360 * y) by rw [show (360 : Int32) = nI 360 from rfl, nI_mul, Nat.mul_comm], other_c (hc.q ha).2.2.2.2.2 hc.2.2.2.2.1 (by omega), Option.bind_some, otF_q ha]
    rcases ov p y hp hy with q | ⟨q, hq, e⟩
    · rw [if_pos q]
      show _ = some (if _ then _ else _)
      rw [if_pos q]
    · rw [e, if_neg (nI_nn (by omega)), own q hq, Option.bind_some]
      show _ = some (if _ then _ else _)
      rw [e, if_neg (nI_nn (by omega)), qi_nI (by omega)]
  · obtain ⟨hj, e1, e2, e3⟩ := (h.q ha).joc (hc.q ha)
    have o7 : ∀ q, q < np → p_M_of f τ (nI q) 7 = some (σ (15 + q) 7) := fun q hq => by
      rw [← agr_c ha (15 + q) (by omega)]; exact of_r (j := 7) ((h.q ha).pr.row (hc.q ha).2.1 hc.1 hq) (by omega) (by omega)
    have o8 : ∀ q, q < np → p_M_of f τ (nI q) 8 = some (σ (15 + q) 8) := fun q hq => by
      rw [← agr_c ha (15 + q) (by omega)]; exact of_r (j := 8) ((h.q ha).pr.row (hc.q ha).2.1 hc.1 hq) (by omega) (by omega)
    obtain ⟨a, ha5, ea5, eq5⟩ := hh p hp
    have hd : rg (nI (360 * y)) 0 9999 := nI_rg (by omega) (by omega) (by omega)
    unfold p_M_comesTo
    rw [o7 p hp, Option.bind_some, ea5, v2 τ ha a y (by omega) hy, Option.bind_some, o8 p hp, Option.bind_some, show (360 : Int32) * nI y = nI (360 * y) by rw [show (360 : Int32) = nI 360 from rfl, nI_mul], other_m hj e1 e2 e3 hd (by omega), Option.bind_some, otF_q ha]
    show _ = some (if _ then _ else _)
    rw [eq5]
    rcases ov p y hp hy with q | ⟨q, hq, e⟩
    · rw [if_pos q, if_pos q]
    · obtain ⟨b, hb5, eb5, eqb⟩ := hh q hq
      rw [e, if_neg (nI_nn (by omega)), if_neg (nI_nn (by omega)), o7 q hq, Option.bind_some, eb5, v2 τ ha b y (by omega) hy, Option.bind_some, o8 q hq, Option.bind_some, qi_nI (k := q) (by omega), eqb]
theorem pr0 {σ : qMem} (h : Inv σ) : (qmu σ 104 0 0) 132 = σ 66 := by
  have : (qmu σ 104 0 0) 132 = σ 132 := funext fun j => mu_k (by decide)
  rw [this]
  exact h.pc.symm
theorem q03 : qin (0 : Int32) 3 = true ∧ qin (1 : Int32) 3 = true ∧ qin (2 : Int32) 3 = true ∧ qi (0 : Int32) = 0 ∧ qi (1 : Int32) = 1 ∧ qi (2 : Int32) = 2 := by decide
theorem comes_ok {f : Nat} {σ : qMem} (h : Inv σ) (hf : 1000 < f) (x y z : Int32) : PairR (p_C_comes f σ x y z) (p_M_comes f σ x y z) := by
  obtain ⟨np, nA, nJ, hc⟩ := h.q0.cn
  have e5 := h.np hc.1 hc.2.1
  obtain ⟨W, w1, w2⟩ := comes_cm (f := f) h hc hf
  by_cases c1 : rg x 0 ((np : Int) - 1)
  · by_cases c2 : rg y 0 27
    · by_cases c3 : rg z 0 1
      · obtain ⟨p, hp, rfl⟩ := rg_p c1 (by have := hc.1; omega)
        obtain ⟨b, hb, rfl⟩ := rg_nat (b := 27) c2
        have H1 : p_C_comes f σ (nI p) (nI b) z = (if z = 0 then some (W p b) else if W p b < σ 66 0 then some 0 else some 1) := by
          unfold p_C_comes p_C_feeds
          rw [hasL hc.2.1 hc.1, Option.bind_some, if_pos c1, if_neg bad_ne, noYearL, Option.bind_some, if_pos c2, if_pos rfl, outL, Option.bind_some, if_pos (show rg z (0 : Int32).toInt (1 : Int32).toInt from c3), if_pos rfl, w1 σ agr_rf p b hp hb, Option.bind_some, Option.bind_some, if_pos q03.1, q03.2.2.2.1]
          by_cases z0 : z = 0
          · rw [if_pos z0, if_pos z0]
          · rw [if_neg z0, if_neg z0]
            by_cases q : W p b < σ 66 0
            · rw [if_pos q]; rfl
            · rw [if_neg q]; rfl
        have H2 : p_M_comes f σ (nI p) (nI b) z = (if z = 0 then some (W p b, qmu σ 104 0 0) else if W p b < σ 66 0 then some (0, qmu σ 104 0 0) else some (1, qmu σ 104 0 0)) := by
          unfold p_M_comes
          rw [isPL (thr_pr e5) hc.1, Option.bind_some, if_pos c1, if_neg bad_ne, isYearL, Option.bind_some, if_pos c2, if_neg bad_ne, inL, Option.bind_some, if_pos (show rg z (0 : Int64).toInt (1 : Int64).toInt from c3), if_neg bad_ne, w2 _ agq0 p b hp hb, Option.bind_some, if_pos q03.1, q03.2.2.2.1, pr0 h]
        rw [H1, H2]
        by_cases z0 : z = 0
        · rw [if_pos z0, if_pos z0]
          exact badR h rfl rfl
        · rw [if_neg z0, if_neg z0]
          by_cases q : W p b < σ 66 0
          · rw [if_pos q, if_pos q]; exact badR h rfl rfl
          · rw [if_neg q, if_neg q]; exact badR h rfl rfl
      · refine badR (r := -1000001) h ?_ ?_
        · simp [p_C_comes, hasL hc.2.1 hc.1, c1, noYearL, c2, outL, c3]
        · simp [p_M_comes, isPL (thr_pr e5) hc.1, c1, isYearL, c2, inL, c3]
    · refine badR (r := -1000001) h ?_ ?_
      · simp [p_C_comes, hasL hc.2.1 hc.1, c1, noYearL, c2]
      · simp [p_M_comes, isPL (thr_pr e5) hc.1, c1, isYearL, c2]
  · refine badR (r := -1000001) h ?_ ?_
    · simp [p_C_comes, hasL hc.2.1 hc.1, c1]
    · simp [p_M_comes, isPL (thr_pr e5) hc.1, c1]
def fvN (W : Nat → Int32) (g : Int32) : Nat → Nat → Int32
  | 0, _ => -1000000
  | m + 1, i => if W i < g then nI i else fvN W g m (i + 1)
theorem fvN_s {W : Nat → Int32} {g : Int32} {n i : Nat} (h : i < n) : fvN W g (n - i) i = if W i < g then nI i else fvN W g (n - (i + 1)) (i + 1) := by
  rw [show n - i = (n - (i + 1)) + 1 by omega]
  rfl
theorem col0 {σ : qMem} (h : Inv σ) {np p : Nat} (hn : np ≤ 12) (e : σ 13 1 = nI np) (hp : p < np) : σ (15 + p) 0 = 0 ∨ σ (15 + p) 0 = 1 := by
  obtain ⟨a, ha, e2⟩ := rg_nat (b := 1) (h.pr.rg (j := 0) e hn hp (by omega))
  rw [e2]
  have : a = 0 ∨ a = 1 := by omega
  rcases this with rfl | rfl
  · exact Or.inl rfl
  · exact Or.inr rfl
theorem fails_ok {f : Nat} {σ : qMem} (h : Inv σ) (hf : 1000 < f) (x : Int32) : PairR (p_C_fails f σ x) (p_M_fails f σ x) := by
  obtain ⟨np, nA, nJ, hc⟩ := h.q0.cn
  have e5 := h.np hc.1 hc.2.1
  have hnp := hc.1
  obtain ⟨W, w1, w2⟩ := comes_cm (f := f) h hc hf
  by_cases c1 : rg x 0 ((np : Int) - 1)
  · obtain ⟨p, hp, rfl⟩ := rg_p c1 (by omega)
    obtain ⟨F, T, E, hF, -, -, -, r1, -, -⟩ := h.q0.rw hc.1 hc.2.1 hp
    have hq := h.q (agq0 (v := 0))
    have hct := hc.q (agq0 (v := 0))
    have hrow := hq.pr.row hct.2.1 hc.1 hp
    have crow := agr_c (agq0 (σ := σ) (v := 0)) (15 + p) (by omega)
    have o5 : p_Promises_of f σ (nI p) 5 = some (nI F) := by rw [← r1]; exact of_c (j := 5) (by omega) (by omega)
    have m5 : p_M_of f (qmu σ 104 0 0) (nI p) 5 = some (nI F) := by rw [← r1, ← crow]; exact of_r (j := 5) hrow (by omega) (by omega)
    have m0 : p_M_of f (qmu σ 104 0 0) (nI p) 0 = some (σ (15 + p) 0) := by rw [← crow]; exact of_r (j := 0) hrow (by omega) (by omega)
    have hdv : nI F / 360 = nI (F / 360) := pk_div (a := F) (d := 360) (by omega) (by omega) (by omega)
    have hF27 : F / 360 ≤ 27 := by omega
    have b28 : ∀ i, i < 28 → ¬ (28 : Int32) ≤ nI i := fun i hi => nI_ge (a := i) (b := 28) hi (by omega)
    have b27 : ∀ i, i < 28 → ¬ (27 : Int32) < nI i := fun i hi => nI_nlt (a := 27) (b := i) (by omega) (by omega)
    rcases col0 h hc.1 hc.2.1 hp with z0 | z1
    · refine badR (r := fvN (W p) (σ 66 0) (28 - F / 360) (F / 360)) h ?_ ?_
      · unfold p_C_fails
        rw [hasL hc.2.1 hc.1, Option.bind_some, if_pos c1, if_neg bad_ne, obit_c (by omega), Option.bind_some, if_neg (show ¬ σ (15 + p) 0 = 1 by rw [z0]; decide), if_pos rfl, o5, Option.bind_some, hdv]
        refine up1i (n := 28) (res := fun i => fvN (W p) (σ 66 0) (28 - i) i) (by omega) (by omega) (fun k => ?_) (fun k i hi hk => ?_)
        · unfold p_C_fails_l43
          rw [if_pos (by decide)]
          rfl
        · unfold p_C_fails_l43 p_C_feeds
          rw [if_neg (b27 i hi), w1 σ agr_rf p i hp (by omega), Option.bind_some, if_pos q03.1, q03.2.2.2.1, nI_1, hk, fvN_s hi]
          by_cases q : W p i < σ 66 0
          · rw [if_pos q, if_pos q]; rfl
          · rw [if_neg q, if_neg q]; rfl
      · unfold p_M_fails
        rw [isPL (thr_pr e5) hc.1, Option.bind_some, if_pos c1, if_neg bad_ne, m5, Option.bind_some, hdv]
        refine up1i (n := 28) (res := fun i => (fvN (W p) (σ 66 0) (28 - i) i, qmu σ 104 0 0)) (by omega) (by omega) (fun k => ?_) (fun k i hi hk => ?_)
        · unfold p_M_fails_l27
          rw [if_pos (by decide)]
          rfl
        · unfold p_M_fails_l27
          rw [if_neg (b28 i hi), m0, Option.bind_some, if_pos z0, w2 _ agq0 p i hp (by omega), Option.bind_some, if_pos q03.1, q03.2.2.2.1, nI_1, hk, fvN_s hi, pr0 h]
          by_cases q : W p i < σ 66 0
          · rw [if_pos q, if_neg (Int32.not_le.mpr q)]
          · rw [if_neg q, if_pos (Int32.not_lt.mp q)]
    · refine badR (r := -1000000) h ?_ ?_
      · unfold p_C_fails
        rw [hasL hc.2.1 hc.1, Option.bind_some, if_pos c1, if_neg bad_ne, obit_c (by omega), Option.bind_some, if_pos z1, if_neg (by decide)]
      · unfold p_M_fails
        rw [isPL (thr_pr e5) hc.1, Option.bind_some, if_pos c1, if_neg bad_ne, m5, Option.bind_some, hdv]
        obtain ⟨g, rfl⟩ : ∃ g, f = g + 1 := ⟨f - 1, by omega⟩
        rw [qfix1_s]
        unfold p_M_fails_l27
        rw [if_neg (b28 _ (by omega)), m0, Option.bind_some, if_neg (by rw [z1]; decide)]
  · refine badR (r := -1000001) h ?_ ?_
    · simp [p_C_fails, hasL hc.2.1 hc.1, c1]
    · simp [p_M_fails, isPL (thr_pr e5) hc.1, c1]
/-! spent -/
theorem want_m1 {f : Nat} {σ : qMem} {p F E : Nat} (hp : p < 12) (hF : F ≤ 9999) (hE1 : 1 ≤ E) (hE2 : E ≤ 360) (r1 : σ (15 + p) 5 = nI F) (r3 : σ (15 + p) 4 = nI E) (r2 : rg (σ (15 + p) 6) 0 9999) : p_C_wantedTill f σ (nI p) (-1) = some 0 := by
  have o5 : p_Promises_of f σ (nI p) 5 = some (nI F) := by rw [← r1]; exact of_c (j := 5) hp (by omega)
  have o6 : p_Promises_of f σ (nI p) 6 = some (σ (15 + p) 6) := of_c (j := 6) hp (by omega)
  have o4 : p_Promises_of f σ (nI p) 4 = some (nI E) := by rw [← r3]; exact of_c (j := 4) hp (by omega)
  have h1 : (-1 : Int32) < σ (15 + p) 6 := i32_lt.mpr (by have := r2.1; rw [show (-1 : Int32).toInt = -1 from rfl]; omega)
  unfold p_C_wantedTill p_Feasts_wantedTill
  rw [o5, Option.bind_some, o6, Option.bind_some, o4, Option.bind_some, if_neg (show ¬ nI E < 1 from nI_nlt (a := E) (b := 1) hE1 (by omega)), if_pos h1, if_neg (by rw [i32_le, nI_toInt (by omega), show (-1 : Int32).toInt = -1 from rfl]; omega), Option.bind_some]
theorem sp_le {y lo hi : Nat} (hy : y ≤ 27) (hlo : 360 * y = lo + 1) (hhi : hi = min (360 * y + 359) 9999) : lo + 1 ≤ hi := by
  rw [hhi, ← hlo]
  have h1 : 360 * y ≤ 360 * 27 := Nat.mul_le_mul_left 360 hy
  exact Nat.le_min.mpr ⟨Nat.le_add_right _ _, Nat.le_trans h1 (by decide)⟩
theorem spent_ok {f : Nat} {σ : qMem} (h : Inv σ) (hf : 30000 < f) (x : Int32) : PairR (p_C_spent f σ x) (p_M_spent f σ x) := by
  obtain ⟨np, nA, nJ, hc⟩ := h.q0.cn
  have e5 := h.np hc.1 hc.2.1
  have hnp := hc.1
  by_cases c1 : rg x 0 27
  · obtain ⟨y, hy, rfl⟩ := rg_nat (b := 27) c1
    have hq := h.q (agq0 (v := 0))
    have hct := hc.q (agq0 (v := 0))
    obtain ⟨n, m, hn, hm, e18, e29, hfe⟩ := h.q0.feh
    have e18' : (qmu σ 104 0 0) 104 18 = nI n := by rw [mu_j (by decide)]; exact e18
    have hfe' : feOk n m ((qmu σ 104 0 0) 30) ((qmu σ 104 0 0) 31) ((qmu σ 104 0 0) 110) ((qmu σ 104 0 0) 111) := by
      rw [agr_c (agq0 (σ := σ) (v := 0)) 30 (by omega), agr_c (agq0 (σ := σ) (v := 0)) 31 (by omega), agr_m (agq0 (σ := σ) (v := 0)) 110 (by omega), agr_m (agq0 (σ := σ) (v := 0)) 111 (by omega)]
      exact hfe
    have ex : nI y * 360 = nI (360 * y) := by rw [show (360 : Int32) = nI 360 from rfl, nI_mul, Nat.mul_comm]
    have ex2 : (360 : Int32) * nI y = nI (360 * y) := by rw [show (360 : Int32) = nI 360 from rfl, nI_mul]
    have el : nI (360 * y) + 360 - 1 = nI (360 * y + 359) := by rw [show (360 : Int32) = nI 360 from rfl, nI_add]; exact nI_pred _
    have el2 : nI (360 * y) + 359 = nI (360 * y + 359) := by rw [show (359 : Int32) = nI 359 from rfl, nI_add]
    have emn : (if (9999 : Int32) < nI (360 * y + 359) then (9999 : Int32) else nI (360 * y + 359)) = nI (min (360 * y + 359) 9999) := imin (a := 9999) (b := 360 * y + 359) (by omega) (by omega)
    have key : ∃ Z : Nat → Int32, (∀ p, p < np → σ (15 + p) 0 = 1 → ∃ u5 u7 : Int32, p_C_wantedTill f σ (nI p) (nI (min (360 * y + 359) 9999)) = some u5 ∧ p_C_wantedTill f σ (nI p) (nI (360 * y) - 1) = some u7 ∧ u5 - u7 = Z p) ∧ ∀ p, p < np → p_M_wantsIn f (qmu σ 104 0 0) (nI p) (nI (360 * y)) (nI (360 * y + 359)) = some (Z p) := by
      refine ⟨fun p => nI (wN σ m (qi (σ (15 + p) 5)) (qi (σ (15 + p) 6)) (qi (σ (15 + p) 4)) (360 * y) (360 * y + 359)), fun p hp _ => ?_, fun p hp => ?_⟩
      · obtain ⟨F, T, E, hF, hT, hE1, hE2, r1, r2, r3⟩ := h.q0.rw hc.1 hc.2.1 hp
        have w1 := want_c (f := f) (σ := σ) (d := min (360 * y + 359) 9999) h.q0 e29 hm hfe (show p < 12 by omega) hF hT hE1 hE2 r1 r2 r3 (by omega) (by omega)
        have hZ : nI (wN σ m (qi (σ (15 + p) 5)) (qi (σ (15 + p) 6)) (qi (σ (15 + p) 4)) (360 * y) (360 * y + 359)) = nI (wN σ m F T E (360 * y) (360 * y + 359)) := by
          rw [r1, r2, r3, qi_nI (by omega), qi_nI (by omega), qi_nI (by omega)]
        have hcut : wN σ m F T E (360 * y) (360 * y + 359) = wN σ m F T E (360 * y) (min (360 * y + 359) 9999) := by
          by_cases q : 9999 ≤ 360 * y + 359
          · rw [wN_cut hT q, Nat.min_eq_right q]
          · rw [Nat.min_eq_left (by omega)]
        by_cases y0 : y = 0
        · subst y0
          refine ⟨_, 0, w1, want_m1 (show p < 12 by omega) hF hE1 hE2 r1 r3 (by rw [r2]; exact nI_rg (by omega) (by omega) (by omega)), Eq.trans ?_ hZ.symm⟩
          rw [hcut, Int32.sub_zero]
        · have w2 := want_c (f := f) (σ := σ) (d := 360 * y - 1) h.q0 e29 hm hfe (show p < 12 by omega) hF hT hE1 hE2 r1 r2 r3 (by omega) (by omega)
          have e1 : nI (360 * y) - 1 = nI (360 * y - 1) := by
            obtain ⟨k, hk⟩ : ∃ k, 360 * y = k + 1 := ⟨360 * y - 1, by omega⟩
            rw [hk, nI_pred]; rfl
          refine ⟨_, _, w1, by rw [e1]; exact w2, Eq.trans ?_ hZ.symm⟩
          rw [hcut]
          obtain ⟨hi, hhi⟩ : ∃ hi, hi = min (360 * y + 359) 9999 := ⟨_, rfl⟩
          obtain ⟨lo, hlo⟩ : ∃ lo, 360 * y = lo + 1 := ⟨360 * y - 1, by omega⟩
          have hle : lo + 1 ≤ hi := sp_le hy hlo hhi
          rw [← hhi, hlo, Nat.add_sub_cancel]
          have hsp := wN_split (σ := σ) (m := m) (F := F) (T := T) (E := E) (lo := lo) (hi := hi) hE1 hT hle
          rw [hsp, pk_sub (Nat.le_add_right _ _), Nat.add_sub_cancel_left]
      · obtain ⟨F, T, E, hF, hT, hE1, hE2, r1, r2, r3⟩ := h.q0.rw hc.1 hc.2.1 hp
        have crow := agr_c (agq0 (σ := σ) (v := 0)) (15 + p) (by omega)
        have w2 := wants_m (f := f) (lo := 360 * y) (hi := 360 * y + 359) e18' hn hfe' (hq.pr.row hct.2.1 hc.1 hp) (show p < 12 by omega) (by rw [crow]; exact r1) (by rw [crow]; exact r2) (by rw [crow]; exact r3) hF hT hE1 hE2 (by omega) (by omega) hf
        rw [w2, wN_q agq0]
        show _ = some (nI _)
        rw [r1, r2, r3, qi_nI (by omega), qi_nI (by omega), qi_nI (by omega)]
    obtain ⟨Z, z1, z2⟩ := key
    have hst : ∀ p, ∃ v : Int32, v = σ (15 + p) 9 * σ 66 1 + σ (15 + p) 10 * σ 66 2 := fun p => ⟨_, rfl⟩
    refine badR (r := Nat.rec (motive := fun _ => Int32) 0 (fun p v => if σ (15 + p) 0 = 1 then v + Z p * (σ (15 + p) 9 * σ 66 1 + σ (15 + p) 10 * σ 66 2) else v) np) h ?_ ?_
    · unfold p_C_spent
      rw [noYearL, Option.bind_some, if_pos c1, if_pos rfl, ex, el, emn]
      refine run2 (n := np) (f := f) (fun k => Nat.rec (motive := fun _ => Int32) 0 (fun p v => if σ (15 + p) 0 = 1 then v + Z p * (σ (15 + p) 9 * σ 66 1 + σ (15 + p) 10 * σ 66 2) else v) k) (by omega) (fun k => ?_) (fun k i hi => ?_)
      · unfold p_C_spent_l36 p_Promises_size
        rw [Option.bind_some, hc.2.1, if_pos (nI_le (Nat.le_refl _) (by omega))]
      · unfold p_C_spent_l36 p_Promises_size
        rw [Option.bind_some, hc.2.1, if_neg (nI_ge hi (by omega)), obit_c (by omega), Option.bind_some, nI_1]
        show _ = k (if σ (15 + i) 0 = 1 then _ else _) _
        by_cases c : σ (15 + i) 0 = 1
        · obtain ⟨u5, u7, q1, q2, q3⟩ := z1 i hi c
          have o9 : p_Promises_of f σ (nI i) 9 = some (σ (15 + i) 9) := of_c (j := 9) (by omega) (by omega)
          have o10 : p_Promises_of f σ (nI i) 10 = some (σ (15 + i) 10) := of_c (j := 10) (by omega) (by omega)
          unfold p_C_obitCost
          rw [if_pos c, if_pos c, if_neg (by decide), q1, Option.bind_some, q2, Option.bind_some, o9, Option.bind_some, if_pos q03.2.1, o10, Option.bind_some, if_pos q03.2.2.1, Option.bind_some, q3, q03.2.2.2.2.1, q03.2.2.2.2.2]
        · rw [if_neg c, if_neg c, if_pos rfl]
    · unfold p_M_spent
      rw [isYearL, Option.bind_some, if_pos c1, if_neg bad_ne]
      refine run2 (n := np) (f := f) (fun k => Nat.rec (motive := fun _ => Int32) 0 (fun p v => if σ (15 + p) 0 = 1 then v + Z p * (σ (15 + p) 9 * σ 66 1 + σ (15 + p) 10 * σ 66 2) else v) k) (by omega) (fun k => ?_) (fun k i hi => ?_)
      · unfold p_M_spent_l19
        rw [thr_pr e5, if_pos (nI_le (Nat.le_refl _) (by omega))]
      · have hrow := hq.pr.row hct.2.1 hc.1 hi
        have crow := agr_c (agq0 (σ := σ) (v := 0)) (15 + i) (by omega)
        have m0 : p_M_of f (qmu σ 104 0 0) (nI i) 0 = some (σ (15 + i) 0) := by rw [← crow]; exact of_r (j := 0) hrow (by omega) (by omega)
        have m9 : p_M_of f (qmu σ 104 0 0) (nI i) 9 = some (σ (15 + i) 9) := by rw [← crow]; exact of_r (j := 9) hrow (by omega) (by omega)
        have m10 : p_M_of f (qmu σ 104 0 0) (nI i) 10 = some (σ (15 + i) 10) := by rw [← crow]; exact of_r (j := 10) hrow (by omega) (by omega)
        unfold p_M_spent_l19
        rw [thr_pr e5, if_neg (nI_ge hi (by omega)), m0, Option.bind_some, nI_1, ex2, el2, z2 i hi, Option.bind_some, m9, Option.bind_some, if_pos q03.2.1, m10, Option.bind_some, if_pos q03.2.2.1, q03.2.2.2.2.1, q03.2.2.2.2.2, pr0 h, Int32.add_zero]
        show _ = k (if σ (15 + i) 0 = 1 then _ else _) _
        rcases col0 h hc.1 hc.2.1 hi with z0 | z1
        · rw [if_pos z0, if_neg (by rw [z0]; decide)]
        · rw [if_neg (by rw [z1]; decide), if_pos z1]
  · refine badR (r := -1000001) h ?_ ?_
    · simp [p_C_spent, noYearL, c1]
    · simp [p_M_spent, isYearL, c1]
