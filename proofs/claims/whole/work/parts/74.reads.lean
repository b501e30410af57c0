/-! readings: what they hang on -/
def Pq (k j : Nat) : Prop := scrP k j ∨ (k = 0 ∧ (j = 14 ∨ j = 16)) ∨ (k = 104 ∧ (j = 1 ∨ j = 64)) ∨ k = 103 ∨ k = 146
def Inq (σ : qMem) : Prop := g_dy σ ∧ g_pr σ ∧ g_vo σ ∧ g_si σ ∧ g_ac σ ∧ g_ho σ ∧ g_re σ ∧ g_em σ ∧ g_bi σ ∧ g_pc σ ∧ g_fe σ ∧ g_jo σ ∧ g_li σ
theorem Inv.q {σ τ : qMem} (h : Inv σ) (ha : agr Pq σ τ) : Inq τ := by
  refine ⟨h.dy.fr ha ?_, h.pr.fr ha ?_, h.vo.fr ha ?_, h.si.fr ha ?_, h.ac.fr ha ?_, h.ho.fr ha ?_, h.re.fr ha ?_, h.em.fr ha ?_, h.bi.fr ha ?_, h.pc.fr ha ?_, h.fe.fr ha ?_, h.jo.fr ha ?_, h.li.fr ha ?_⟩ <;> intro k j <;> unfold Pq scrP <;> (try unfold sup_li) <;> omega
theorem Inv.q0 {σ : qMem} (h : Inv σ) : Inq σ := h.q agr_rf
theorem Inq.dy {σ : qMem} (h : Inq σ) : g_dy σ := h.1
theorem Inq.pr {σ : qMem} (h : Inq σ) : g_pr σ := h.2.1
theorem Inq.vo {σ : qMem} (h : Inq σ) : g_vo σ := h.2.2.1
theorem Inq.si {σ : qMem} (h : Inq σ) : g_si σ := h.2.2.2.1
theorem Inq.ac {σ : qMem} (h : Inq σ) : g_ac σ := h.2.2.2.2.1
theorem Inq.ho {σ : qMem} (h : Inq σ) : g_ho σ := h.2.2.2.2.2.1
theorem Inq.re {σ : qMem} (h : Inq σ) : g_re σ := h.2.2.2.2.2.2.1
theorem Inq.em {σ : qMem} (h : Inq σ) : g_em σ := h.2.2.2.2.2.2.2.1
theorem Inq.bi {σ : qMem} (h : Inq σ) : g_bi σ := h.2.2.2.2.2.2.2.2.1
theorem Inq.pc {σ : qMem} (h : Inq σ) : g_pc σ := h.2.2.2.2.2.2.2.2.2.1
theorem Inq.fe {σ : qMem} (h : Inq σ) : g_fe σ := h.2.2.2.2.2.2.2.2.2.2.1
theorem Inq.jo {σ : qMem} (h : Inq σ) : g_jo σ := h.2.2.2.2.2.2.2.2.2.2.2.1
theorem Inq.li {σ : qMem} (h : Inq σ) : g_li σ := h.2.2.2.2.2.2.2.2.2.2.2.2
theorem Inq.mdh {σ : qMem} (h : Inq σ) : ∃ (n np nA nS : Nat) (ord : Nat → Nat), mdH σ n np nA nS ord ∧ judged σ (σ 46) ord n nA nS := by
  obtain ⟨h1, h2, h3, n, np, nA, nS, ord, k1, k2, k3, k4, k5, k6, k7, k8, k9, k10, k11, k12⟩ := h.li
  refine ⟨n, np, nA, nS, ord, ⟨⟨k1, k2, k4, k5, k6, k7, k8, k9, k10, k11, fun p hp => ?_⟩, h1, h2, h3, k3, h.ac, h.si, h.vo.1, fun p hp => h.pr.row k5 k4 hp⟩, k12⟩
  obtain ⟨v, hv, e⟩ := rg_nat (b := 7) (h.pr.rg (j := 3) k5 k4 hp (by omega))
  exact ⟨v, hv, e⟩
theorem Inq.joh {σ : qMem} (h : Inq σ) : ∃ n np, joH σ n np ∧ σ 49 = σ 120 ∧ σ 50 = σ 121 ∧ σ 51 = σ 122 := by
  obtain ⟨e1, e2, e3, n, np, h2⟩ := h.jo
  exact ⟨n, np, h2, e1, e2, e3⟩
theorem Inq.feh {σ : qMem} (h : Inq σ) : ∃ n m : Nat, n ≤ 30 ∧ m ≤ 30 ∧ σ 104 18 = nI n ∧ σ 29 2 = nI m ∧ feOk n m (σ 30) (σ 31) (σ 110) (σ 111) := by
  obtain ⟨n, m, h1, h2, h3, h4, h5, h6⟩ := h.fe
  exact ⟨n, m, h1, by omega, h4, h5, h6⟩
theorem Inq.np {σ : qMem} (h : Inq σ) {np : Nat} (hn2 : np ≤ 12) (hn : σ 13 1 = nI np) : σ 104 5 = nI np := by
  obtain ⟨m, k1, k2, k3, -⟩ := h.pr
  have : m = np := (nI_eq (by omega) (by omega)).mp (k2.symm.trans hn)
  rw [← this]; exact k3
/-- the numbers of a state, told apart from it -/
def cnts (σ : qMem) (np nA nJ : Nat) : Prop := np ≤ 12 ∧ σ 13 1 = nI np ∧ nA ≤ 10 ∧ σ 37 5 = nI nA ∧ nJ ≤ 10 ∧ σ 48 4 = nI nJ
theorem Inq.cn {σ : qMem} (h : Inq σ) : ∃ np nA nJ, cnts σ np nA nJ := by
  obtain ⟨np, h1, h2, -⟩ := h.pr
  obtain ⟨-, -, -, -, nA, h3, h4, -⟩ := h.ac
  obtain ⟨-, -, -, nJ, -, h5, h6, -⟩ := h.jo
  exact ⟨np, nA, nJ, h1, h2, h3, h4, h5, h6⟩
theorem cnts.q {σ τ : qMem} {np nA nJ : Nat} (h : cnts σ np nA nJ) (ha : agr Pq σ τ) : cnts τ np nA nJ := by
  obtain ⟨h1, h2, h3, h4, h5, h6⟩ := h
  exact ⟨h1, by rw [ha 13 1 (by unfold Pq scrP; omega)]; exact h2, h3, by rw [ha 37 5 (by unfold Pq scrP; omega)]; exact h4, h5, by rw [ha 48 4 (by unfold Pq scrP; omega)]; exact h6⟩
theorem Inq.joc {σ : qMem} (h : Inq σ) {np nA nJ : Nat} (hc : cnts σ np nA nJ) : joH σ nJ np ∧ σ 49 = σ 120 ∧ σ 50 = σ 121 ∧ σ 51 = σ 122 := by
  obtain ⟨n, np', hj, e⟩ := h.joh
  have q1 : n = nJ := (nI_eq (by have := hj.1; omega) (by have := hc.2.2.2.2.1; omega)).mp (hj.2.1.symm.trans hc.2.2.2.2.2)
  have q2 : np' = np := (nI_eq (by have := hj.2.2.2.1; omega) (by have := hc.1; omega)).mp (hj.2.2.2.2.1.symm.trans hc.2.1)
  subst q1 q2
  exact ⟨hj, e⟩
theorem agr_c {σ τ : qMem} (ha : agr Pq σ τ) (k : Nat) (hk : 1 ≤ k ∧ k ≤ 95 ∧ k ≠ 27) : τ k = σ k := funext fun j => ha k j (by unfold Pq scrP; omega)
theorem agr_m {σ τ : qMem} (ha : agr Pq σ τ) (k : Nat) (hk : 105 ≤ k ∧ k ≤ 142 ∧ k ≠ 115) : τ k = σ k := funext fun j => ha k j (by unfold Pq scrP; omega)
theorem endP_q {σ τ : qMem} (ha : agr Pq σ τ) {p n : Nat} (hp : p < 12) {d : Int32} : endP τ p n d ↔ endP σ p n d := by
  unfold endP tkBy
  rw [tkN_cg (σ := σ) (σ' := τ) (agr_c ha _ (by omega)) (agr_c ha _ (by omega)) (agr_c ha _ (by omega)) (agr_c ha _ (by omega)) (agr_c ha _ (by omega)), agr_c ha (15 + p) (by omega)]
theorem otF_q {σ τ : qMem} (ha : agr Pq σ τ) {x d : Int32} {m i : Nat} : otF τ x d m i = otF σ x d m i := otF_cg (fun k hk => agr_c ha k (by omega)) m i
noncomputable def kdV (σ : qMem) (p nA nJ : Nat) : Int32 := @ite Int32 (endP σ p nA (σ 0 15)) (Classical.propDecidable _) 4 (if σ (15 + p) 0 = 1 then 3 else if otF σ (nI p) (σ 0 15) nJ 0 = -1000000 then 1 else 2)
theorem kdV_q {σ τ : qMem} (ha : agr Pq σ τ) {p nA nJ : Nat} (hp : p < 12) : kdV τ p nA nJ = kdV σ p nA nJ := by
  have e : τ 0 15 = σ 0 15 := ha 0 15 (by unfold Pq scrP; omega)
  unfold kdV
  rw [otF_q ha, agr_c ha (15 + p) (by omega), e]
  by_cases c : endP σ p nA (σ 0 15)
  · rw [if_pos c, if_pos ((endP_q ha hp).mpr c)]
  · rw [if_neg c, if_neg (fun w => c ((endP_q ha hp).mp w))]
theorem kind_c {f : Nat} {σ : qMem} {np nA nJ p : Nat} (hc : cnts σ np nA nJ) (hp : p < np) (hf : 100 < f) : p_C_kindToday f σ (nI p) = some (kdV σ p nA nJ) := by
  obtain ⟨h1, h2, h3, h4, h5, h6⟩ := hc
  have he := end_c (f := f) (σ := σ) (p := p) (d := σ 0 15) (by omega) h4 h3 hf
  unfold p_C_kindToday kdV
  by_cases c : endP σ p nA (σ 0 15)
  · rw [he.1 c, Option.bind_some, if_neg (by decide), if_pos c]
  · rw [he.2 c, Option.bind_some, if_pos rfl, if_neg c, obit_c (by omega), Option.bind_some]
    by_cases c2 : σ (15 + p) 0 = 1
    · rw [if_pos c2, if_pos c2, if_neg (by decide)]
    · rw [if_neg c2, if_neg c2, if_pos rfl, other_c h6 h5 hf, Option.bind_some]
      by_cases c3 : otF σ (nI p) (σ 0 15) nJ 0 = -1000000
      · rw [if_pos c3, if_pos c3]
      · rw [if_neg c3, if_neg c3]
theorem Inq.day {σ : qMem} (h : Inq σ) : σ 104 62 = σ 0 15 ∧ rg (σ 0 15) 0 9999 := by
  obtain ⟨d, hd, e1, e2⟩ := h.dy
  rw [e1, e2]
  exact ⟨rfl, nI_rg (by omega) (by omega) (by omega)⟩
theorem kind_m {f : Nat} {σ : qMem} (h : Inq σ) {np nA nJ p : Nat} (hc : cnts σ np nA nJ) (hp : p < np) (hf : 100 < f) : p_M_kindOf f σ (nI p) = some (kdV σ p nA nJ) := by
  obtain ⟨hj, e1, e2, e3⟩ := h.joc hc
  obtain ⟨h1, h2, h3, h4, h5, h6⟩ := hc
  have hr := h.pr.row h2 h1 hp
  have he := end_m (f := f) (σ := σ) (p := p) (d := σ 0 15) h.ac hr (by omega) h4 h3 hf
  have o0 : p_M_of f σ (nI p) 0 = some (σ (15 + p) 0) := of_r (j := 0) hr (by omega) (by omega)
  unfold p_M_kindOf kdV
  rw [h.day.1]
  by_cases c : endP σ p nA (σ 0 15)
  · rw [he.1 c, Option.bind_some, if_neg (by decide), if_pos c]
  · rw [he.2 c, Option.bind_some, if_pos rfl, if_neg c, o0, Option.bind_some]
    by_cases c2 : σ (15 + p) 0 = 1
    · rw [if_pos c2, if_pos c2]
    · rw [if_neg c2, if_neg c2, other_m hj e1 e2 e3 h.day.2 hf, Option.bind_some]
      by_cases c3 : otF σ (nI p) (σ 0 15) nJ 0 = -1000000
      · rw [if_pos c3, if_pos c3]
      · rw [if_neg c3, if_neg c3]
theorem agq0 {σ : qMem} {v : Int32} : agr Pq σ (qmu σ 104 0 v) := agr_mu agr_rf (by unfold Pq scrP; omega)
theorem kind_ok {f : Nat} {σ : qMem} (h : Inv σ) (hf : 100 < f) (x : Int32) : PairR (p_C_kind f σ x) (p_M_kind f σ x) := by
  obtain ⟨np, nA, nJ, hc⟩ := h.q0.cn
  have e5 := h.np hc.1 hc.2.1
  by_cases c1 : rg x 0 ((np : Int) - 1)
  · obtain ⟨p, hp, rfl⟩ := rg_p c1 (by have := hc.1; omega)
    refine badR (r := kdV σ p nA nJ) h ?_ ?_
    · simp [p_C_kind, hasL hc.2.1 hc.1, c1, kind_c hc hp hf]
    · simp [p_M_kind, isPL (thr_pr e5) hc.1, c1, kind_m (h.q agq0) (hc.q agq0) hp hf, kdV_q (σ := σ) agq0 (show p < 12 by have := hc.1; omega)]
  · refine badR (r := -1000001) h ?_ ?_
    · simp [p_C_kind, hasL hc.2.1 hc.1, c1]
    · simp [p_M_kind, isPL (thr_pr e5) hc.1, c1]
theorem isOfL {f : Nat} {σ : qMem} {a b : Int32} : p_M_isOf f σ a b = some (if b = 0 ∨ b = a ∨ (b = 1 ∧ a = 2) then 1 else 0) := by
  unfold p_M_isOf
  by_cases c1 : b = 0
  · simp [c1]
  · by_cases c2 : b = a
    · simp [c1, c2]
    · have c2' : ¬ a = b := fun w => c2 w.symm
      rw [if_neg c1, if_neg c2']
      by_cases c3 : b = 1
      · rw [if_pos c3]
        by_cases c4 : a = 2
        · rw [if_pos c4, if_pos (Or.inr (Or.inr ⟨c3, c4⟩))]
        · rw [if_neg c4, if_neg (fun w => w.elim c1 (fun w => w.elim c2 (fun w => c4 w.2)))]
      · rw [if_neg c3, if_neg (fun w => w.elim c1 (fun w => w.elim c2 (fun w => c3 w.1)))]
theorem as_ok {f : Nat} {σ : qMem} (h : Inv σ) (hf : 100 < f) (x y : Int32) : PairW (p_C_as f σ x y) (fun s => p_M_as f s x y) := by
  obtain ⟨np, nA, nJ, hc⟩ := h.q0.cn
  have e5 := h.np hc.1 hc.2.1
  by_cases c1 : rg x 0 ((np : Int) - 1)
  · by_cases c2 : rg y 0 4
    · obtain ⟨p, hp, rfl⟩ := rg_p c1 (by have := hc.1; omega)
      have hp12 : p < 12 := by have := hc.1; omega
      have o1 : p_Promises_of f σ (nI p) 1 = some (σ (15 + p) 1) := of_c (j := 1) hp12 (by omega)
      have hcl : p_C_as f σ (nI p) y = if y = 0 ∨ y = kdV σ p nA nJ ∨ (y = 1 ∧ kdV σ p nA nJ = 2) then some (σ (15 + p) 1, qmu σ 0 16 0) else some (-1000013, qmu σ 0 16 3) := by
        unfold p_C_as p_C_as_b48 p_C_as_b62 p_C_foundNothing p_C_found
        rw [hasL hc.2.1 hc.1, Option.bind_some, if_pos c1, if_neg bad_ne, outL, Option.bind_some, if_pos (show rg y (0 : Int32).toInt (4 : Int32).toInt from c2), if_pos rfl, kind_c hc hp hf, Option.bind_some, o1, Option.bind_some]
        by_cases q1 : y = 0
        · simp [q1]
        · by_cases q2 : y = kdV σ p nA nJ
          · simp [q1, ← q2]
          · by_cases q3 : y = 1
            · by_cases q4 : kdV σ p nA nJ = 2
              · simp [q3, q4]
              · have : ¬ 1 = kdV σ p nA nJ := fun w => q2 (by rw [q3]; exact w)
                simp [q3, q4, this]
            · simp [q1, q2, q3]
      have hmo : ∀ v : Int32, p_M_as f (qmu σ 0 16 v) (nI p) y = if y = 0 ∨ y = kdV σ p nA nJ ∨ (y = 1 ∧ kdV σ p nA nJ = 2) then some (σ (15 + p) 1, qmu (qmu (qmu σ 0 16 v) 104 0 0) 104 1 0) else some (-1000013, qmu (qmu (qmu (qmu σ 0 16 v) 104 0 0) 104 1 0) 104 1 3) := by
        intro v
        have ha : agr Pq σ (qmu (qmu (qmu σ 0 16 v) 104 0 0) 104 1 0) := by repeat (first | exact agr_rf | refine agr_mu ?_ (by unfold Pq scrP; omega))
        have e5' : (qmu (qmu σ 0 16 v) 104 0 0) 104 5 = nI np := by rw [mu_j (by decide), mu_k (by decide)]; exact e5
        have o1' : p_M_of f (qmu (qmu (qmu σ 0 16 v) 104 0 0) 104 1 0) (nI p) 1 = some (σ (15 + p) 1) := by
          have := of_r (f := f) (j := 1) ((h.q ha).pr.row (hc.q ha).2.1 hc.1 hp) hp12 (by omega)
          rw [agr_c ha (15 + p) (by omega)] at this
          exact this
        unfold p_M_as p_M_finding
        rw [isPL e5' hc.1, Option.bind_some, if_pos c1, if_neg bad_ne, inL, Option.bind_some, if_pos (show rg y (0 : Int64).toInt (4 : Int64).toInt from c2), if_neg bad_ne, kind_m (h.q ha) (hc.q ha) hp hf, Option.bind_some, kdV_q ha hp12, isOfL, Option.bind_some, o1', Option.bind_some]
        by_cases q : y = 0 ∨ y = kdV σ p nA nJ ∨ (y = 1 ∧ kdV σ p nA nJ = 2)
        · rw [if_pos q, if_pos q, if_neg bad_ne]
          rfl
        · rw [if_neg q, if_neg q, if_pos rfl]
          rfl
      by_cases q : y = 0 ∨ y = kdV σ p nA nJ ∨ (y = 1 ∧ kdV σ p nA nJ = 2)
      · refine ⟨_, _, _, by rw [hcl, if_pos q], by show p_M_as f _ _ _ = _; rw [hmo, if_pos q], ?_⟩
        exact find_ok2 h 0
      · refine ⟨_, _, _, by rw [hcl, if_neg q], by show p_M_as f _ _ _ = _; rw [hmo, if_neg q], ?_⟩
        exact find_ok h 3
    · refine badW (r := -1000001) h ?_ ?_
      · simp [p_C_as, hasL hc.2.1 hc.1, c1, outL, c2]
      · simp [p_M_as, isPL (thr_pr e5) hc.1, c1, inL, c2]
  · refine badW (r := -1000001) h ?_ ?_
    · simp [p_C_as, hasL hc.2.1 hc.1, c1]
    · simp [p_M_as, isPL (thr_pr e5) hc.1, c1]
/-! good lines -/
theorem good01 {σ : qMem} {n np nA nS : Nat} {ord : Nat → Nat} (h : liH σ n np nA nS ord) (hj : judged σ (σ 46) ord n nA nS) {l : Nat} (hl : l < n) : σ 46 l = 0 ∨ σ 46 l = 1 := by
  obtain ⟨j, hj2, e⟩ := ord_surj (fun j hj => (h.ol hj).1) (fun j j' a b e => h.inj a b e) l hl
  rw [← e]
  by_cases w : stands σ (σ 46) ord nA nS j
  · exact Or.inr ((hj j hj2).1 w)
  · exact Or.inl ((hj j hj2).2 w)
theorem j115 {σ r : qMem} (h : ∀ k, k ≠ 115 → r k = σ k) : agr scrP σ r := fun k j hn => by rw [h k (fun w => hn (by unfold scrP; omega))]
theorem j115q {σ r : qMem} (h : ∀ k, k ≠ 115 → r k = σ k) : agr Pq σ r := agr_mono (j115 h) (fun _ _ w => Or.inl w)
theorem good_ok {f : Nat} {σ : qMem} (h : Inv σ) (hf : 100 < f) (x : Int32) : PairR (p_C_good f σ x) (p_M_good f σ x) := by
  obtain ⟨n, np, nA, nS, ord, hm, hj⟩ := (h.q (agq0 (v := 0))).mdh
  have hn : n ≤ 60 := hm.1.1
  have e42 : σ 42 9 = nI n := by have := hm.1.2.1; rw [mu_k (by decide)] at this; exact this
  have e21 := hm.2.2.2.2.1
  have h46 : (qmu σ 104 0 0) 46 = σ 46 := funext fun j => mu_k (by decide)
  by_cases c1 : rg x 0 ((n : Int) - 1)
  · obtain ⟨l, hl, rfl⟩ := rg_p c1 (by omega)
    obtain ⟨r, e, hr, hg⟩ := judge_m (f := f) hm hj hf
    have h01 := good01 hm.1 hj hl
    rw [h46] at h01
    have hq := qin_nI (k := l) (n := 60) (by omega) (by omega)
    have hi : (nI l).toNatClampNeg = l := qi_nI (by omega)
    have hrl : r 115 l = σ 46 l := by rw [hg l hl, h46]
    refine ⟨σ 46 l, r, ?_, ?_, (h.thr 0).scr (j115 hr)⟩
    · rcases h01 with q | q <;> simp [p_C_good, p_Lines_size, outL, e42, nI_m1 (show n ≤ 1000 by omega), c1, p_Lines_isGood, hq, hi, q, zn_0, zn_1]
    · rcases h01 with q | q <;> simp [p_M_good, inL, e21, nI_m1 (show n ≤ 1000 by omega), c1, e, hq, hi, hrl, q]
  · refine badR (r := -1000001) h ?_ ?_
    · simp [p_C_good, p_Lines_size, outL, e42, nI_m1 (show n ≤ 1000 by omega), c1]
    · simp [p_M_good, inL, e21, nI_m1 (show n ≤ 1000 by omega), c1]
