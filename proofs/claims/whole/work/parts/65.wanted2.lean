def wK (F T E hi : Nat) : Nat := if F ≤ min T hi then (min T hi - F) / E + 1 else 0
theorem wK_lt {F T E hi j : Nat} (hE : 0 < E) : j < wK F T E hi ↔ F + j * E ≤ min T hi := by
  unfold wK
  by_cases c : F ≤ min T hi
  · rw [if_pos c]
    have := Nat.le_div_iff_mul_le hE (x := j) (y := min T hi - F)
    omega
  · rw [if_neg c]
    constructor
    · intro h; omega
    · intro h
      have : F ≤ F + j * E := Nat.le_add_right _ _
      omega
theorem wK_le {F T E hi : Nat} : wK F T E hi ≤ T + 1 := by
  unfold wK
  by_cases c : F ≤ min T hi
  · rw [if_pos c]
    have := Nat.div_le_self (min T hi - F) E
    omega
  · rw [if_neg c]; omega
def gdB (σ : qMem) (m lo hi d : Nat) : Bool := decide (lo ≤ mvd σ m d) && (decide (mvd σ m d ≤ hi) && decide (mvd σ m d ≤ 9999))
def wN (σ : qMem) (m F T E lo hi : Nat) : Nat := sm (fun j => bI (gdB σ m lo hi (F + j * E))) (wK F T E hi)
theorem wants_m {f : Nat} {σ : qMem} {n m p F T E lo hi : Nat} (hn : σ 104 18 = nI n) (hn2 : n ≤ 30) (h : feOk n m (σ 30) (σ 31) (σ 110) (σ 111)) (hr : rowEq σ p) (hp : p < 12) (hF : σ (15 + p) 5 = nI F) (hT : σ (15 + p) 6 = nI T) (hE : σ (15 + p) 4 = nI E) (bF : F ≤ 9999) (bT : T ≤ 9999) (bE : 1 ≤ E) (bE2 : E ≤ 360) (bl : lo ≤ 20000) (bh : hi ≤ 20000) (hf : 30000 < f) : p_M_wantsIn f σ (nI p) (nI lo) (nI hi) = some (nI (wN σ m F T E lo hi)) := by
  have o5 : p_M_of f σ (nI p) 5 = some (nI F) := by rw [← hF]; exact of_r (j := 5) hr hp (by omega)
  have o6 : p_M_of f σ (nI p) 6 = some (nI T) := by rw [← hT]; exact of_r (j := 6) hr hp (by omega)
  have o4 : p_M_of f σ (nI p) 4 = some (nI E) := by rw [← hE]; exact of_r (j := 4) hr hp (by omega)
  unfold p_M_wantsIn
  rw [o5, Option.bind_some]
  have hK : wK F T E hi ≤ 10000 := Nat.le_trans wK_le (by omega)
  have hh := run2x (F := p_M_wantsIn_l11 f σ (nI p) (nI lo) (nI hi)) (n := wK F T E hi) (f := f) (fun j => nI (sm (fun j => bI (gdB σ m lo hi (F + j * E))) j)) (fun j => nI (F + j * E)) (r := nI (wN σ m F T E lo hi)) (by omega) ?_ ?_
  · refine Eq.trans ?_ hh
    congr 1
    rw [Nat.zero_mul, Nat.add_zero]
  · intro k
    have hge : ¬ F + wK F T E hi * E ≤ min T hi := fun q => absurd ((wK_lt (by omega)).mpr q) (Nat.lt_irrefl _)
    have hb : F + wK F T E hi * E ≤ 9999 + 10000 * 360 := Nat.add_le_add bF (Nat.mul_le_mul hK bE2)
    unfold p_M_wantsIn_l11
    rw [o6, Option.bind_some]
    refine ite_t (fun _ => rfl) (fun c1 => ite_t (fun _ => rfl) (fun c2 => ?_))
    exfalso
    rw [nI_ltI (by omega) (by omega)] at c1 c2
    omega
  · intro k j hj
    have hle := (wK_lt (by omega)).mp hj
    have c1 : ¬ nI T < nI (F + j * E) := nI_nlt (by omega) (by omega)
    have c2 : ¬ nI hi < nI (F + j * E) := nI_nlt (by omega) (by omega)
    have hmv := moved_m (f := f) (d := F + j * E) hn hn2 h (by omega) (by omega)
    have hx : nI (F + j * E) + nI E = nI (F + (j + 1) * E) := by rw [nI_add, Nat.succ_mul, Nat.add_assoc]
    have hsum : ∀ b : Nat, bI (gdB σ m lo hi (F + j * E)) = b → nI (sm (fun j => bI (gdB σ m lo hi (F + j * E))) j) + nI b = nI (sm (fun j => bI (gdB σ m lo hi (F + j * E))) (j + 1)) := by
      intro b hb
      rw [nI_add, ← hb]
      rfl
    unfold p_M_wantsIn_l11 p_M_wantsIn_b62 p_M_wantsIn_b63
    simp only [o6, o4, Option.bind_some, if_neg c1, if_neg c2, hmv, hx]
    by_cases c3 : mvd σ m (F + j * E) ≤ 9999
    · rw [if_pos c3, if_neg (fun e => by have := congrArg Int32.toInt e; rw [nI_toInt (by omega)] at this; have z : (-1000000 : Int32).toInt = -1000000 := rfl; omega)]
      by_cases c4 : mvd σ m (F + j * E) < lo
      · rw [if_pos (nI_lt c4 (by omega))]
        rw [← hsum 0 (by unfold bI gdB; rw [if_neg (by simp; omega)])]
        rfl
      · rw [if_neg (nI_nlt (by omega) (by omega))]
        by_cases c5 : hi < mvd σ m (F + j * E)
        · rw [if_pos (nI_lt c5 (by omega))]
          rw [← hsum 0 (by unfold bI gdB; rw [if_neg (by simp; omega)])]
          rfl
        · rw [if_neg (nI_nlt (by omega) (by omega))]
          rw [← hsum 1 (by unfold bI gdB; rw [if_pos (by simp; omega)])]
          rfl
    · rw [if_neg c3, if_pos rfl]
      rw [← hsum 0 (by unfold bI gdB; rw [if_neg (by simp; omega)])]
      rfl
/-! the class counts at one stroke -/
def dn (σ : qMem) (u : Nat) : Nat := qi (σ 30 u)
theorem dn_ok {n m : Nat} {σ : qMem} (h : feOk n m (σ 30) (σ 31) (σ 110) (σ 111)) {u : Nat} (hu : u < m) : σ 30 u = nI (dn σ u) ∧ dn σ u ≤ 9999 := by
  obtain ⟨k, hk, e⟩ := rg_nat (b := 9999) (h.1 u hu).1
  unfold dn
  rw [e, qi_nI (by omega)]
  exact ⟨rfl, hk⟩
theorem dn_lt {n m : Nat} {σ : qMem} (h : feOk n m (σ 30) (σ 31) (σ 110) (σ 111)) {u v : Nat} (huv : u < v) (hv : v < m) : dn σ u < dn σ v := by
  have h1 := dn_ok h (show u < m by omega)
  have h2 := dn_ok h hv
  have := h.2.1 u v huv hv
  rw [h1.1, h2.1] at this
  exact (nI_ltI (by omega) (by omega)).mp this
theorem run_ex (P : Nat → Prop) : ∀ B : Nat, (¬ P B) → ∃ c, c ≤ B ∧ (∀ t, t < c → P t) ∧ ¬ P c
  | 0, h => ⟨0, Nat.le_refl _, fun t ht => absurd ht (Nat.not_lt_zero _), h⟩
  | B + 1, h => by
    by_cases c0 : P 0
    · obtain ⟨c, h1, h2, h3⟩ := run_ex (fun t => P (t + 1)) B h
      refine ⟨c + 1, by omega, fun t ht => ?_, h3⟩
      cases t with
      | zero => exact c0
      | succ t => exact h2 t (by omega)
    · exact ⟨0, by omega, fun t ht => absurd ht (Nat.not_lt_zero _), c0⟩
theorem behind_c {f : Nat} {σ : qMem} {n m u : Nat} (hm : σ 29 2 = nI m) (hm2 : m ≤ 30) (h : feOk n m (σ 30) (σ 31) (σ 110) (σ 111)) (hu : u < m) (hf : 100 < f) : p_Feasts_dayBehind f σ (nI u) = some (nI (nxF (occ σ m) (10000 - dn σ u) (dn σ u))) := by
  obtain ⟨c, hc, h1, h2⟩ := run_ex (fun t => u + t < m ∧ dn σ (u + t) = dn σ u + t) m (fun q => by omega)
  have hc0 : 0 < c := by
    rcases Nat.eq_zero_or_pos c with e | e
    · subst e
      exact absurd ⟨hu, rfl⟩ h2
    · exact e
  have hlast := h1 (c - 1) (by omega)
  have hb := (dn_ok h hlast.1).2
  have hnx : nxF (occ σ m) (10000 - dn σ u) (dn σ u) = dn σ u + c := by
    refine nxF_run (by omega) (fun t ht => ?_) ?_
    · obtain ⟨q1, q2⟩ := h1 t ht
      unfold occ
      rw [← q2, ← (dn_ok h q1).1, rkF_u h.2.1 q1 rfl]
      rcases rg12 (h.1 _ q1).2 with e | e <;> rw [e] <;> decide
    · right
      unfold occ
      rw [rkF_0]
      · simp
      · intro v hv e
        rw [(dn_ok h hv).1] at e
        have hv2 := (dn_ok h hv).2
        have e' : dn σ v = dn σ u + c := (nI_eq (by omega) (by omega)).mp e
        by_cases w : v ≤ u + (c - 1)
        · have : dn σ v ≤ dn σ (u + (c - 1)) := by
            by_cases w2 : v = u + (c - 1)
            · rw [w2]; exact Nat.le_refl _
            · exact Nat.le_of_lt (dn_lt h (by omega) hlast.1)
          omega
        · by_cases w2 : v = u + c
          · subst w2
            exact h2 ⟨hv, e'⟩
          · have g1 := dn_lt h (u := u + (c - 1)) (v := u + c) (by omega) (by omega)
            have g2 := dn_lt h (u := u + c) (v := v) (by omega) hv
            omega
  unfold p_Feasts_dayBehind
  rw [if_pos (qin_nI (by omega) (by omega)), qi_nI (by omega), (dn_ok h hu).1, nI_1, nI_1, hnx]
  have hh := run2x (F := p_Feasts_dayBehind_l13 f σ) (n := c - 1) (f := f) (fun t => nI (dn σ u + 1 + t)) (fun t => nI (u + 1 + t)) (r := nI (dn σ u + c)) (by omega) ?_ ?_
  · exact hh
  · intro k
    rw [show dn σ u + 1 + (c - 1) = dn σ u + c by omega, show u + 1 + (c - 1) = u + c by omega]
    unfold p_Feasts_dayBehind_l13
    rw [hm]
    refine ite_t (fun _ => rfl) (fun q => ?_)
    have q' : u + c < m := Nat.lt_of_not_le fun w => q (nI_le w (by omega))
    rw [if_pos (qin_nI (by omega) (by omega)), qi_nI (by omega), (dn_ok h q').1, if_neg]
    intro e
    have hv2 := (dn_ok h q').2
    exact h2 ⟨q', (nI_eq (by omega) (by omega)).mp e⟩
  · intro k t ht
    have q := h1 (t + 1) (by omega)
    unfold p_Feasts_dayBehind_l13
    rw [hm, if_neg (nI_ge (by omega) (by omega)), if_pos (qin_nI (by omega) (by omega)), qi_nI (by omega), show u + 1 + t = u + (t + 1) by omega, (dn_ok h q.1).1, q.2, show dn σ u + 1 + t = dn σ u + (t + 1) by omega, if_pos rfl, nI_1, nI_1, show dn σ u + (t + 1) + 1 = dn σ u + 1 + (t + 1) by omega, show u + (t + 1) + 1 = u + 1 + (t + 1) by omega]
def badU (σ : qMem) (m F L E hi u : Nat) : Bool := decide (dn σ u ≤ L) && (decide (F ≤ dn σ u) && (decide ((dn σ u - F) % E = 0) && !decide (mvd σ m (dn σ u) ≤ hi)))
theorem bad_cnt {σ : qMem} {n m F T E hi : Nat} (h : feOk n m (σ 30) (σ 31) (σ 110) (σ 111)) (hE : 0 < E) (hh : hi ≤ 9999) : wN σ m F T E 0 hi + sm (fun u => bI (badU σ m F (min T hi) E hi u)) m = wK F T E hi := by
  have e1 : sm (fun u => bI (badU σ m F (min T hi) E hi u)) m = sm (fun j => bI (!gdB σ m 0 hi (F + j * E))) (wK F T E hi) := by
    have s1 : sm (fun j => bI (!gdB σ m 0 hi (F + j * E))) (wK F T E hi) = sm (fun j => sm (fun u => bI (decide (dn σ u = F + j * E) && !decide (mvd σ m (dn σ u) ≤ hi))) m) (wK F T E hi) := by
      refine sm_cg (fun j hj => ?_)
      have hle := (wK_lt hE).mp hj
      have hg : ∀ d, gdB σ m 0 hi d = decide (mvd σ m d ≤ hi) := by
        intro d
        unfold gdB
        by_cases c : mvd σ m d ≤ hi
        · simp [c]; omega
        · simp [c]
      by_cases c : ∃ u, u < m ∧ dn σ u = F + j * E
      · obtain ⟨u, hu, he⟩ := c
        rw [sm_one (a := u) hu (fun i hi2 hne => ?_), hg]
        · simp [he]
        · have : dn σ i ≠ F + j * E := by
            rw [← he]
            rcases Nat.lt_or_gt_of_ne hne with q | q
            · have := dn_lt h q hu; omega
            · have := dn_lt h q hi2; omega
          simp [this, bI]
      · rw [sm_0 (fun u hu => ?_), hg]
        · have : rkF (σ 30) (σ 31) (nI (F + j * E)) m = 0 := rkF_0 (fun u hu e => by
            have q := dn_ok h hu
            rw [q.1] at e
            exact c ⟨u, hu, (nI_eq (by omega) (by omega)).mp e⟩)
          rw [mvd_0 this]
          simp [bI, show F + j * E ≤ hi by omega]
        · have : dn σ u ≠ F + j * E := fun e => c ⟨u, hu, e⟩
          simp [this, bI]
    rw [s1, sm_swap]
    refine sm_cg (fun u hu => ?_)
    by_cases c : dn σ u ≤ min T hi ∧ F ≤ dn σ u ∧ (dn σ u - F) % E = 0
    · have hd : F + (dn σ u - F) / E * E = dn σ u := by
        have := Nat.div_add_mod (dn σ u - F) E
        rw [c.2.2, Nat.mul_comm] at this
        omega
      have hj : (dn σ u - F) / E < wK F T E hi := (wK_lt hE).mpr (by rw [hd]; exact c.1)
      rw [sm_one (a := (dn σ u - F) / E) hj (fun i hi2 hne => ?_), hd]
      · unfold badU
        simp [c]
      · have : dn σ u ≠ F + i * E := by
          intro e
          apply hne
          rw [e, show F + i * E - F = i * E by omega, Nat.mul_div_cancel _ hE]
        simp [this, bI]
    · have : badU σ m F (min T hi) E hi u = false := by
        unfold badU
        by_cases c1 : dn σ u ≤ min T hi
        · by_cases c2 : F ≤ dn σ u
          · by_cases c3 : (dn σ u - F) % E = 0
            · exact absurd ⟨c1, c2, c3⟩ c
            · simp [c3]
          · simp [c2]
        · simp only [c1, decide_false, Bool.false_and]
      rw [this, sm_0 (fun j hj => ?_)]
      · rfl
      · have hle := (wK_lt hE).mp hj
        have : dn σ u ≠ F + j * E := by
          intro e
          apply c
          rw [e]
          refine ⟨hle, Nat.le_add_right _ _, ?_⟩
          rw [show F + j * E - F = j * E by omega, Nat.mul_mod_left]
        simp [this, bI]
  rw [e1]
  exact sm_cnt (fun j => gdB σ m 0 hi (F + j * E)) _
