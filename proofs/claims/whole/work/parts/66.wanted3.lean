theorem imin {a b : Nat} (ha : a < 2 ^ 31) (hb : b < 2 ^ 31) : (if nI a < nI b then nI a else nI b) = nI (min b a) := by
  by_cases c : a < b
  · rw [if_pos (nI_lt c hb), Nat.min_eq_right (by omega)]
  · rw [if_neg (nI_nlt (by omega) ha), Nat.min_eq_left (by omega)]
theorem mvd_u {σ : qMem} {n m u : Nat} (h : feOk n m (σ 30) (σ 31) (σ 110) (σ 111)) (hu : u < m) : (σ 31 u = 1 ∧ mvd σ m (dn σ u) = nxF (occ σ m) (10000 - dn σ u) (dn σ u)) ∨ (¬ σ 31 u = 1 ∧ mvd σ m (dn σ u) = 10001) := by
  have hr : rkF (σ 30) (σ 31) (nI (dn σ u)) m = σ 31 u := rkF_u h.2.1 hu (dn_ok h hu).1
  rcases rg12 (h.1 u hu).2 with e | e
  · exact Or.inl ⟨e, mvd_1 (hr.trans e)⟩
  · exact Or.inr ⟨by rw [e]; decide, mvd_2 (hr.trans e)⟩
theorem wanted_c {f : Nat} {σ : qMem} {n m F T E hi : Nat} (hm : σ 29 2 = nI m) (hm2 : m ≤ 30) (h : feOk n m (σ 30) (σ 31) (σ 110) (σ 111)) (bF : F ≤ 9999) (bT : T ≤ 9999) (bE : 1 ≤ E) (bE2 : E ≤ 360) (bh : hi ≤ 9999) (hf : 100 < f) : p_Feasts_wantedTill f σ (nI F) (nI T) (nI E) (nI hi) = some (nI (wN σ m F T E 0 hi)) := by
  have hcnt := bad_cnt (F := F) (T := T) (E := E) (hi := hi) h (by omega) bh
  unfold p_Feasts_wantedTill
  rw [if_neg (by exact nI_nlt (a := E) (b := 1) (by omega) (by omega)), imin (by omega) (by omega)]
  by_cases c : F ≤ min T hi
  · have hKd : wK F T E hi = (min T hi - F) / E + 1 := by unfold wK; rw [if_pos c]
    have hd : (nI (min T hi) - nI F) / nI E + 1 = nI (wK F T E hi) := by
      rw [pk_sub c, pk_div (by omega) (by omega) (by omega), nI_1, hKd]
    rw [if_pos (nI_le c (by omega)), if_neg (nI_ne0 (by omega) (by omega)), hd]
    obtain ⟨i0, h0, h1, h2⟩ := pos_ex (σ 30) (nI (min T hi + 1)) m
    have hlt : ∀ u, u < i0 → dn σ u ≤ min T hi := fun u hu => by
      have q := dn_ok h (show u < m by omega)
      have := h1 u hu
      rw [q.1, nI_ltI (by omega) (by omega)] at this
      omega
    have hge : ∀ u, i0 ≤ u → u < m → min T hi < dn σ u := fun u q1 q2 => by
      have q := dn_ok h (show i0 < m by omega)
      have := h2 (by omega)
      rw [q.1, nI_leI (by omega) (by omega)] at this
      by_cases e : u = i0
      · rw [e]; omega
      · have := dn_lt h (u := i0) (v := u) (by omega) q2
        omega
    have htl : sm (fun u => bI (badU σ m F (min T hi) E hi u)) m = sm (fun u => bI (badU σ m F (min T hi) E hi u)) i0 := by
      refine sm_tail h0 (fun u q1 q2 => ?_)
      have := hge u q1 q2
      simp [badU, bI]
      intro q
      omega
    have hh := run2x (F := p_Feasts_wantedTill_l34 f σ (nI F) (nI E) (nI hi) (nI (min T hi))) (n := i0) (f := f) (fun i => nI (wK F T E hi - sm (fun u => bI (badU σ m F (min T hi) E hi u)) i)) (fun i => nI i) (r := nI (wN σ m F T E 0 hi)) (by omega) ?_ ?_
    · exact hh
    · intro k
      unfold p_Feasts_wantedTill_l34
      rw [hm]
      have hv : wK F T E hi - sm (fun u => bI (badU σ m F (min T hi) E hi u)) i0 = wN σ m F T E 0 hi := by omega
      rw [hv]
      refine ite_t (fun _ => rfl) (fun q => ?_)
      have q' : i0 < m := Nat.lt_of_not_le fun w => q (nI_le w (by omega))
      rw [if_pos (qin_nI (by omega) (by omega)), qi_nI (by omega), (dn_ok h q').1, if_pos (nI_lt (hge i0 (Nat.le_refl _) q') (by have := (dn_ok h q').2; omega))]
    · intro k i hi2
      have hd1 := dn_ok h (show i < m by omega)
      have hle := hlt i hi2
      have hq := qin_nI (k := i) (n := 30) (by omega) (by omega)
      have hbeh := behind_c (f := f) hm hm2 h (show i < m by omega) hf
      have hmono : sm (fun u => bI (badU σ m F (min T hi) E hi u)) (i + 1) ≤ wK F T E hi := by
        have := sm_mono (g := fun u => bI (badU σ m F (min T hi) E hi u)) (a := i + 1) (n := m) (by omega)
        omega
      have hsame : badU σ m F (min T hi) E hi i = false → nI (wK F T E hi - sm (fun u => bI (badU σ m F (min T hi) E hi u)) i) = nI (wK F T E hi - sm (fun u => bI (badU σ m F (min T hi) E hi u)) (i + 1)) := by
        intro e
        show _ = nI (wK F T E hi - (sm (fun u => bI (badU σ m F (min T hi) E hi u)) i + bI (badU σ m F (min T hi) E hi i)))
        rw [e]
        rfl
      have hless : badU σ m F (min T hi) E hi i = true → nI (wK F T E hi - sm (fun u => bI (badU σ m F (min T hi) E hi u)) i) + (-1) = nI (wK F T E hi - sm (fun u => bI (badU σ m F (min T hi) E hi u)) (i + 1)) := by
        intro e
        have e2 : sm (fun u => bI (badU σ m F (min T hi) E hi u)) (i + 1) = sm (fun u => bI (badU σ m F (min T hi) E hi u)) i + 1 := by
          show sm (fun u => bI (badU σ m F (min T hi) E hi u)) i + bI (badU σ m F (min T hi) E hi i) = _
          rw [e]
          rfl
        rw [e2] at hmono ⊢
        have := pk_m1 (wK F T E hi - (sm (fun u => bI (badU σ m F (min T hi) E hi u)) i + 1))
        rw [show wK F T E hi - (sm (fun u => bI (badU σ m F (min T hi) E hi u)) i + 1) + 1 = wK F T E hi - sm (fun u => bI (badU σ m F (min T hi) E hi u)) i by omega] at this
        exact this
      have hb113 : ∀ w x8, x8 = 0 → p_Feasts_wantedTill_b85 f k σ (nI F) (nI E) (nI hi) (nI (min T hi)) w (nI i) x8 = k w (nI (i + 1)) := by
        intro w x8 hx
        unfold p_Feasts_wantedTill_b85 p_Feasts_wantedTill_b113 p_Feasts_wantedTill_b114
        rw [if_pos hq, qi_nI (by omega), hx, hbeh, Option.bind_some, nI_1]
        simp
      have hb85 : ∀ w, p_Feasts_wantedTill_b85 f k σ (nI F) (nI E) (nI hi) (nI (min T hi)) w (nI i) 1 = if mvd σ m (dn σ i) ≤ hi then k w (nI (i + 1)) else k (w + (-1)) (nI (i + 1)) := by
        intro w
        unfold p_Feasts_wantedTill_b85 p_Feasts_wantedTill_b113 p_Feasts_wantedTill_b114
        rw [if_pos hq, qi_nI (by omega), hbeh, Option.bind_some, nI_1]
        rcases mvd_u h (show i < m by omega) with ⟨q1, q2⟩ | ⟨q1, q2⟩
        · rw [q2, if_pos q1]
          have hnb := nxF_le (o := occ σ m) (s := 10000 - dn σ i) (d := dn σ i)
          by_cases w2 : nxF (occ σ m) (10000 - dn σ i) (dn σ i) ≤ hi
          · rw [if_pos w2, if_neg (nI_nlt w2 (by omega))]
            simp
          · rw [if_neg w2, if_pos (nI_lt (by omega) (by omega))]
            simp
        · have w3 : ¬ 10001 ≤ hi := by omega
          rw [if_neg q1, q2, if_neg w3]
          simp
      unfold p_Feasts_wantedTill_l34 p_Feasts_wantedTill_b84
      simp only [hm, if_neg (show ¬ nI m ≤ nI i from nI_ge (by omega) (by omega)), if_pos hq, qi_nI (show i < 2 ^ 31 by omega), hd1.1, if_neg (show ¬ nI (min T hi) < nI (dn σ i) from nI_nlt hle (by omega)), if_neg (show ¬ nI E = 0 from nI_ne0 (by omega) (by omega))]
      by_cases c1 : dn σ i < F
      · rw [if_pos (nI_lt c1 (by omega)), hb113 _ _ rfl, hsame (by simp [badU, show ¬ F ≤ dn σ i by omega])]
      · rw [if_neg (nI_nlt (by omega) (by omega)), pk_sub (by omega), pk_rem (by omega) (by omega) (by omega)]
        by_cases c2 : (dn σ i - F) % E = 0
        · rw [c2, if_pos (show nI 0 = 0 from rfl), hb85]
          by_cases c3 : mvd σ m (dn σ i) ≤ hi
          · rw [if_pos c3, hsame (by simp [badU, c3])]
          · rw [if_neg c3, hless (by simp [badU, c2, show mvd σ m (dn σ i) > hi by omega]; omega)]
        · have hmod := Nat.mod_lt (dn σ i - F) (show E > 0 by omega)
          rw [if_neg (nI_ne0 (by omega) (by omega)), hb113 _ _ rfl, hsame (by simp [badU, c2])]
  · have hK0 : wK F T E hi = 0 := by unfold wK; rw [if_neg c]
    rw [if_neg (nI_ge (by omega) (by omega))]
    rw [hK0] at hcnt
    rw [show wN σ m F T E 0 hi = 0 by omega]
    rfl
theorem wN_split {σ : qMem} {m F T E lo hi : Nat} (hE : 0 < E) (bT : T ≤ 9999) (hl : lo + 1 ≤ hi) : wN σ m F T E 0 hi = wN σ m F T E 0 lo + wN σ m F T E (lo + 1) hi := by
  have hge : ∀ d, d ≤ 9999 → d ≤ mvd σ m d := by
    intro d hd
    unfold mvd
    by_cases c : rkF (σ 30) (σ 31) (nI d) m = 2
    · rw [if_pos c]; omega
    · rw [if_neg c]
      by_cases c2 : rkF (σ 30) (σ 31) (nI d) m = 0
      · rw [if_pos c2]; exact Nat.le_refl _
      · rw [if_neg c2]; exact nxF_le.1
  have hKK : wK F T E lo ≤ wK F T E hi := by
    rcases Nat.lt_or_ge (wK F T E hi) (wK F T E lo) with q | q
    · exfalso
      have h1 := (wK_lt hE (F := F) (T := T) (hi := lo)).mp q
      have h2 : ¬ F + wK F T E hi * E ≤ min T hi := fun w => absurd ((wK_lt hE).mpr w) (Nat.lt_irrefl _)
      omega
    · exact q
  have e1 : wN σ m F T E 0 lo = sm (fun j => bI (gdB σ m 0 lo (F + j * E))) (wK F T E hi) := by
    unfold wN
    refine (sm_tail hKK (fun j q1 q2 => ?_)).symm
    have h1 := (wK_lt hE).mp q2
    have h2 : ¬ F + j * E ≤ min T lo := fun w => absurd ((wK_lt hE).mpr w) (by omega)
    have h3 := hge (F + j * E) (by omega)
    simp [gdB, bI]
    intro q
    omega
  rw [e1]
  unfold wN
  rw [← sm_add]
  refine sm_cg (fun j hj => ?_)
  unfold gdB bI
  by_cases c1 : mvd σ m (F + j * E) ≤ lo
  · have c3 : mvd σ m (F + j * E) ≤ hi := by omega
    by_cases c2 : mvd σ m (F + j * E) ≤ 9999
    · simp [c1, c2, c3, show ¬ lo + 1 ≤ mvd σ m (F + j * E) by omega]
    · simp [c2]
  · by_cases c2 : mvd σ m (F + j * E) ≤ 9999
    · simp [c1, c2, show lo + 1 ≤ mvd σ m (F + j * E) by omega]
    · simp [c2]
theorem wN_cut {σ : qMem} {m F T E lo hi : Nat} (bT : T ≤ 9999) (h : 9999 ≤ hi) : wN σ m F T E lo hi = wN σ m F T E lo 9999 := by
  unfold wN wK
  rw [show min T hi = min T 9999 by omega]
  refine sm_cg (fun j _ => ?_)
  unfold gdB
  by_cases c : mvd σ m (F + j * E) ≤ 9999
  · simp [c, show mvd σ m (F + j * E) ≤ hi by omega]
  · simp [c]
