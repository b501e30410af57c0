/-! vacant: the whole call -/
def vaF (σ : qMem) (g : Nat → Int32) (i b p w : Nat) (y : Int32) : qMem := vmM (qmu (qmu (qmu (qmu (qmu (vcM σ g i p y w) 0 16 0) 104 0 0) 104 1 0) 133 p y) 134 p (nI w)) b p (2 * w)
theorem vaF_agr {σ : qMem} {g : Nat → Int32} {i b p w : Nat} {y : Int32} (hp : p < 12) (hw : w ≤ 4) : agr P_na_fi σ (vaF σ g i b p w y) := by
  intro a c hn
  unfold P_na_fi at hn
  unfold vaF vmM qmu vcM
  rw [if_neg (by omega), if_neg (by omega), if_neg (by omega), if_neg (by omega), if_neg (by omega), if_neg (by omega), if_neg (by omega), if_neg (by omega), if_neg (by omega), if_neg (by omega)]
theorem vaF_nm {σ : qMem} {g : Nat → Int32} {i b p w q j : Nat} {y : Int32} (hp : p < 12) (hq : q < 12) : vaF σ g i b p w y (71 + q) j = (if q = p ∧ j < w then g (i + 2 * j) else σ (71 + q) j) ∧ vaF σ g i b p w y (84 + q) j = if q = p ∧ j < w then g (i + 2 * j + 1) else σ (84 + q) j := by
  unfold vaF vmM qmu vcM
  constructor
  · rw [if_neg (by omega), if_neg (by omega), if_neg (by omega), if_neg (by omega), if_neg (by omega), if_neg (by omega)]
    by_cases c : q = p ∧ j < w
    · rw [if_pos c, if_pos (by omega)]
    · rw [if_neg c, if_neg (by omega), if_neg (by omega), if_neg (by omega), if_neg (by omega)]
  · rw [if_neg (by omega), if_neg (by omega), if_neg (by omega), if_neg (by omega), if_neg (by omega), if_neg (by omega), if_neg (by omega)]
    by_cases c : q = p ∧ j < w
    · rw [if_pos c, if_pos (by omega)]
    · rw [if_neg c, if_neg (by omega), if_neg (by omega), if_neg (by omega)]
theorem vaF_135 {σ : qMem} {g : Nat → Int32} {i b p w c : Nat} {y : Int32} (hp : p < 12) : vaF σ g i b p w y 135 c = if 8 * p ≤ c ∧ c < 8 * p + 2 * w then σ 107 (b + (c - 8 * p)) else σ 135 c := by
  have h107 : ∀ j, (qmu (qmu (qmu (qmu (qmu (vcM σ g i p y w) 0 16 0) 104 0 0) 104 1 0) 133 p y) 134 p (nI w)) 107 j = σ 107 j := fun j => by
    unfold qmu vcM
    rw [if_neg (by omega), if_neg (by omega), if_neg (by omega), if_neg (by omega), if_neg (by omega), if_neg (by omega), if_neg (by omega), if_neg (by omega), if_neg (by omega)]
  unfold vaF vmM
  by_cases q : 8 * p ≤ c ∧ c < 8 * p + 2 * w
  · rw [if_pos ⟨rfl, q⟩, if_pos q, h107]
  · rw [if_neg (fun w => q w.2), if_neg q]
    unfold qmu vcM
    rw [if_neg (by omega), if_neg (by omega), if_neg (by omega), if_neg (by omega), if_neg (by omega), if_neg (by omega), if_neg (by omega), if_neg (by omega), if_neg (by omega)]
theorem vaF_u {σ : qMem} {g : Nat → Int32} {i b p w c : Nat} {y : Int32} (hp : p < 12) : vaF σ g i b p w y 68 c = (if c = p then y else σ 68 c) ∧ vaF σ g i b p w y 69 c = (if c = p then nI w else σ 69 c) ∧ vaF σ g i b p w y 133 c = (if c = p then y else σ 133 c) ∧ vaF σ g i b p w y 134 c = if c = p then nI w else σ 134 c := by
  unfold vaF vmM qmu vcM
  by_cases q : c = p
  · refine ⟨?_, ?_, ?_, ?_⟩ <;> rw [if_pos q] <;> repeat (first | rw [if_neg (by omega)] | rw [if_pos (by omega)])
  · refine ⟨?_, ?_, ?_, ?_⟩ <;> rw [if_neg q] <;> repeat (first | rw [if_neg (by omega)] | rw [if_pos (by omega)])
theorem vac_inv {σ : qMem} (h : Inv σ) {g : Nat → Int32} {s i p w d np : Nat} (hs : s < 8) (hn : np ≤ 12) (e13 : σ 13 1 = nI np) (hp : p < np) (hw : w ≤ 4) (hiw : i + 2 * w ≤ 60) (hd : d ≤ 9999) (hg : ∀ j, j < 60 → g j = σ 107 (60 * s + j)) (hok : ∀ k, k < w → okV g i k) : Inv (vaF σ g i (60 * s + i) p w (nI d)) := by
  obtain ⟨a1, a2, n, hn2, e13', hrow⟩ := h.na
  have hnn : n = np := (nI_eq (by omega) (by omega)).mp (e13'.symm.trans e13)
  subst hnn
  have hp12 : p < 12 := by omega
  refine h.u_na_fi (vaF_agr hp12 hw) ⟨?_, ?_, n, hn, ?_, ?_⟩ ?_
  · funext c
    obtain ⟨-, k2, -, k4⟩ := vaF_u (σ := σ) (g := g) (i := i) (b := 60 * s + i) (w := w) (c := c) (y := nI d) hp12
    rw [k2, k4, a1]
  · intro q j hq hj
    obtain ⟨k1, k2⟩ := vaF_nm (σ := σ) (g := g) (i := i) (b := 60 * s + i) (w := w) (j := j) (y := nI d) hp12 hq
    rw [k1, k2, vaF_135 hp12, vaF_135 hp12]
    by_cases c : q = p ∧ j < w
    · obtain ⟨rfl, c2⟩ := c
      rw [if_pos (show q = q ∧ j < w from ⟨rfl, c2⟩), if_pos (show q = q ∧ j < w from ⟨rfl, c2⟩), if_pos (by omega), if_pos (by omega), hg _ (by omega), hg _ (by omega), show 60 * s + i + (8 * q + 2 * j - 8 * q) = 60 * s + (i + 2 * j) by omega, show 60 * s + i + (8 * q + 2 * j + 1 - 8 * q) = 60 * s + (i + 2 * j + 1) by omega]
      exact ⟨rfl, rfl⟩
    · rw [if_neg c, if_neg c, if_neg (by omega), if_neg (by omega)]
      exact a2 q j hq hj
  · rw [vaF_agr (σ := σ) hp12 hw 13 1 (by unfold P_na_fi; omega)]
    exact e13
  · intro q hq
    obtain ⟨k1, k2, k3, -⟩ := vaF_u (σ := σ) (g := g) (i := i) (b := 60 * s + i) (w := w) (c := q) (y := nI d) hp12
    rw [k1, k2, k3]
    by_cases c : q = p
    · subst c
      rw [if_pos rfl, if_pos rfl, if_pos rfl]
      refine ⟨fun _ => rfl, Or.inl ⟨d, hp, hd, rfl⟩, w, hw, rfl, fun j hj => ?_⟩
      rw [(vaF_nm (σ := σ) (g := g) (i := i) (b := 60 * s + i) (w := w) (j := j) (y := nI d) hp12 hq).2, if_pos ⟨rfl, hj⟩]
      obtain ⟨t, ht, e⟩ := rg_nat (b := 400) ⟨by have := (hok j hj).2.1; omega, (hok j hj).2.2⟩
      exact ⟨t, ht, e⟩
    · rw [if_neg c, if_neg c, if_neg c]
      obtain ⟨r1, r2, m, hm, em, ht⟩ := hrow q hq
      refine ⟨r1, r2, m, hm, em, fun j hj => ?_⟩
      rw [(vaF_nm (σ := σ) (g := g) (i := i) (b := 60 * s + i) (w := w) (j := j) (y := nI d) hp12 hq).2, if_neg (fun w => c w.1)]
      exact ht j hj
  · show vaF σ g i (60 * s + i) p w (nI d) 0 16 = vaF σ g i (60 * s + i) p w (nI d) 104 1
    unfold vaF vmM qmu
    simp
theorem vacant_ok {f : Nat} {σ : qMem} (h : Inv σ) (hf : 100 < f) (x1 x2 x3 x4 x5 : Int32) : PairW (p_C_vacant f σ x1 x2 x3 x4 x5) (fun s => p_M_vacant f s x1 x2 x3 x4 x5) := by
  obtain ⟨np, hnp, e13, e5⟩ := h.pn
  by_cases c1 : rg x1 0 ((np : Int) - 1)
  · by_cases c2 : rg x2 0 9999
    · by_cases c3 : rg x3 0 7
      · by_cases c4 : rg x5 0 4
        · obtain ⟨p, hp, rfl⟩ := rg_p c1 (by omega)
          obtain ⟨d, hd, rfl⟩ := rg_nat (b := 9999) c2
          obtain ⟨s, hs, rfl⟩ := rg_nat (b := 7) c3
          obtain ⟨w, hw, rfl⟩ := rg_nat (b := 4) c4
          obtain ⟨a1, a2, a3, a4, a5⟩ := h.sh
          obtain ⟨m, hm, em⟩ := a5 s (by omega)
          have hlan := lane_neg h.sh (s := s) (by omega)
          have h2w : (2 : Int32) * nI w = nI (2 * w) := by rw [show (2 : Int32) = nI 2 from rfl, nI_mul]
          have HC : p_C_vacant f σ (nI p) (nI d) (nI s) x4 (nI w) = (p_Sheets_missing f σ (nI s)).bind fun u27 => if u27 = 0 then (p_Sheets_holds f σ (nI s) x4 (nI (2 * w))).bind fun u29 => if u29 = 0 then some (-1000012, qmu σ 0 16 2) else qfix1 (p_C_vacant_l82 f σ (nI p) (nI d) (nI s) x4 (nI w)) f x4 else some (-1000011, qmu σ 0 16 1) := by
            unfold p_C_vacant p_C_found
            rw [hasL e13 hnp, Option.bind_some, if_pos c1, if_neg bad_ne, noDayL, Option.bind_some, if_pos c2, if_pos rfl, noSheetL, Option.bind_some, if_pos c3, if_pos rfl, outL, Option.bind_some, if_pos (show rg (nI w) (0 : Int32).toInt (4 : Int32).toInt from c4), if_pos rfl, h2w]
            rfl
          have HM : ∀ t : qMem, t 104 5 = nI np → p_M_vacant f t (nI p) (nI d) (nI s) x4 (nI w) = (p_M_lookItems f (qmu t 104 0 0) (nI s) x4 (nI (2 * w))).bind fun u19 => if 0 ≤ u19.1 then qfix1 (p_M_vacant_l76 f u19.2 (nI p) (nI d) (nI w) (((60 : Int32) * nI s) + x4)) f 0 else some (u19.1, u19.2) := by
            intro t ht
            unfold p_M_vacant
            rw [isPL (thr_pr ht) hnp, Option.bind_some, if_pos c1, if_neg bad_ne, isDayL, Option.bind_some, if_pos c2, if_neg bad_ne, isSheetL, Option.bind_some, if_pos c3, if_neg bad_ne, inL, Option.bind_some, if_pos (show rg (nI w) (0 : Int64).toInt (4 : Int64).toInt from c4), if_neg bad_ne, h2w]
          by_cases c5 : σ 2 s = -1
          · refine ⟨-1000011, qmu σ 0 16 1, qmu (qmu (qmu σ 0 16 1) 104 0 0) 104 1 1, ?_, ?_, find_ok2 h 1⟩
            · rw [HC, missL (by omega), Option.bind_some, if_pos c5, if_neg (by decide)]
            · show p_M_vacant f _ _ _ _ _ _ = _
              rw [HM _ (by rw [mu_k (by decide)]; exact e5), look_0 (by omega) (by rw [mu_k (by decide), mu_k (by decide), ← a1, hlan.2]; exact fun w => w c5), Option.bind_some, if_neg (show ¬ (0 : Int32) ≤ -1000011 by decide)]
          · by_cases c6 : 0 ≤ x4.toInt ∧ x4.toInt + ((2 * w : Nat) : Int) ≤ m
            · obtain ⟨i, hi, rfl⟩ := rg_nat (x := x4) (b := 60) ⟨c6.1, by omega⟩
              rw [nI_toInt (by omega)] at c6
              have hiw : i + 2 * w ≤ m := by omega
              have hh : p_Sheets_holds f σ (nI s) (nI i) (nI (2 * w)) = some 1 := by
                rw [holdsL (by omega) em hm, if_pos]
                rw [nI_toInt (by omega), nI_toInt (by omega)]
                omega
              have hg : ∀ j, j < 60 → σ (5 + s) j = σ 107 (60 * s + j) := fun j hj => a3 s (by omega) j hj
              have hC := val_c (f := f) (σ := σ) (p := p) (s := s) (i := i) (w := w) (y := nI d) (g := σ (5 + s)) (by omega) (by omega) (by omega) hw (fun _ _ => rfl) hf
              have HC2 : p_C_vacant f σ (nI p) (nI d) (nI s) (nI i) (nI w) = qfix1 (p_C_vacant_l82 f σ (nI p) (nI d) (nI s) (nI i) (nI w)) f (nI i) := by
                rw [HC, missL (by omega), Option.bind_some, if_neg c5, if_pos rfl, hh, Option.bind_some, if_neg (by decide)]
              have HM2 : ∀ t : qMem, t 104 5 = nI np → t 105 = σ 105 → t 106 = σ 106 → p_M_vacant f t (nI p) (nI d) (nI s) (nI i) (nI w) = qfix1 (p_M_vacant_l76 f (qmu t 104 0 0) (nI p) (nI d) (nI w) (nI (60 * s + i))) f 0 := by
                intro t t5 t105 t106
                rw [HM t t5, look_p (m := m) (by omega) (by rw [mu_k (by decide), t105, ← a1, hlan.2]; exact c5) (by rw [mu_k (by decide), t106, ← a2]; exact em) hm hiw, Option.bind_some, if_pos (show (0 : Int32) ≤ 0 by decide), idx60]
              have hkk : ∀ (t : qMem), t 107 = σ 107 → ∀ k, k < w → (okV (t 107) (60 * s + i) k ↔ okV (σ (5 + s)) i k) := fun t ht k hk => by
                unfold okV
                rw [ht, hg _ (by omega), hg _ (by omega), show 60 * s + i + 2 * k = 60 * s + (i + 2 * k) by omega]
                rfl
              by_cases hall : ∀ k, k < w → okV (σ (5 + s)) i k
              · have vk : ∀ a, (a < 68 ∨ 96 ≤ a) → vcM σ (σ (5 + s)) i p (nI d) w a = σ a := fun a ha => funext fun c => by
                  unfold vcM
                  rw [if_neg (by omega), if_neg (by omega), if_neg (by omega), if_neg (by omega)]
                have tk : ∀ a, 96 ≤ a → (qmu (vcM σ (σ (5 + s)) i p (nI d) w) 0 16 0) a = σ a := fun a ha => funext fun c => by
                  rw [mu_k (by omega), vk a (by omega)]
                have t107 : (qmu (qmu (vcM σ (σ (5 + s)) i p (nI d) w) 0 16 0) 104 0 0) 107 = σ 107 := funext fun c => by
                  rw [mu_k (by decide), tk 107 (by omega)]
                refine ⟨nI w, qmu (vcM σ (σ (5 + s)) i p (nI d) w) 0 16 0, vaF σ (σ (5 + s)) i (60 * s + i) p w (nI d), ?_, ?_, vac_inv h (by omega) hnp e13 hp hw (by omega) hd hg hall⟩
                · rw [HC2]
                  exact hC.1 hall
                · show p_M_vacant f _ _ _ _ _ _ = _
                  rw [HM2 _ (by rw [tk 104 (by omega)]; exact e5) (tk 105 (by omega)) (tk 106 (by omega))]
                  have hM := val_m (f := f) (τ := qmu (qmu (vcM σ (σ (5 + s)) i p (nI d) w) 0 16 0) 104 0 0) (p := p) (b := 60 * s + i) (w := w) (y := nI d) (by omega) (by omega) hw hf
                  exact hM.1 (fun k hk => (hkk _ t107 k hk).mpr (hall k hk))
              · obtain ⟨k0, hk0⟩ : ∃ k, ¬ (k < w → okV (σ (5 + s)) i k) := Classical.byContradiction fun q => hall (fun k hk => Classical.byContradiction fun q2 => q ⟨k, fun q3 => q2 (q3 hk)⟩)
                have hk0w : k0 < w := Classical.byContradiction fun q => hk0 (fun q2 => absurd q2 q)
                obtain ⟨c, hc, hcp, hcn⟩ := run_ex (fun k => okV (σ (5 + s)) i k) k0 (fun q => hk0 (fun _ => q))
                have t107 : (qmu σ 104 0 0) 107 = σ 107 := funext fun c => mu_k (by decide)
                have hM := val_m (f := f) (τ := qmu σ 104 0 0) (p := p) (b := 60 * s + i) (w := w) (y := nI d) (by omega) (by omega) hw hf
                refine badW (r := -1000001) h ?_ ?_
                · rw [HC2]
                  exact hC.2 c (by omega) hcp hcn
                · show p_M_vacant f _ _ _ _ _ _ = _
                  rw [HM2 σ e5 rfl rfl]
                  exact hM.2 c (by omega) (fun k hk => (hkk _ t107 k (by omega)).mpr (hcp k hk)) (fun q => hcn ((hkk _ t107 c (by omega)).mp q))
            · have hh : p_Sheets_holds f σ (nI s) x4 (nI (2 * w)) = some 0 := by
                rw [holdsL (by omega) em hm, if_neg]
                rw [nI_toInt (n := 2 * w) (by omega)]
                omega
              refine ⟨-1000012, qmu σ 0 16 2, qmu (qmu (qmu σ 0 16 2) 104 0 0) 104 1 2, ?_, ?_, find_ok2 h 2⟩
              · rw [HC, missL (by omega), Option.bind_some, if_neg c5, if_pos rfl, hh, Option.bind_some, if_pos rfl]
              · show p_M_vacant f _ _ _ _ _ _ = _
                rw [HM _ (by rw [mu_k (by decide)]; exact e5), look_n (m := m) (by omega) (by rw [mu_k (by decide), mu_k (by decide), ← a1, hlan.2]; exact c5) (by rw [mu_k (by decide), mu_k (by decide), ← a2, em]) hm (by omega) c6, Option.bind_some, if_neg (show ¬ (0 : Int32) ≤ -1000012 by decide)]
        · refine badW (r := -1000001) h ?_ ?_
          · simp [p_C_vacant, hasL e13 hnp, c1, noDayL, c2, noSheetL, c3, outL, c4]
          · simp [p_M_vacant, isPL (thr_pr e5) hnp, c1, isDayL, c2, isSheetL, c3, inL, c4]
      · refine badW (r := -1000001) h ?_ ?_
        · simp [p_C_vacant, hasL e13 hnp, c1, noDayL, c2, noSheetL, c3]
        · simp [p_M_vacant, isPL (thr_pr e5) hnp, c1, isDayL, c2, isSheetL, c3]
    · refine badW (r := -1000001) h ?_ ?_
      · simp [p_C_vacant, hasL e13 hnp, c1, noDayL, c2]
      · simp [p_M_vacant, isPL (thr_pr e5) hnp, c1, isDayL, c2]
  · refine badW (r := -1000001) h ?_ ?_
    · simp [p_C_vacant, hasL e13 hnp, c1]
    · simp [p_M_vacant, isPL (thr_pr e5) hnp, c1]
