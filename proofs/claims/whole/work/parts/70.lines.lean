/-! lines told by a sheet -/
theorem look_0 {f : Nat} {σ : qMem} {s : Nat} {x y : Int32} (hs : s < 8) (hl : ¬ 0 ≤ σ 105 s) : p_M_lookItems f σ (nI s) x y = some (-1000011, qmu σ 104 1 1) := by
  have hq := qin_nI (k := s) (n := 8) hs (by omega)
  have hi : qi (nI s) = s := qi_nI (by omega)
  unfold p_M_lookItems
  rw [if_pos hq, hi, if_neg hl]
  rfl
theorem look_n {f : Nat} {σ : qMem} {s m w : Nat} {x : Int32} (hs : s < 8) (hl : 0 ≤ σ 105 s) (hm : σ 106 s = nI m) (hm2 : m ≤ 60) (hw : w ≤ 60) (c : ¬ (0 ≤ x.toInt ∧ x.toInt + w ≤ m)) : p_M_lookItems f σ (nI s) x (nI w) = some (-1000012, qmu σ 104 1 2) := by
  have hq := qin_nI (k := s) (n := 8) hs (by omega)
  have hi : qi (nI s) = s := qi_nI (by omega)
  unfold p_M_lookItems
  rw [if_pos hq, hi, if_pos hl]
  by_cases c1 : x < 0
  · rw [if_pos c1]; rfl
  · rw [if_neg c1, if_pos hq, if_neg]
    · rfl
    · rw [lg_cmp_le, i64_le, lg_add2, tl_int, hm, nI_toInt (by omega), nI_toInt (by omega)]
      rw [i32_lt] at c1
      have h0 : (0 : Int32).toInt = 0 := rfl
      omega
theorem look_p {f : Nat} {σ : qMem} {s m w i : Nat} (hs : s < 8) (hl : 0 ≤ σ 105 s) (hm : σ 106 s = nI m) (hm2 : m ≤ 60) (hi : i + w ≤ m) : p_M_lookItems f σ (nI s) (nI i) (nI w) = some (0, σ) := by
  have hq := qin_nI (k := s) (n := 8) hs (by omega)
  have hi2 : qi (nI s) = s := qi_nI (by omega)
  unfold p_M_lookItems
  rw [if_pos hq, hi2, if_pos hl, if_neg (nI_pos (by omega)), if_pos hq, if_pos]
  rw [lg_cmp_le, i64_le, lg_add2, tl_int, hm, nI_toInt (by omega), nI_toInt (by omega), nI_toInt (by omega)]
  omega
def okT (σ : qMem) (np b k : Nat) : Prop := rg (σ 107 (b + 3 * k)) 0 ((np : Int) - 1) ∧ rg (σ 107 (b + 3 * k + 1)) 0 9999 ∧ rg (σ 107 (b + 3 * k + 2)) 0 4
noncomputable def lcn (σ : qMem) (np b n0 : Nat) : Nat → Nat
  | 0 => n0
  | k + 1 => @ite Nat (okT σ np b k ∧ lcn σ np b n0 k < 60) (Classical.propDecidable _) (lcn σ np b n0 k + 1) (lcn σ np b n0 k)
noncomputable def lcf (σ : qMem) (np b n0 c : Nat) (g : Nat → Int32) : Nat → Nat → Int32
  | 0 => g
  | k + 1 => @ite (Nat → Int32) (okT σ np b k ∧ lcn σ np b n0 k < 60) (Classical.propDecidable _) (upd (lcf σ np b n0 c g k) (lcn σ np b n0 k) (σ 107 (b + 3 * k + c))) (lcf σ np b n0 c g k)
theorem lcn_p {σ : qMem} {np b n0 k : Nat} (c : okT σ np b k ∧ lcn σ np b n0 k < 60) : lcn σ np b n0 (k + 1) = lcn σ np b n0 k + 1 := if_pos c
theorem lcn_n {σ : qMem} {np b n0 k : Nat} (c : ¬ (okT σ np b k ∧ lcn σ np b n0 k < 60)) : lcn σ np b n0 (k + 1) = lcn σ np b n0 k := if_neg c
theorem lcf_p {σ : qMem} {np b n0 k c : Nat} {g : Nat → Int32} (h : okT σ np b k ∧ lcn σ np b n0 k < 60) : lcf σ np b n0 c g (k + 1) = upd (lcf σ np b n0 c g k) (lcn σ np b n0 k) (σ 107 (b + 3 * k + c)) := if_pos h
theorem lcf_n {σ : qMem} {np b n0 k c : Nat} {g : Nat → Int32} (h : ¬ (okT σ np b k ∧ lcn σ np b n0 k < 60)) : lcf σ np b n0 c g (k + 1) = lcf σ np b n0 c g k := if_neg h
theorem lcn_ge {σ : qMem} {np b n0 : Nat} : ∀ k, n0 ≤ lcn σ np b n0 k
  | 0 => Nat.le_refl _
  | k + 1 => by
    have := lcn_ge (σ := σ) (np := np) (b := b) (n0 := n0) k
    by_cases c : okT σ np b k ∧ lcn σ np b n0 k < 60
    · rw [lcn_p c]; omega
    · rw [lcn_n c]; exact this
theorem lcn_le {σ : qMem} {np b n0 : Nat} (h : n0 ≤ 60) : ∀ k, lcn σ np b n0 k ≤ 60
  | 0 => h
  | k + 1 => by
    have := lcn_le (σ := σ) (np := np) (b := b) (n0 := n0) h k
    by_cases c : okT σ np b k ∧ lcn σ np b n0 k < 60
    · rw [lcn_p c]; omega
    · rw [lcn_n c]; exact this
def QL (a b : Nat) : Prop := (43 ≤ a ∧ a ≤ 45) ∨ a = 47 ∨ (a = 42 ∧ b = 9)
def QM (a b : Nat) : Prop := (112 ≤ a ∧ a ≤ 114) ∨ (a = 104 ∧ b = 21)
theorem adM_agr {σ : qMem} {n q : Nat} {x y z : Int32} : agr QL σ (adM σ n q x y z) := by
  intro a b hn
  unfold QL at hn
  unfold adM
  rw [if_neg (by omega), if_neg (by omega), if_neg (by omega), if_neg (by omega), if_neg (by omega)]
theorem lnM_agr {σ : qMem} {n : Nat} {x y z : Int32} : agr QM σ (lnM σ n x y z) := by
  unfold lnM
  repeat (first | exact agr_rf | refine agr_mu ?_ (by unfold QM; omega))
theorem item_c {f : Nat} {σ : qMem} {s i : Nat} (hs : s < 8) (hi : i < 60) : p_Sheets_item f σ (nI s) (nI i) = some (σ (5 + s) i) := by
  unfold p_Sheets_item
  rw [if_pos (qin_nI hs (by omega)), if_pos (qin_nI hi (by omega)), qi_nI (by omega), qi_nI (by omega)]
theorem lines_c {f : Nat} {σ : qMem} {s i w n0 np nA nS : Nat} (hf : 100 < f) (hs : s < 8) (hiw : i + 3 * w ≤ 60) (h3 : ∀ j, j < 60 → σ (5 + s) j = σ 107 (60 * s + j)) (hn0 : n0 ≤ 60) : ∀ (m k : Nat) (τ : qMem) (ord : Nat → Nat) (fu : Nat), k + m = w → m < fu → liH τ (lcn σ np (60 * s + i) n0 k) np nA nS ord → agr QL σ τ → τ 43 = lcf σ np (60 * s + i) n0 0 (σ 43) k → τ 44 = lcf σ np (60 * s + i) n0 1 (σ 44) k → τ 45 = lcf σ np (60 * s + i) n0 2 (σ 45) k → ∃ τ' g ord', qfix3 (p_C_lines_l64 f (nI s) (nI i) (nI w)) fu τ (nI (lcn σ np (60 * s + i) n0 k - n0)) (nI (i + 3 * k)) = some (nI (lcn σ np (60 * s + i) n0 w - n0), qmu (jm τ' g) 0 16 0) ∧ liH τ' (lcn σ np (60 * s + i) n0 w) np nA nS ord' ∧ judged τ' g ord' (lcn σ np (60 * s + i) n0 w) nA nS ∧ agr QL σ τ' ∧ τ' 43 = lcf σ np (60 * s + i) n0 0 (σ 43) w ∧ τ' 44 = lcf σ np (60 * s + i) n0 1 (σ 44) w ∧ τ' 45 = lcf σ np (60 * s + i) n0 2 (σ 45) w
  | 0, k, τ, ord, fu, hk, hfu, hl, ha, e1, e2, e3 => by
    obtain ⟨fu', rfl⟩ : ∃ fu', fu = fu' + 1 := ⟨fu - 1, by omega⟩
    have hkw : k = w := by omega
    subst hkw
    obtain ⟨g, eg, hj⟩ := judge_j (f := f) hl hf
    refine ⟨τ, g, ord, ?_, hl, hj, ha, e1, e2, e3⟩
    rw [qfix3_s]
    unfold p_C_lines_l64
    rw [show (3 : Int32) = nI 3 from rfl, nI_mul, nI_add, if_pos (nI_le (Nat.le_refl _) (by omega)), eg, Option.bind_some]
    rfl
  | m + 1, k, τ, ord, fu, hk, hfu, hl, ha, e1, e2, e3 => by
    obtain ⟨fu', rfl⟩ : ∃ fu', fu = fu' + 1 := ⟨fu - 1, by omega⟩
    have hrow : ∀ j, j < 60 → τ (5 + s) j = σ 107 (60 * s + j) := fun j hj => by rw [ha (5 + s) j (by unfold QL; omega)]; exact h3 j hj
    have hge := lcn_ge (σ := σ) (np := np) (b := 60 * s + i) (n0 := n0) k
    have hle := lcn_le (σ := σ) (np := np) (b := 60 * s + i) hn0 k
    have i0 : p_Sheets_item f τ (nI s) (nI (i + 3 * k)) = some (σ 107 (60 * s + i + 3 * k)) := by
      rw [item_c hs (by omega), hrow _ (by omega), Nat.add_assoc]
    have i1 : p_Sheets_item f τ (nI s) (nI (i + 3 * k) + 1) = some (σ 107 (60 * s + i + 3 * k + 1)) := by
      rw [nI_1, item_c hs (by omega), hrow _ (by omega), show 60 * s + (i + 3 * k + 1) = 60 * s + i + 3 * k + 1 by omega]
    have i2 : p_Sheets_item f τ (nI s) (nI (i + 3 * k) + 2) = some (σ 107 (60 * s + i + 3 * k + 2)) := by
      rw [show (2 : Int32) = nI 2 from rfl, nI_add, item_c hs (by omega), hrow _ (by omega), show 60 * s + (i + 3 * k + 2) = 60 * s + i + 3 * k + 2 by omega]
    have hs3 : nI (i + 3 * k) + 3 = nI (i + 3 * (k + 1)) := by
      rw [show (3 : Int32) = nI 3 from rfl, nI_add, show i + 3 * k + 3 = i + 3 * (k + 1) by omega]
    rw [qfix3_s]
    generalize hK : qfix3 (p_C_lines_l64 f (nI s) (nI i) (nI w)) fu' = K
    unfold p_C_lines_l64
    rw [show nI i + 3 * nI w = nI (i + 3 * w) by rw [show (3 : Int32) = nI 3 from rfl, nI_mul, nI_add], if_neg (nI_ge (by omega) (by omega)), i0, Option.bind_some, i1, Option.bind_some, i2, Option.bind_some, noLineL hl.2.2.2.1 hl.2.2.1, Option.bind_some, hs3]
    by_cases c : okT σ np (60 * s + i) k
    · rw [if_pos (show rg _ _ _ ∧ rg _ _ _ ∧ rg _ _ _ from c), if_pos rfl]
      unfold p_Lines_full
      rw [hl.2.1]
      by_cases c4 : lcn σ np (60 * s + i) n0 k < 60
      · rw [if_pos ((full60 hle).1.mpr c4), Option.bind_some, if_pos rfl]
        obtain ⟨p, hp, ep⟩ := rg_p c.1 (by have := hl.2.2.1; omega)
        obtain ⟨d, hd, ed⟩ := rg_nat (b := 9999) c.2.1
        obtain ⟨t, ht, et⟩ := rg_nat (b := 4) c.2.2
        obtain ⟨q, hq, e, hl1⟩ := add_c (f := f) hl c4 hp hd ht hf
        rw [ep, ed, et, e, Option.bind_some, nI_1]
        have cc := And.intro c c4
        have hst := lines_c hf hs hiw h3 hn0 m (k + 1) (adM τ (lcn σ np (60 * s + i) n0 k) q (nI p) (nI d) (nI t)) _ fu' (by omega) (by omega) (by rw [lcn_p cc]; exact hl1) (agr_tr ha adM_agr) (by rw [adM_43, e1, lcf_p cc, Nat.add_zero, ep]) (by rw [adM_44, e2, lcf_p cc, ed]) (by rw [adM_45, e3, lcf_p cc, et])
        rw [lcn_p cc, hK] at hst
        rw [show lcn σ np (60 * s + i) n0 k - n0 + 1 = lcn σ np (60 * s + i) n0 k + 1 - n0 by omega]
        exact hst
      · rw [if_neg (fun w => c4 ((full60 hle).1.mp w)), Option.bind_some, if_neg (by decide)]
        have cc : ¬ (okT σ np (60 * s + i) k ∧ lcn σ np (60 * s + i) n0 k < 60) := fun w => c4 w.2
        have hst := lines_c hf hs hiw h3 hn0 m (k + 1) τ ord fu' (by omega) (by omega) (by rw [lcn_n cc]; exact hl) ha (by rw [lcf_n cc]; exact e1) (by rw [lcf_n cc]; exact e2) (by rw [lcf_n cc]; exact e3)
        rw [lcn_n cc, hK] at hst
        exact hst
    · rw [if_neg (show ¬ (rg _ _ _ ∧ rg _ _ _ ∧ rg _ _ _) from c), if_neg (by decide)]
      have cc : ¬ (okT σ np (60 * s + i) k ∧ lcn σ np (60 * s + i) n0 k < 60) := fun w => c w.1
      have hst := lines_c hf hs hiw h3 hn0 m (k + 1) τ ord fu' (by omega) (by omega) (by rw [lcn_n cc]; exact hl) ha (by rw [lcf_n cc]; exact e1) (by rw [lcf_n cc]; exact e2) (by rw [lcf_n cc]; exact e3)
      rw [lcn_n cc, hK] at hst
      exact hst
theorem lines_m {f : Nat} {σ τ0 : qMem} {s i w n0 np : Nat} (hs : s < 8) (hiw : i + 3 * w ≤ 60) (hn0 : n0 ≤ 60) (hnp : np ≤ 12) (h107 : τ0 107 = σ 107) (h5 : τ0 104 5 = nI np) : ∀ (m k : Nat) (τ : qMem) (fu : Nat), k + m = w → m < fu → agr QM τ0 τ → τ 104 21 = nI (lcn σ np (60 * s + i) n0 k) → τ 112 = lcf σ np (60 * s + i) n0 0 (σ 43) k → τ 113 = lcf σ np (60 * s + i) n0 1 (σ 44) k → τ 114 = lcf σ np (60 * s + i) n0 2 (σ 45) k → ∃ τ', qfix3 (p_M_lines_l57 f (nI s) (nI i) (nI w)) fu τ (nI (lcn σ np (60 * s + i) n0 k - n0)) (nI k) = some (nI (lcn σ np (60 * s + i) n0 w - n0), τ') ∧ agr QM τ0 τ' ∧ τ' 104 21 = nI (lcn σ np (60 * s + i) n0 w) ∧ τ' 112 = lcf σ np (60 * s + i) n0 0 (σ 43) w ∧ τ' 113 = lcf σ np (60 * s + i) n0 1 (σ 44) w ∧ τ' 114 = lcf σ np (60 * s + i) n0 2 (σ 45) w
  | 0, k, τ, fu, hk, hfu, ha, e0, e1, e2, e3 => by
    obtain ⟨fu', rfl⟩ : ∃ fu', fu = fu' + 1 := ⟨fu - 1, by omega⟩
    have hkw : k = w := by omega
    subst hkw
    refine ⟨τ, ?_, ha, e0, e1, e2, e3⟩
    rw [qfix3_s]
    unfold p_M_lines_l57
    rw [if_pos (nI_le (Nat.le_refl _) (by omega))]
  | m + 1, k, τ, fu, hk, hfu, ha, e0, e1, e2, e3 => by
    obtain ⟨fu', rfl⟩ : ∃ fu', fu = fu' + 1 := ⟨fu - 1, by omega⟩
    have t107 : τ 107 = σ 107 := by rw [← h107]; exact funext fun j => ha 107 j (by unfold QM; omega)
    have t5 : τ 104 5 = nI np := by rw [← h5]; exact ha 104 5 (by unfold QM; omega)
    have hge := lcn_ge (σ := σ) (np := np) (b := 60 * s + i) (n0 := n0) k
    have hle := lcn_le (σ := σ) (np := np) (b := 60 * s + i) hn0 k
    have x0 : ((60 : Int32) * nI s) + nI i + 3 * nI k = nI (60 * s + i + 3 * k) := by
      rw [show (3 : Int32) = nI 3 from rfl, nI_mul, ix3]
    have x2 : nI (60 * s + i + 3 * k) + 2 = nI (60 * s + i + 3 * k + 2) := by rw [show (2 : Int32) = nI 2 from rfl, nI_add]
    rw [qfix3_s]
    generalize hK : qfix3 (p_M_lines_l57 f (nI s) (nI i) (nI w)) fu' = K
    unfold p_M_lines_l57
    rw [if_neg (nI_ge (by omega) (by omega)), x0, x2, nI_1, if_pos (qin_nI (by omega) (by omega)), if_pos (qin_nI (by omega) (by omega)), if_pos (qin_nI (by omega) (by omega)), qi_nI (by omega), qi_nI (by omega), qi_nI (by omega), t107]
    by_cases c : okT σ np (60 * s + i) k
    · by_cases c4 : lcn σ np (60 * s + i) n0 k < 60
      · have cc := And.intro c c4
        rw [line_p t5 hnp c e0 c4, Option.bind_some, if_neg (nI_pos (by omega)), nI_1, nI_1]
        have hst := lines_m (f := f) hs hiw hn0 hnp h107 h5 m (k + 1) (lnM τ (lcn σ np (60 * s + i) n0 k) (σ 107 (60 * s + i + 3 * k)) (σ 107 (60 * s + i + 3 * k + 1)) (σ 107 (60 * s + i + 3 * k + 2))) fu' (by omega) (by omega) (agr_tr ha lnM_agr) (by rw [lcn_p cc]; exact mu_s) (by rw [lcf_p cc, Nat.add_zero, ← e1]; simp [lnM, mu_c]) (by rw [lcf_p cc, ← e2]; simp [lnM, mu_c]) (by rw [lcf_p cc, ← e3]; simp [lnM, mu_c])
        rw [lcn_p cc, hK] at hst
        rw [show lcn σ np (60 * s + i) n0 k - n0 + 1 = lcn σ np (60 * s + i) n0 k + 1 - n0 by omega]
        exact hst
      · have cc : ¬ (okT σ np (60 * s + i) k ∧ lcn σ np (60 * s + i) n0 k < 60) := fun w => c4 w.2
        rw [line_f t5 hnp c e0 (by omega), Option.bind_some, if_pos (show (-1000003 : Int32) < 0 by decide), Int32.add_zero, nI_1]
        have hst := lines_m (f := f) hs hiw hn0 hnp h107 h5 m (k + 1) τ fu' (by omega) (by omega) ha (by rw [lcn_n cc]; exact e0) (by rw [lcf_n cc]; exact e1) (by rw [lcf_n cc]; exact e2) (by rw [lcf_n cc]; exact e3)
        rw [lcn_n cc, hK] at hst
        exact hst
    · have cc : ¬ (okT σ np (60 * s + i) k ∧ lcn σ np (60 * s + i) n0 k < 60) := fun w => c w.1
      rw [line_n t5 hnp c, Option.bind_some, if_pos (show (-1000001 : Int32) < 0 by decide), Int32.add_zero, nI_1]
      have hst := lines_m (f := f) hs hiw hn0 hnp h107 h5 m (k + 1) τ fu' (by omega) (by omega) ha (by rw [lcn_n cc]; exact e0) (by rw [lcf_n cc]; exact e1) (by rw [lcf_n cc]; exact e2) (by rw [lcf_n cc]; exact e3)
      rw [lcn_n cc, hK] at hst
      exact hst
theorem find_ok2 {σ : qMem} (h : Inv σ) (v : Int32) : Inv (qmu (qmu (qmu σ 0 16 v) 104 0 0) 104 1 v) := fi_ok h (by repeat (first | exact agr_rf | refine agr_mu ?_ (by unfold P_fi; omega))) (by simp [mu_c, upd])
theorem lines_ok {f : Nat} {σ : qMem} (h : Inv σ) (hf : 100 < f) (x y z : Int32) : PairW (p_C_lines f σ x y z) (fun s => p_M_lines f s x y z) := by
  by_cases c1 : rg x 0 7
  · by_cases c2 : rg z 1 20
    · obtain ⟨s, hs, rfl⟩ := rg_nat (b := 7) c1
      obtain ⟨w, hw, rfl⟩ := rg_nat (b := 20) ⟨by have := c2.1; omega, c2.2⟩
      obtain ⟨a1, a2, a3, a4, a5⟩ := h.sh
      obtain ⟨m, hm, em⟩ := a5 s (by omega)
      have hlan := lane_neg h.sh (s := s) (by omega)
      have h3w : (3 : Int32) * nI w = nI (3 * w) := by rw [show (3 : Int32) = nI 3 from rfl, nI_mul]
      by_cases c3 : σ 2 s = -1
      · refine ⟨-1000011, qmu σ 0 16 1, qmu (qmu (qmu σ 0 16 1) 104 0 0) 104 1 1, ?_, ?_, find_ok2 h 1⟩
        · simp [p_C_lines, noSheetL, outL, c1, c2, missL (show s < 8 by omega), c3, p_C_found]
        · have := look_0 (f := f) (σ := qmu (qmu σ 0 16 1) 104 0 0) (s := s) (x := y) (y := 3 * nI w) (by omega) (by rw [mu_k (by decide), mu_k (by decide), ← a1, hlan.2]; exact fun w => w c3)
          simp [p_M_lines, isSheetL, inL, c1, c2, this]
      · have hms : p_Sheets_missing f σ (nI s) = some 0 := by rw [missL (by omega), if_neg c3]
        by_cases c4 : 0 ≤ y.toInt ∧ y.toInt + ((3 * w : Nat) : Int) ≤ m
        · obtain ⟨i, hi, rfl⟩ := rg_nat (x := y) (b := 60) ⟨c4.1, by omega⟩
          rw [nI_toInt (by omega)] at c4
          have hiw : i + 3 * w ≤ m := by omega
          have hh : p_Sheets_holds f σ (nI s) (nI i) (nI (3 * w)) = some 1 := by
            rw [holdsL (by omega) em hm, if_pos]
            rw [nI_toInt (by omega), nI_toInt (by omega)]
            omega
          obtain ⟨n, np, nA, nS, ord, hl, b1, b2, b3, b4, -⟩ := h.lih
          obtain ⟨τ', g, ord', q1, q2, q3, q4, q5, q6, q7⟩ := lines_c (f := f) (σ := σ) (s := s) (i := i) (w := w) (n0 := n) (np := np) (nA := nA) (nS := nS) hf (by omega) (by omega) (fun j hj => a3 s (by omega) j hj) hl.1 w 0 σ ord f (by omega) (by omega) hl agr_rf rfl rfl rfl
          have hτ : ∀ a b, ¬ QL a b → a ≠ 46 → ¬ (a = 0 ∧ b = 16) → ¬ (a = 104 ∧ (b = 0 ∨ b = 1)) → (qmu (qmu (qmu (jm τ' g) 0 16 0) 104 0 0) 104 1 0) a b = σ a b := by
            intro a b k1 k2 k3 k4
            have : ∀ {ρ : qMem} {k j : Nat} {v : Int32}, ¬ (a = k ∧ b = j) → qmu ρ k j v a b = ρ a b := fun hne => if_neg hne
            rw [this (by omega), this (by omega), this (by omega), jm_ne k2]
            exact q4 a b k1
          obtain ⟨F, r1, r2, r3, r4, r5, r6⟩ := lines_m (f := f) (σ := σ) (τ0 := qmu (qmu (qmu (jm τ' g) 0 16 0) 104 0 0) 104 1 0) (s := s) (i := i) (w := w) (n0 := n) (np := np) (by omega) (by omega) hl.1 hl.2.2.1 (funext fun j => hτ 107 j (by unfold QL; omega) (by omega) (by omega) (by omega)) (by rw [hτ 104 5 (by unfold QL; omega) (by omega) (by omega) (by omega)]; exact h.np hl.2.2.1 hl.2.2.2.1) w 0 _ f (by omega) (by omega) agr_rf (by rw [hτ 104 21 (by unfold QL; omega) (by omega) (by omega) (by omega)]; exact b4) (by rw [b1]; exact funext fun j => hτ 112 j (by unfold QL; omega) (by omega) (by omega) (by omega)) (by rw [b2]; exact funext fun j => hτ 113 j (by unfold QL; omega) (by omega) (by omega) (by omega)) (by rw [b3]; exact funext fun j => hτ 114 j (by unfold QL; omega) (by omega) (by omega) (by omega))
          rw [show lcn σ np (60 * s + i) n 0 = n from rfl, Nat.sub_self] at q1 r1
          refine ⟨nI (lcn σ np (60 * s + i) n w - n), qmu (jm τ' g) 0 16 0, F, ?_, ?_, ?_⟩
          · have c1' : rg (nI s) 0 7 := c1
            unfold p_C_lines
            rw [noSheetL, Option.bind_some, if_pos c1', if_pos rfl, outL, Option.bind_some, if_pos (show rg (nI w) (1 : Int32).toInt (20 : Int32).toInt from c2), if_pos rfl, hms, Option.bind_some, if_pos rfl, h3w, hh, Option.bind_some, if_neg (by decide)]
            exact q1
          · show p_M_lines f _ _ _ _ = _
            unfold p_M_lines
            have e105 : (qmu (qmu (jm τ' g) 0 16 0) 104 0 0) 105 s = σ 2 s := by
              rw [mu_k (by decide), mu_k (by decide), jm_ne (by decide), q4 105 s (by unfold QL; omega), a1]
            have e106 : (qmu (qmu (jm τ' g) 0 16 0) 104 0 0) 106 s = nI m := by
              rw [mu_k (by decide), mu_k (by decide), jm_ne (by decide), q4 106 s (by unfold QL; omega), ← a2, em]
            rw [isSheetL, Option.bind_some, if_pos c1, if_neg bad_ne, inL, Option.bind_some, if_pos (show rg (nI w) (1 : Int64).toInt (20 : Int64).toInt from c2), if_neg bad_ne, h3w, look_p (m := m) (by omega) (by rw [e105, hlan.2]; exact c3) e106 hm hiw, Option.bind_some, if_pos (show (0 : Int32) ≤ 0 by decide)]
            exact r1
          · have hF : ∀ a b, ¬ QM a b → ¬ QL a b → a ≠ 46 → ¬ (a = 0 ∧ b = 16) → ¬ (a = 104 ∧ (b = 0 ∨ b = 1)) → F a b = σ a b := fun a b k0 k1 k2 k3 k4 => by rw [r2 a b k0]; exact hτ a b k1 k2 k3 k4
            have hF2 : ∀ a, (42 ≤ a ∧ a ≤ 47) → a ≠ 46 → F a = τ' a := fun a k1 k2 => funext fun b => by
              rw [r2 a b (by unfold QM; omega), mu_k (by omega), mu_k (by omega), mu_k (by omega), jm_ne k2]
            refine h.u_li_fi (fun a b hn => ?_) ?_ ?_
            · unfold P_li_fi at hn
              exact hF a b (by unfold QM; omega) (by unfold QL; omega) (by omega) (by omega) (by omega)
            · refine li_mk q2 q3 (fun a b hk => ?_) ?_ ?_ ?_ ?_ r3
              · unfold supS at hk
                by_cases w : 42 ≤ a ∧ a ≤ 47
                · rw [hF2 a w (by omega)]
                · rw [hF a b (by unfold QM; omega) (by unfold QL; omega) (by omega) (by omega) (by omega), q4 a b (by unfold QL; omega)]
              · funext b
                rw [r2 46 b (by unfold QM; omega), mu_k (by omega), mu_k (by omega), mu_k (by omega), jm_s]
              · rw [hF2 43 (by omega) (by omega), q5, r4]
              · rw [hF2 44 (by omega) (by omega), q6, r5]
              · rw [hF2 45 (by omega) (by omega), q7, r6]
            · show F 0 16 = F 104 1
              rw [r2 0 16 (by unfold QM; omega), r2 104 1 (by unfold QM; omega), mu_s, mu_k (by omega), mu_k (by omega), mu_s]
        · have hh : p_Sheets_holds f σ (nI s) y (nI (3 * w)) = some 0 := by
            rw [holdsL (by omega) em hm, if_neg]
            rw [nI_toInt (n := 3 * w) (by omega)]
            omega
          refine ⟨-1000012, qmu σ 0 16 2, qmu (qmu (qmu σ 0 16 2) 104 0 0) 104 1 2, ?_, ?_, find_ok2 h 2⟩
          · simp [p_C_lines, noSheetL, outL, c1, c2, hms, h3w, hh, p_C_found]
          · have := look_n (f := f) (σ := qmu (qmu σ 0 16 2) 104 0 0) (s := s) (m := m) (w := 3 * w) (x := y) (by omega) (by rw [mu_k (by decide), mu_k (by decide), ← a1, hlan.2]; exact c3) (by rw [mu_k (by decide), mu_k (by decide), ← a2, em]) hm (by omega) c4
            simp [p_M_lines, isSheetL, inL, c1, c2, h3w, this]
    · refine badW (r := -1000001) h ?_ ?_
      · simp [p_C_lines, noSheetL, outL, c1, c2]
      · simp [p_M_lines, isSheetL, inL, c1, c2]
  · refine badW (r := -1000001) h ?_ ?_
    · simp [p_C_lines, noSheetL, c1]
    · simp [p_M_lines, isSheetL, c1]
