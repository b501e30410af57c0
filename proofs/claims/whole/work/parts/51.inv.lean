/-! what holds between the calls -/
def agr (P : Nat → Nat → Prop) (σ σ' : qMem) : Prop := ∀ k j, ¬ P k j → σ' k j = σ k j
theorem agr_rf {P : Nat → Nat → Prop} {σ : qMem} : agr P σ σ := fun _ _ _ => rfl
theorem agr_mu {P : Nat → Nat → Prop} {σ σ' : qMem} {k j : Nat} {v : Int32} (h : agr P σ σ') (hp : P k j) : agr P σ (qmu σ' k j v) := by
  intro a b hn
  have : ¬ (a = k ∧ b = j) := fun e => hn (by rw [e.1, e.2]; exact hp)
  unfold qmu
  rw [if_neg this]
  exact h a b hn
theorem agr_tr {P : Nat → Nat → Prop} {σ σ' σ'' : qMem} (h : agr P σ σ') (h' : agr P σ' σ'') : agr P σ σ'' := fun k j hn => (h' k j hn).trans (h k j hn)
theorem agr_mono {P P' : Nat → Nat → Prop} {σ σ' : qMem} (h : agr P σ σ') (hp : ∀ k j, P k j → P' k j) : agr P' σ σ' := fun k j hn => h k j (fun e => hn (hp k j e))
/-- places that no promise of the document looks at between calls -/
def scrP (k j : Nat) : Prop := (k = 104 ∧ (j = 0 ∨ (10 ≤ j ∧ j ≤ 17))) ∨ (k = 27 ∧ 3 ≤ j) ∨ (96 ≤ k ∧ k ≤ 102) ∨ (143 ≤ k ∧ k ≤ 145) ∨ k = 115
def g_tr (σ : qMem) : Prop := σ 103 = σ 146 ∧ ∃ n : Nat, n ≤ 16 ∧ σ 0 14 = nI n ∧ σ 104 64 = nI n
def g_dy (σ : qMem) : Prop := ∃ d : Nat, d ≤ 9999 ∧ σ 0 15 = nI d ∧ σ 104 62 = nI d
def g_fi (σ : qMem) : Prop := σ 0 16 = σ 104 1
def g_ft (σ : qMem) : Prop := σ 27 2 = σ 104 9
def g_sh (σ : qMem) : Prop := σ 2 = σ 105 ∧ σ 3 = σ 106 ∧ (∀ s, s < 8 → ∀ i, i < 60 → σ (5 + s) i = σ 107 (60 * s + i)) ∧ (∀ s, s < 8 → σ 2 s = -1 ∨ σ 2 s = 0 ∨ σ 2 s = 1 ∨ σ 2 s = 2) ∧ ∀ s, s < 8 → ∃ n : Nat, n ≤ 60 ∧ σ 3 s = nI n
def g_pr (σ : qMem) : Prop := ∃ n : Nat, n ≤ 12 ∧ σ 13 1 = nI n ∧ σ 104 5 = nI n ∧ ∀ p, p < n → ∀ j, j < 11 → σ (15 + p) j = σ 108 (11 * p + j) ∧ rg (σ (15 + p) j) (qLeast.getD j 0).toInt (qMost.getD j 0).toInt
def g_tp (σ : qMem) : Prop := (∃ n : Nat, n ≤ 500 ∧ σ 27 1 = nI n ∧ σ 104 8 = nI n) ∧ ∀ i, i < 500 → σ 28 i = (σ 109 i).toInt8.toInt32 ∧ rg (σ 109 i) 0 255
def g_vo (σ : qMem) : Prop := σ 32 = σ 116 ∧ ∀ p, p < 8 → ∃ v : Nat, 1 ≤ v ∧ v ≤ 3 ∧ σ 32 p = nI v
def g_si (σ : qMem) : Prop := σ 34 = σ 117 ∧ σ 35 = σ 118 ∧ σ 36 = σ 119 ∧ ∃ n : Nat, n ≤ 20 ∧ σ 33 3 = nI n ∧ σ 104 27 = nI n
def g_ac (σ : qMem) : Prop := σ 38 = σ 136 ∧ σ 39 = σ 137 ∧ σ 40 = σ 138 ∧ σ 41 = σ 139 ∧ ∃ n : Nat, n ≤ 10 ∧ σ 37 5 = nI n ∧ σ 104 50 = nI n ∧ ∀ i, i < n → rg (σ 38 i) 0 9999
def g_ho (σ : qMem) : Prop := σ 54 = σ 124 ∧ σ 55 = σ 125
def g_re (σ : qMem) : Prop := σ 56 = σ 126 ∧ σ 57 = σ 127 ∧ σ 58 = σ 128 ∧ ∃ n : Nat, n ≤ 20 ∧ σ 53 5 = nI n ∧ σ 104 38 = nI n
def g_em (σ : qMem) : Prop := σ 60 = σ 129 ∧ σ 61 = σ 130 ∧ σ 62 = σ 131 ∧ ∃ n : Nat, n ≤ 20 ∧ σ 59 3 = nI n ∧ σ 104 42 = nI n ∧ ∀ i, i < n → ∃ a b : Nat, a ≤ b ∧ b ≤ 9999 ∧ σ 61 i = nI a ∧ σ 62 i = nI b
def g_bi (σ : qMem) : Prop := σ 63 = σ 140 ∧ σ 64 = σ 141 ∧ σ 65 = σ 142 ∧ ∃ n : Nat, n ≤ 20 ∧ σ 53 10 = nI n ∧ σ 104 55 = nI n ∧ ∀ i, i < n → rg (σ 65 i) 1 100000 ∧ rg (σ 64 i) 0 9
def g_pc (σ : qMem) : Prop := σ 66 = σ 132
def g_na (σ : qMem) : Prop := σ 69 = σ 134 ∧ (∀ p i, p < 12 → i < 4 → σ (71 + p) i = σ 135 (8 * p + 2 * i) ∧ σ (84 + p) i = σ 135 (8 * p + 2 * i + 1)) ∧ ∃ n : Nat, n ≤ 12 ∧ σ 13 1 = nI n ∧ ∀ p, p < 12 → (p < n → σ 68 p = σ 133 p) ∧ ((∃ d : Nat, p < n ∧ d ≤ 9999 ∧ σ 68 p = nI d) ∨ σ 68 p = -1000000) ∧ ∃ m : Nat, m ≤ 4 ∧ σ 69 p = nI m ∧ ∀ i, i < m → ∃ t : Nat, t ≤ 400 ∧ σ (84 + p) i = nI t
def g_fe (σ : qMem) : Prop := ∃ n m : Nat, n ≤ 30 ∧ m ≤ n ∧ σ 29 3 = nI n ∧ σ 104 18 = nI n ∧ σ 29 2 = nI m ∧ (∀ i, i < m → rg (σ 30 i) 0 9999 ∧ rg (σ 31 i) 1 2) ∧ (∀ i j, i < j → j < m → σ 30 i < σ 30 j) ∧ (∀ i, i < n → rg (σ 110 i) 0 9999 ∧ rg (σ 111 i) 1 2) ∧ (∀ i, i < m → ∃ k, k < n ∧ σ 110 k = σ 30 i ∧ σ 111 k = σ 31 i) ∧ ∀ k, k < n → ∃ i, i < m ∧ σ 30 i = σ 110 k ∧ σ 111 k ≤ σ 31 i
def g_jo (σ : qMem) : Prop := σ 49 = σ 120 ∧ σ 50 = σ 121 ∧ σ 51 = σ 122 ∧ ∃ n np : Nat, n ≤ 10 ∧ σ 48 4 = nI n ∧ σ 104 31 = nI n ∧ np ≤ 12 ∧ σ 13 1 = nI np ∧
  (∀ i, i < n → (∃ a b : Nat, a < np ∧ b < np ∧ a ≠ b ∧ σ 49 i = nI a ∧ σ 50 i = nI b) ∧ ∃ c e : Nat, c < e ∧ c ≤ 9999 ∧ e ≤ 10000 ∧ σ 51 i = nI c ∧ σ 52 i = nI e ∧ σ 123 i = if e = 10000 then -1000000 else nI e) ∧
  ∀ i j, i < j → j < n → (σ 49 i = σ 49 j ∨ σ 49 i = σ 50 j ∨ σ 50 i = σ 49 j ∨ σ 50 i = σ 50 j) → σ 52 i ≤ σ 51 j
/-! frames -/
theorem g_tr.fr {P : Nat → Nat → Prop} {σ σ' : qMem} (h : g_tr σ) (ha : agr P σ σ') (hd : ∀ k j, (k = 103 ∨ k = 146 ∨ (k = 0 ∧ j = 14) ∨ (k = 104 ∧ j = 64)) → ¬ P k j) : g_tr σ' := by
  have e1 : σ' 103 = σ 103 := funext fun j => ha _ _ (hd _ _ (by omega))
  have e2 : σ' 146 = σ 146 := funext fun j => ha _ _ (hd _ _ (by omega))
  have e3 : σ' 0 14 = σ 0 14 := ha _ _ (hd _ _ (by omega))
  have e4 : σ' 104 64 = σ 104 64 := ha _ _ (hd _ _ (by omega))
  unfold g_tr at h ⊢
  rw [e1, e2, e3, e4]
  exact h
theorem g_dy.fr {P : Nat → Nat → Prop} {σ σ' : qMem} (h : g_dy σ) (ha : agr P σ σ') (hd : ∀ k j, ((k = 0 ∧ j = 15) ∨ (k = 104 ∧ j = 62)) → ¬ P k j) : g_dy σ' := by
  have e3 : σ' 0 15 = σ 0 15 := ha _ _ (hd _ _ (by omega))
  have e4 : σ' 104 62 = σ 104 62 := ha _ _ (hd _ _ (by omega))
  unfold g_dy at h ⊢
  rw [e3, e4]
  exact h
theorem g_fi.fr {P : Nat → Nat → Prop} {σ σ' : qMem} (h : g_fi σ) (ha : agr P σ σ') (hd : ∀ k j, ((k = 0 ∧ j = 16) ∨ (k = 104 ∧ j = 1)) → ¬ P k j) : g_fi σ' := by
  have e3 : σ' 0 16 = σ 0 16 := ha _ _ (hd _ _ (by omega))
  have e4 : σ' 104 1 = σ 104 1 := ha _ _ (hd _ _ (by omega))
  unfold g_fi at h ⊢
  rw [e3, e4]
  exact h
theorem g_ft.fr {P : Nat → Nat → Prop} {σ σ' : qMem} (h : g_ft σ) (ha : agr P σ σ') (hd : ∀ k j, ((k = 27 ∧ j = 2) ∨ (k = 104 ∧ j = 9)) → ¬ P k j) : g_ft σ' := by
  have e3 : σ' 27 2 = σ 27 2 := ha _ _ (hd _ _ (by omega))
  have e4 : σ' 104 9 = σ 104 9 := ha _ _ (hd _ _ (by omega))
  unfold g_ft at h ⊢
  rw [e3, e4]
  exact h
theorem g_sh.fr {P : Nat → Nat → Prop} {σ σ' : qMem} (h : g_sh σ) (ha : agr P σ σ') (hd : ∀ k j, (k = 2 ∨ k = 3 ∨ (5 ≤ k ∧ k ≤ 12) ∨ (105 ≤ k ∧ k ≤ 107)) → ¬ P k j) : g_sh σ' := by
  have e1 : σ' 2 = σ 2 := funext fun j => ha _ _ (hd _ _ (by omega))
  have e2 : σ' 3 = σ 3 := funext fun j => ha _ _ (hd _ _ (by omega))
  have e3 : σ' 105 = σ 105 := funext fun j => ha _ _ (hd _ _ (by omega))
  have e4 : σ' 106 = σ 106 := funext fun j => ha _ _ (hd _ _ (by omega))
  have e5 : σ' 107 = σ 107 := funext fun j => ha _ _ (hd _ _ (by omega))
  obtain ⟨h1, h2, h3, h4, h5⟩ := h
  refine ⟨by rw [e1, e3]; exact h1, by rw [e2, e4]; exact h2, fun s hs i hi => ?_, by rw [e1]; exact h4, by rw [e2]; exact h5⟩
  rw [e5, ha (5 + s) i (hd _ _ (by omega))]
  exact h3 s hs i hi
theorem g_pr.fr {P : Nat → Nat → Prop} {σ σ' : qMem} (h : g_pr σ) (ha : agr P σ σ') (hd : ∀ k j, ((k = 13 ∧ j = 1) ∨ (k = 104 ∧ j = 5) ∨ (15 ≤ k ∧ k ≤ 26) ∨ k = 108) → ¬ P k j) : g_pr σ' := by
  have e1 : σ' 13 1 = σ 13 1 := ha _ _ (hd _ _ (by omega))
  have e2 : σ' 104 5 = σ 104 5 := ha _ _ (hd _ _ (by omega))
  have e3 : σ' 108 = σ 108 := funext fun j => ha _ _ (hd _ _ (by omega))
  obtain ⟨n, h0, h1, h2, h3⟩ := h
  refine ⟨n, h0, by rw [e1]; exact h1, by rw [e2]; exact h2, fun p hp j hj => ?_⟩
  rw [e3, ha (15 + p) j (hd _ _ (by omega))]
  exact h3 p hp j hj
theorem g_tp.fr {P : Nat → Nat → Prop} {σ σ' : qMem} (h : g_tp σ) (ha : agr P σ σ') (hd : ∀ k j, ((k = 27 ∧ j = 1) ∨ (k = 104 ∧ j = 8) ∨ k = 28 ∨ k = 109) → ¬ P k j) : g_tp σ' := by
  have e1 : σ' 27 1 = σ 27 1 := ha _ _ (hd _ _ (by omega))
  have e2 : σ' 104 8 = σ 104 8 := ha _ _ (hd _ _ (by omega))
  have e3 : σ' 28 = σ 28 := funext fun j => ha _ _ (hd _ _ (by omega))
  have e4 : σ' 109 = σ 109 := funext fun j => ha _ _ (hd _ _ (by omega))
  unfold g_tp at h ⊢
  rw [e1, e2, e3, e4]
  exact h
theorem g_vo.fr {P : Nat → Nat → Prop} {σ σ' : qMem} (h : g_vo σ) (ha : agr P σ σ') (hd : ∀ k j, (k = 32 ∨ k = 116) → ¬ P k j) : g_vo σ' := by
  have e3 : σ' 32 = σ 32 := funext fun j => ha _ _ (hd _ _ (by omega))
  have e4 : σ' 116 = σ 116 := funext fun j => ha _ _ (hd _ _ (by omega))
  unfold g_vo at h ⊢
  rw [e3, e4]
  exact h
theorem g_si.fr {P : Nat → Nat → Prop} {σ σ' : qMem} (h : g_si σ) (ha : agr P σ σ') (hd : ∀ k j, ((34 ≤ k ∧ k ≤ 36) ∨ (117 ≤ k ∧ k ≤ 119) ∨ (k = 33 ∧ j = 3) ∨ (k = 104 ∧ j = 27)) → ¬ P k j) : g_si σ' := by
  have c : ∀ k, ((34 ≤ k ∧ k ≤ 36) ∨ (117 ≤ k ∧ k ≤ 119)) → σ' k = σ k := fun k hk => funext fun j => ha _ _ (hd _ _ (by omega))
  have e1 : σ' 33 3 = σ 33 3 := ha _ _ (hd _ _ (by omega))
  have e2 : σ' 104 27 = σ 104 27 := ha _ _ (hd _ _ (by omega))
  unfold g_si at h ⊢
  rw [e1, e2, c 34 (by omega), c 35 (by omega), c 36 (by omega), c 117 (by omega), c 118 (by omega), c 119 (by omega)]
  exact h
theorem g_ac.fr {P : Nat → Nat → Prop} {σ σ' : qMem} (h : g_ac σ) (ha : agr P σ σ') (hd : ∀ k j, ((38 ≤ k ∧ k ≤ 41) ∨ (136 ≤ k ∧ k ≤ 139) ∨ (k = 37 ∧ j = 5) ∨ (k = 104 ∧ j = 50)) → ¬ P k j) : g_ac σ' := by
  have c : ∀ k, ((38 ≤ k ∧ k ≤ 41) ∨ (136 ≤ k ∧ k ≤ 139)) → σ' k = σ k := fun k hk => funext fun j => ha _ _ (hd _ _ (by omega))
  have e1 : σ' 37 5 = σ 37 5 := ha _ _ (hd _ _ (by omega))
  have e2 : σ' 104 50 = σ 104 50 := ha _ _ (hd _ _ (by omega))
  unfold g_ac at h ⊢
  rw [e1, e2, c 38 (by omega), c 39 (by omega), c 40 (by omega), c 41 (by omega), c 136 (by omega), c 137 (by omega), c 138 (by omega), c 139 (by omega)]
  exact h
theorem g_ho.fr {P : Nat → Nat → Prop} {σ σ' : qMem} (h : g_ho σ) (ha : agr P σ σ') (hd : ∀ k j, (k = 54 ∨ k = 55 ∨ k = 124 ∨ k = 125) → ¬ P k j) : g_ho σ' := by
  have c : ∀ k, (k = 54 ∨ k = 55 ∨ k = 124 ∨ k = 125) → σ' k = σ k := fun k hk => funext fun j => ha _ _ (hd _ _ (by omega))
  unfold g_ho at h ⊢
  rw [c 54 (by omega), c 55 (by omega), c 124 (by omega), c 125 (by omega)]
  exact h
theorem g_re.fr {P : Nat → Nat → Prop} {σ σ' : qMem} (h : g_re σ) (ha : agr P σ σ') (hd : ∀ k j, ((56 ≤ k ∧ k ≤ 58) ∨ (126 ≤ k ∧ k ≤ 128) ∨ (k = 53 ∧ j = 5) ∨ (k = 104 ∧ j = 38)) → ¬ P k j) : g_re σ' := by
  have c : ∀ k, ((56 ≤ k ∧ k ≤ 58) ∨ (126 ≤ k ∧ k ≤ 128)) → σ' k = σ k := fun k hk => funext fun j => ha _ _ (hd _ _ (by omega))
  have e1 : σ' 53 5 = σ 53 5 := ha _ _ (hd _ _ (by omega))
  have e2 : σ' 104 38 = σ 104 38 := ha _ _ (hd _ _ (by omega))
  unfold g_re at h ⊢
  rw [e1, e2, c 56 (by omega), c 57 (by omega), c 58 (by omega), c 126 (by omega), c 127 (by omega), c 128 (by omega)]
  exact h
theorem g_em.fr {P : Nat → Nat → Prop} {σ σ' : qMem} (h : g_em σ) (ha : agr P σ σ') (hd : ∀ k j, ((60 ≤ k ∧ k ≤ 62) ∨ (129 ≤ k ∧ k ≤ 131) ∨ (k = 59 ∧ j = 3) ∨ (k = 104 ∧ j = 42)) → ¬ P k j) : g_em σ' := by
  have c : ∀ k, ((60 ≤ k ∧ k ≤ 62) ∨ (129 ≤ k ∧ k ≤ 131)) → σ' k = σ k := fun k hk => funext fun j => ha _ _ (hd _ _ (by omega))
  have e1 : σ' 59 3 = σ 59 3 := ha _ _ (hd _ _ (by omega))
  have e2 : σ' 104 42 = σ 104 42 := ha _ _ (hd _ _ (by omega))
  unfold g_em at h ⊢
  rw [e1, e2, c 60 (by omega), c 61 (by omega), c 62 (by omega), c 129 (by omega), c 130 (by omega), c 131 (by omega)]
  exact h
theorem g_bi.fr {P : Nat → Nat → Prop} {σ σ' : qMem} (h : g_bi σ) (ha : agr P σ σ') (hd : ∀ k j, ((63 ≤ k ∧ k ≤ 65) ∨ (140 ≤ k ∧ k ≤ 142) ∨ (k = 53 ∧ j = 10) ∨ (k = 104 ∧ j = 55)) → ¬ P k j) : g_bi σ' := by
  have c : ∀ k, ((63 ≤ k ∧ k ≤ 65) ∨ (140 ≤ k ∧ k ≤ 142)) → σ' k = σ k := fun k hk => funext fun j => ha _ _ (hd _ _ (by omega))
  have e1 : σ' 53 10 = σ 53 10 := ha _ _ (hd _ _ (by omega))
  have e2 : σ' 104 55 = σ 104 55 := ha _ _ (hd _ _ (by omega))
  unfold g_bi at h ⊢
  rw [e1, e2, c 63 (by omega), c 64 (by omega), c 65 (by omega), c 140 (by omega), c 141 (by omega), c 142 (by omega)]
  exact h
theorem g_pc.fr {P : Nat → Nat → Prop} {σ σ' : qMem} (h : g_pc σ) (ha : agr P σ σ') (hd : ∀ k j, (k = 66 ∨ k = 132) → ¬ P k j) : g_pc σ' := by
  have c : ∀ k, (k = 66 ∨ k = 132) → σ' k = σ k := fun k hk => funext fun j => ha _ _ (hd _ _ (by omega))
  unfold g_pc at h ⊢
  rw [c 66 (by omega), c 132 (by omega)]
  exact h
theorem g_na.fr {P : Nat → Nat → Prop} {σ σ' : qMem} (h : g_na σ) (ha : agr P σ σ') (hd : ∀ k j, ((68 ≤ k ∧ k ≤ 69) ∨ (71 ≤ k ∧ k ≤ 82) ∨ (84 ≤ k ∧ k ≤ 95) ∨ (133 ≤ k ∧ k ≤ 135) ∨ (k = 13 ∧ j = 1)) → ¬ P k j) : g_na σ' := by
  have c : ∀ k, ((68 ≤ k ∧ k ≤ 69) ∨ (71 ≤ k ∧ k ≤ 82) ∨ (84 ≤ k ∧ k ≤ 95) ∨ (133 ≤ k ∧ k ≤ 135)) → σ' k = σ k := fun k hk => funext fun j => ha _ _ (hd _ _ (by omega))
  have e1 : σ' 13 1 = σ 13 1 := ha _ _ (hd _ _ (by omega))
  obtain ⟨h1, h2, n, h3, h4, h5⟩ := h
  refine ⟨by rw [c 69 (by omega), c 134 (by omega)]; exact h1, fun p i hp hi => ?_, n, h3, by rw [e1]; exact h4, fun p hp => ?_⟩
  · rw [c (71 + p) (by omega), c (84 + p) (by omega), c 135 (by omega)]
    exact h2 p i hp hi
  · rw [c 68 (by omega), c 133 (by omega), c 69 (by omega), c (84 + p) (by omega)]
    exact h5 p hp
theorem g_fe.fr {P : Nat → Nat → Prop} {σ σ' : qMem} (h : g_fe σ) (ha : agr P σ σ') (hd : ∀ k j, ((30 ≤ k ∧ k ≤ 31) ∨ (110 ≤ k ∧ k ≤ 111) ∨ (k = 29 ∧ (j = 2 ∨ j = 3)) ∨ (k = 104 ∧ j = 18)) → ¬ P k j) : g_fe σ' := by
  have c : ∀ k, ((30 ≤ k ∧ k ≤ 31) ∨ (110 ≤ k ∧ k ≤ 111)) → σ' k = σ k := fun k hk => funext fun j => ha _ _ (hd _ _ (by omega))
  have e1 : σ' 29 3 = σ 29 3 := ha _ _ (hd _ _ (by omega))
  have e2 : σ' 29 2 = σ 29 2 := ha _ _ (hd _ _ (by omega))
  have e3 : σ' 104 18 = σ 104 18 := ha _ _ (hd _ _ (by omega))
  unfold g_fe at h ⊢
  rw [e1, e2, e3, c 30 (by omega), c 31 (by omega), c 110 (by omega), c 111 (by omega)]
  exact h
theorem g_jo.fr {P : Nat → Nat → Prop} {σ σ' : qMem} (h : g_jo σ) (ha : agr P σ σ') (hd : ∀ k j, ((49 ≤ k ∧ k ≤ 52) ∨ (120 ≤ k ∧ k ≤ 123) ∨ (k = 48 ∧ j = 4) ∨ (k = 104 ∧ j = 31) ∨ (k = 13 ∧ j = 1)) → ¬ P k j) : g_jo σ' := by
  have c : ∀ k, ((49 ≤ k ∧ k ≤ 52) ∨ (120 ≤ k ∧ k ≤ 123)) → σ' k = σ k := fun k hk => funext fun j => ha _ _ (hd _ _ (by omega))
  have e1 : σ' 48 4 = σ 48 4 := ha _ _ (hd _ _ (by omega))
  have e2 : σ' 104 31 = σ 104 31 := ha _ _ (hd _ _ (by omega))
  have e3 : σ' 13 1 = σ 13 1 := ha _ _ (hd _ _ (by omega))
  unfold g_jo at h ⊢
  rw [e1, e2, e3, c 49 (by omega), c 50 (by omega), c 51 (by omega), c 52 (by omega), c 120 (by omega), c 121 (by omega), c 122 (by omega), c 123 (by omega)]
  exact h
