/-! lines -/
def lp (σ : qMem) (l : Nat) : Nat := qi (σ 43 l)
def lpr (σ : qMem) (l : Nat) : Int32 := σ (15 + lp σ l) 3
def lal (σ : qMem) (l : Nat) : Int32 := σ (15 + lp σ l) 2
/-- the line's own grounds: begun, not ended, its priest not sick -/
def stB (σ : qMem) (nA nS l : Nat) : Prop := σ (15 + lp σ l) 5 ≤ σ 44 l ∧ ¬ endP σ (lp σ l) nA (σ 44 l) ∧ anyI (sickB σ (lpr σ l) (σ 44 l)) nS 0 = 0
/-- how many of the good ones ahead (by the order) are of that day and priest -/
def cntG (σ : qMem) (g : Nat → Int32) (ord : Nat → Nat) (l : Nat) : Nat → Nat
  | 0 => 0
  | j + 1 => cntG σ g ord l j + (if g (ord j) = 1 ∧ σ 44 (ord j) = σ 44 l ∧ lpr σ (ord j) = lpr σ l then 1 else 0)
def clashG (σ : qMem) (g : Nat → Int32) (ord : Nat → Nat) (l i : Nat) : Prop := ∃ j, j < i ∧ g (ord j) = 1 ∧ σ 44 (ord j) = σ 44 l ∧ σ 45 (ord j) = σ 45 l ∧ (lpr σ (ord j) = lpr σ l ∨ lal σ (ord j) = lal σ l)
def stands (σ : qMem) (g : Nat → Int32) (ord : Nat → Nat) (nA nS i : Nat) : Prop := stB σ nA nS (ord i) ∧ ¬ clashG σ g ord (ord i) i ∧ nI (cntG σ g ord (ord i) i) < σ 32 (qi (lpr σ (ord i)))
/-- g judges the lines in the order ord -/
def judged (σ : qMem) (g : Nat → Int32) (ord : Nat → Nat) (n nA nS : Nat) : Prop := ∀ i, i < n → (stands σ g ord nA nS i → g (ord i) = 1) ∧ (¬ stands σ g ord nA nS i → g (ord i) = 0)
def lkey (σ : qMem) (l : Nat) : Nat := (5 * qi (σ 44 l) + qi (σ 45 l)) * 60 + l
def lnOk (σ : qMem) (n np : Nat) : Prop := ∀ i, i < n → (∃ p : Nat, p < np ∧ σ 43 i = nI p) ∧ (∃ d : Nat, d ≤ 9999 ∧ σ 44 i = nI d) ∧ ∃ h : Nat, h ≤ 4 ∧ σ 45 i = nI h
def ordOk (σ : qMem) (ord : Nat → Nat) (n : Nat) : Prop := (∀ i, i < n → ord i < n ∧ σ 47 i = nI (ord i)) ∧ ∀ i j, i < j → j < n → lkey σ (ord i) < lkey σ (ord j)
def g_li (σ : qMem) : Prop := σ 43 = σ 112 ∧ σ 44 = σ 113 ∧ σ 45 = σ 114 ∧ ∃ n np nA nS : Nat, ∃ ord : Nat → Nat, n ≤ 60 ∧ σ 42 9 = nI n ∧ σ 104 21 = nI n ∧ np ≤ 12 ∧ σ 13 1 = nI np ∧ nA ≤ 10 ∧ σ 37 5 = nI nA ∧ nS ≤ 20 ∧ σ 33 3 = nI nS ∧ lnOk σ n np ∧ ordOk σ ord n ∧ judged σ (σ 46) ord n nA nS
def sup_li (k j : Nat) : Prop := (43 ≤ k ∧ k ≤ 47) ∨ (112 ≤ k ∧ k ≤ 114) ∨ (15 ≤ k ∧ k ≤ 26) ∨ (34 ≤ k ∧ k ≤ 36) ∨ (38 ≤ k ∧ k ≤ 41) ∨ k = 32 ∨ (k = 42 ∧ j = 9) ∨ (k = 104 ∧ j = 21) ∨ (k = 13 ∧ j = 1) ∨ (k = 37 ∧ j = 5) ∨ (k = 33 ∧ j = 3)
theorem tkN_cg {σ σ' : qMem} {p : Nat} (hr : σ' (15 + p) = σ (15 + p)) (h38 : σ' 38 = σ 38) (h39 : σ' 39 = σ 39) (h40 : σ' 40 = σ 40) (h41 : σ' 41 = σ 41) : ∀ m i b, tkN σ' p m i b = tkN σ p m i b
  | 0, _, _ => rfl
  | m + 1, i, b => by
    unfold tkN tkB
    rw [tkN_cg hr h38 h39 h40 h41 m (i + 1), hr, h38, h39, h40, h41]
theorem anyI_cg {P Q : Nat → Bool} : ∀ m i, (∀ j, i ≤ j → j < i + m → P j = Q j) → anyI P m i = anyI Q m i
  | 0, _, _ => rfl
  | m + 1, i, h => by
    unfold anyI
    rw [h i (Nat.le_refl _) (by omega), anyI_cg m (i + 1) (fun j h1 h2 => h j (by omega) (by omega))]
theorem g_li.fr {P : Nat → Nat → Prop} {σ σ' : qMem} (h : g_li σ) (ha : agr P σ σ') (hd : ∀ k j, sup_li k j → ¬ P k j) : g_li σ' := by
  have c : ∀ k, ((43 ≤ k ∧ k ≤ 47) ∨ (112 ≤ k ∧ k ≤ 114) ∨ (15 ≤ k ∧ k ≤ 26) ∨ (34 ≤ k ∧ k ≤ 36) ∨ (38 ≤ k ∧ k ≤ 41) ∨ k = 32) → σ' k = σ k := fun k hk => funext fun j => ha _ _ (hd _ _ (by unfold sup_li; omega))
  have e1 : σ' 42 9 = σ 42 9 := ha _ _ (hd _ _ (by unfold sup_li; omega))
  have e2 : σ' 104 21 = σ 104 21 := ha _ _ (hd _ _ (by unfold sup_li; omega))
  have e3 : σ' 13 1 = σ 13 1 := ha _ _ (hd _ _ (by unfold sup_li; omega))
  have e4 : σ' 37 5 = σ 37 5 := ha _ _ (hd _ _ (by unfold sup_li; omega))
  have e5 : σ' 33 3 = σ 33 3 := ha _ _ (hd _ _ (by unfold sup_li; omega))
  obtain ⟨h1, h2, h3, n, np, nA, nS, ord, k1, k2, k3, k4, k5, k6, k7, k8, k9, k10, k11, k12⟩ := h
  have c43 := c 43 (by omega)
  have c44 := c 44 (by omega)
  have c45 := c 45 (by omega)
  have c46 := c 46 (by omega)
  have c47 := c 47 (by omega)
  have hlp : ∀ l, lp σ' l = lp σ l := fun l => by unfold lp; rw [c43]
  have hlt : ∀ l, l < n → lp σ l < 12 := fun l hl => by
    obtain ⟨⟨p, hp, e⟩, -⟩ := k10 l hl
    unfold lp
    rw [e, qi_nI (by omega)]
    omega
  have hrow : ∀ l, l < n → σ' (15 + lp σ l) = σ (15 + lp σ l) := fun l hl => c _ (by have := hlt l hl; omega)
  have hpr : ∀ l, l < n → lpr σ' l = lpr σ l := fun l hl => by unfold lpr; rw [hlp, hrow l hl]
  have hal : ∀ l, l < n → lal σ' l = lal σ l := fun l hl => by unfold lal; rw [hlp, hrow l hl]
  have hkey : ∀ l, lkey σ' l = lkey σ l := fun l => by unfold lkey; rw [c44, c45]
  refine ⟨by rw [c43, c 112 (by omega)]; exact h1, by rw [c44, c 113 (by omega)]; exact h2, by rw [c45, c 114 (by omega)]; exact h3, n, np, nA, nS, ord, k1, by rw [e1]; exact k2, by rw [e2]; exact k3, k4, by rw [e3]; exact k5, k6, by rw [e4]; exact k7, k8, by rw [e5]; exact k9, ?_, ?_, ?_⟩
  · unfold lnOk
    rw [c43, c44, c45]
    exact k10
  · refine ⟨fun i hi => ?_, fun i j h1 h2 => ?_⟩
    · rw [c47]; exact k11.1 i hi
    · rw [hkey, hkey]; exact k11.2 i j h1 h2
  · have hcnt : ∀ l, l < n → ∀ i, i ≤ n → cntG σ' (σ 46) ord l i = cntG σ (σ 46) ord l i := by
      intro l hl i
      induction i with
      | zero => intro _; rfl
      | succ i ih =>
        intro hi
        unfold cntG
        rw [ih (by omega), c44, hpr _ (k11.1 i (by omega)).1, hpr l hl]
    have hst : ∀ i, i < n → (stands σ' (σ 46) ord nA nS i ↔ stands σ (σ 46) ord nA nS i) := by
      intro i hi
      have ho := (k11.1 i hi).1
      unfold stands stB clashG endP tkBy
      rw [hcnt _ ho i (by omega), hpr _ ho, hal _ ho, hlp, hrow _ ho, c44, c45, c 32 (by omega), tkN_cg (hrow _ ho) (c 38 (by omega)) (c 39 (by omega)) (c 40 (by omega)) (c 41 (by omega))]
      have hs : ∀ x d, anyI (sickB σ' x d) nS 0 = anyI (sickB σ x d) nS 0 := fun x d => anyI_cg nS 0 (fun j _ _ => by unfold sickB; rw [c 34 (by omega), c 35 (by omega), c 36 (by omega)])
      rw [hs]
      have hcl : (∃ j, j < i ∧ σ 46 (ord j) = 1 ∧ σ 44 (ord j) = σ 44 (ord i) ∧ σ 45 (ord j) = σ 45 (ord i) ∧ (lpr σ' (ord j) = lpr σ (ord i) ∨ lal σ' (ord j) = lal σ (ord i))) ↔ ∃ j, j < i ∧ σ 46 (ord j) = 1 ∧ σ 44 (ord j) = σ 44 (ord i) ∧ σ 45 (ord j) = σ 45 (ord i) ∧ (lpr σ (ord j) = lpr σ (ord i) ∨ lal σ (ord j) = lal σ (ord i)) := by
        constructor
        · rintro ⟨j, a1, a2⟩
          rw [hpr _ (k11.1 j (by omega)).1, hal _ (k11.1 j (by omega)).1] at a2
          exact ⟨j, a1, a2⟩
        · rintro ⟨j, a1, a2⟩
          refine ⟨j, a1, ?_⟩
          rw [hpr _ (k11.1 j (by omega)).1, hal _ (k11.1 j (by omega)).1]
          exact a2
      rw [hcl]
    intro i hi
    rw [c46, hst i hi]
    exact k12 i hi
def Inv (σ : qMem) : Prop := g_tr σ ∧ g_dy σ ∧ g_fi σ ∧ g_ft σ ∧ g_sh σ ∧ g_pr σ ∧ g_tp σ ∧ g_vo σ ∧ g_si σ ∧ g_ac σ ∧ g_ho σ ∧ g_re σ ∧ g_em σ ∧ g_bi σ ∧ g_pc σ ∧ g_na σ ∧ g_fe σ ∧ g_jo σ ∧ g_li σ
theorem Inv.scr {σ σ' : qMem} (h : Inv σ) (ha : agr scrP σ σ') : Inv σ' := by
  obtain ⟨h1, h2, h3, h4, h5, h6, h7, h8, h9, h10, h11, h12, h13, h14, h15, h16, h17, h18, h19⟩ := h
  exact ⟨h1.fr ha (by intro k j; unfold scrP; omega), h2.fr ha (by intro k j; unfold scrP; omega), h3.fr ha (by intro k j; unfold scrP; omega), h4.fr ha (by intro k j; unfold scrP; omega), h5.fr ha (by intro k j; unfold scrP; omega), h6.fr ha (by intro k j; unfold scrP; omega), h7.fr ha (by intro k j; unfold scrP; omega), h8.fr ha (by intro k j; unfold scrP; omega), h9.fr ha (by intro k j; unfold scrP; omega), h10.fr ha (by intro k j; unfold scrP; omega), h11.fr ha (by intro k j; unfold scrP; omega), h12.fr ha (by intro k j; unfold scrP; omega), h13.fr ha (by intro k j; unfold scrP; omega), h14.fr ha (by intro k j; unfold scrP; omega), h15.fr ha (by intro k j; unfold scrP; omega), h16.fr ha (by intro k j; unfold scrP; omega), h17.fr ha (by intro k j; unfold scrP; omega), h18.fr ha (by intro k j; unfold scrP; omega), h19.fr ha (by intro k j; unfold sup_li scrP; omega)⟩
theorem Inv.thr {σ : qMem} (h : Inv σ) (v : Int32) : Inv (qmu σ 104 0 v) := h.scr (agr_mu agr_rf (by unfold scrP; omega))
def PairW (pc : Option (Int32 × qMem)) (pm : qMem → Option (Int32 × qMem)) : Prop := ∃ (r : Int32) (σ1 σ2 : qMem), pc = some (r, σ1) ∧ pm σ1 = some (r, σ2) ∧ Inv σ2
def PairR (pc : Option Int32) (pm : Option (Int32 × qMem)) : Prop := ∃ (r : Int32) (σ2 : qMem), pc = some r ∧ pm = some (r, σ2) ∧ Inv σ2
