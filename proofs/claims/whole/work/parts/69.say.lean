/-! a line told -/
def adM (σ : qMem) (n q : Nat) (x y z : Int32) : qMem := fun a b => if a = 47 then insF (σ 47) n q (nI n) b else if a = 43 ∧ b = n then x else if a = 44 ∧ b = n then y else if a = 45 ∧ b = n then z else if a = 42 ∧ b = 9 then nI (n + 1) else σ a b
def shO (σ : qMem) (n i : Nat) : qMem := fun a b => if a = 47 ∧ i < b ∧ b ≤ n then σ 47 (b - 1) else σ a b
def ln3 (σ : qMem) (n : Nat) (x y z : Int32) : qMem := qmu (qmu (qmu σ 43 n x) 44 n y) 45 n z
theorem ln3_k {σ : qMem} {n a : Nat} {x y z : Int32} (h : a < 43 ∨ 45 < a) : ln3 σ n x y z a = σ a := by
  funext b
  unfold ln3
  rw [mu_k (by omega), mu_k (by omega), mu_k (by omega)]
theorem ln3_o {σ : qMem} {n a b : Nat} {x y z : Int32} (h : b ≠ n) : ln3 σ n x y z a b = σ a b := by
  simp [ln3, qmu, h]
theorem shO_k {σ : qMem} {n i a : Nat} (h : a ≠ 47) : shO σ n i a = σ a := by
  funext b
  exact if_neg (fun w => h w.1)
def lk (σ : qMem) (l : Nat) : Nat := 5 * qi (σ 44 l) + qi (σ 45 l)
theorem behindL {f : Nat} {σ : qMem} {l d t D T : Nat} (hl : l < 60) (e1 : σ 44 l = nI D) (e2 : σ 45 l = nI T) (hD : D ≤ 9999) (hT : T ≤ 4) (hd : d ≤ 9999) (ht : t ≤ 4) : p_Lines_isBehind f σ (nI l) (nI d) (nI t) = some (if 5 * d + t < 5 * D + T then 1 else 0) := by
  have hq := qin_nI (k := l) (n := 60) hl (by omega)
  have hi : (nI l).toNatClampNeg = l := qi_nI (by omega)
  unfold p_Lines_isBehind
  rw [if_pos hq, show qi (nI l) = l from hi, e1, if_pos hq, if_pos hq, e2]
  by_cases c1 : d < D
  · rw [if_pos (nI_lt c1 (by omega)), if_pos (by omega)]
  · rw [if_neg (nI_nlt (by omega) (by omega))]
    by_cases c2 : D = d
    · rw [if_pos (by rw [c2])]
      by_cases c3 : T ≤ t
      · rw [if_pos (nI_le c3 (by omega)), if_neg (by omega)]
      · rw [if_neg (nI_ge (by omega) (by omega)), if_pos (by omega)]
    · rw [if_neg (fun w => c2 ((nI_eq (by omega) (by omega)).mp w)), if_neg (by omega)]
theorem add_end {σ : qMem} {f n q : Nat} {x y z : Int32} (hn : σ 42 9 = nI n) (hn2 : n < 60) (hq : q ≤ n) : p_Lines_add_b79 f (shO (ln3 σ n x y z) n q) (nI n) (nI q) = some (nI n, adM σ n q x y z) := by
  unfold p_Lines_add_b79
  have h42 : shO (ln3 σ n x y z) n q 42 9 = nI n := by rw [shO_k (by decide), ln3_k (by omega)]; exact hn
  rw [if_pos (qin_nI (by omega) (by omega)), qi_nI (by omega), mu_k (by decide), h42, nI_1]
  congr 2
  funext a b
  unfold adM
  by_cases c1 : a = 47
  · subst c1
    rw [if_pos rfl, mu_k (by decide)]
    unfold insF
    by_cases c2 : b = q
    · subst c2
      rw [mu_s, if_pos rfl]
    · rw [mu_j c2, if_neg c2]
      unfold shO
      by_cases c3 : q < b ∧ b ≤ n
      · rw [if_pos ⟨rfl, c3⟩, if_pos c3, ln3_k (by omega)]
      · rw [if_neg (fun w => c3 w.2), if_neg c3, ln3_k (by omega)]
  · rw [if_neg c1]
    by_cases c2 : a = 42
    · subst c2
      by_cases c3 : b = 9
      · subst c3
        rw [mu_s]
        simp
      · rw [mu_j c3, mu_k (by decide), shO_k (by decide), ln3_k (by omega)]
        simp [c3]
    · rw [mu_k c2, mu_k c1, shO_k c1]
      by_cases c3 : b = n
      · subst c3
        by_cases c4 : a = 43
        · subst c4; simp [ln3, qmu]
        · by_cases c5 : a = 44
          · subst c5; simp [ln3, qmu]
          · by_cases c6 : a = 45
            · subst c6; simp [ln3, qmu]
            · simp [ln3, qmu, c2, c4, c5, c6]
      · rw [ln3_o c3]
        simp [c2, c3]
theorem add_loop {f : Nat} {σ : qMem} {n np nA nS : Nat} {ord : Nat → Nat} (h : liH σ n np nA nS ord) (hn2 : n < 60) {x : Int32} {d t : Nat} (hd : d ≤ 9999) (ht : t ≤ 4) : ∀ (i fu : Nat), i ≤ n → i < fu → (∀ j, i ≤ j → j < n → 5 * d + t < lk σ (ord j)) → ∃ q, q ≤ n ∧ qfix2 (p_Lines_add_l34 f (nI d) (nI t) (nI n)) fu (shO (ln3 σ n x (nI d) (nI t)) n i) (nI i) = some (nI n, adM σ n q x (nI d) (nI t)) ∧ (∀ j, j < q → lk σ (ord j) ≤ 5 * d + t) ∧ ∀ j, q ≤ j → j < n → 5 * d + t < lk σ (ord j)
  | 0, fu, hi, hfu, hb => by
    obtain ⟨fu', rfl⟩ : ∃ fu', fu = fu' + 1 := ⟨fu - 1, by omega⟩
    refine ⟨0, Nat.zero_le _, ?_, fun j hj => absurd hj (Nat.not_lt_zero _), hb⟩
    rw [qfix2_s]
    unfold p_Lines_add_l34
    rw [if_pos (by decide)]
    exact add_end h.2.1 hn2 (Nat.zero_le _)
  | i + 1, fu, hi, hfu, hb => by
    obtain ⟨fu', rfl⟩ : ∃ fu', fu = fu' + 1 := ⟨fu - 1, by omega⟩
    have hoi := h.ol (show i < n by omega)
    obtain ⟨⟨D, hD, e1, e2⟩, ⟨T, hT, e3, e4⟩⟩ := h.day hoi.1
    have hx : nI (i + 1) - 1 = nI i := nI_pred i
    have h47 : shO (ln3 σ n x (nI d) (nI t)) n (i + 1) 47 i = nI (ord i) := by
      unfold shO
      rw [if_neg (by omega), ln3_k (by omega)]
      exact hoi.2
    have hbe := behindL (f := f) (σ := shO (ln3 σ n x (nI d) (nI t)) n (i + 1)) (l := ord i) (d := d) (t := t) (D := D) (T := T) (by omega) (by rw [shO_k (by decide), ln3_o (by omega)]; exact e1) (by rw [shO_k (by decide), ln3_o (by omega)]; exact e3) hD hT hd ht
    have hlk : lk σ (ord i) = 5 * D + T := by unfold lk; rw [e2, e4]
    rw [qfix2_s]
    unfold p_Lines_add_l34
    rw [if_neg (nI_nle (by omega) (by omega)), hx, if_pos (qin_nI (by omega) (by omega)), qi_nI (by omega), h47, hbe, Option.bind_some]
    by_cases c : 5 * d + t < 5 * D + T
    · rw [if_pos c, if_neg (by decide), if_pos (qin_nI (by omega) (by omega)), if_pos (qin_nI (by omega) (by omega)), qi_nI (by omega), show nI (i + 1) + -1 = nI i by rw [← hx]; exact (Int32.sub_eq_add_neg _ _).symm]
      have hst : qmu (shO (ln3 σ n x (nI d) (nI t)) n (i + 1)) 47 (i + 1) (nI (ord i)) = shO (ln3 σ n x (nI d) (nI t)) n i := by
        funext a b
        by_cases c1 : a = 47
        · subst c1
          by_cases c2 : b = i + 1
          · subst c2
            rw [mu_s]
            unfold shO
            rw [if_pos ⟨rfl, by omega, hi⟩, ln3_k (by omega), Nat.add_sub_cancel]
            exact hoi.2.symm
          · rw [mu_j c2]
            unfold shO
            by_cases c3 : i < b ∧ b ≤ n
            · rw [if_pos ⟨rfl, by omega, by omega⟩, if_pos ⟨rfl, c3⟩]
            · rw [if_neg (by omega), if_neg (fun w => c3 w.2)]
        · rw [mu_k c1, shO_k c1, shO_k c1]
      rw [hst]
      exact add_loop h hn2 hd ht i fu' (by omega) (by omega) (fun j h1 h2 => by
        by_cases q : j = i
        · rw [q, hlk]; exact c
        · exact hb j (by omega) h2)
    · rw [if_neg c, if_pos rfl]
      refine ⟨i + 1, hi, add_end h.2.1 hn2 hi, fun j hj => ?_, hb⟩
      by_cases q : j = i
      · rw [q, hlk]; omega
      · have h1 := h.ol (show j < n by omega)
        have hk := h.2.2.2.2.2.2.2.2.2.1.2 j i (by omega) (by omega)
        have e5 : lkey σ (ord j) = lk σ (ord j) * 60 + ord j := rfl
        have e6 : lkey σ (ord i) = lk σ (ord i) * 60 + ord i := rfl
        rw [e5, e6] at hk
        omega
def ordI (ord : Nat → Nat) (n q : Nat) : Nat → Nat := fun i => if i < q then ord i else if i = q then n else ord (i - 1)
theorem adM_k {σ : qMem} {n q a : Nat} {x y z : Int32} (h : a < 42 ∨ a = 46 ∨ 47 < a) : adM σ n q x y z a = σ a := by
  funext b
  unfold adM
  rw [if_neg (by omega), if_neg (by omega), if_neg (by omega), if_neg (by omega), if_neg (by omega)]
theorem adM_o {σ : qMem} {n q a b : Nat} {x y z : Int32} (h1 : 43 ≤ a ∧ a ≤ 45) (h2 : b ≠ n) : adM σ n q x y z a b = σ a b := by
  unfold adM
  rw [if_neg (by omega), if_neg (by omega), if_neg (by omega), if_neg (by omega), if_neg (by omega)]
theorem adM_43 {σ : qMem} {n q : Nat} {x y z : Int32} : adM σ n q x y z 43 = upd (σ 43) n x := by
  funext b
  simp [adM, upd]
theorem adM_44 {σ : qMem} {n q : Nat} {x y z : Int32} : adM σ n q x y z 44 = upd (σ 44) n y := by
  funext b
  simp [adM, upd]
theorem adM_45 {σ : qMem} {n q : Nat} {x y z : Int32} : adM σ n q x y z 45 = upd (σ 45) n z := by
  funext b
  simp [adM, upd]
theorem adM_42 {σ : qMem} {n q : Nat} {x y z : Int32} : adM σ n q x y z 42 9 = nI (n + 1) := by simp [adM]
theorem add_c {f : Nat} {σ : qMem} {n np nA nS : Nat} {ord : Nat → Nat} (h : liH σ n np nA nS ord) (hn2 : n < 60) {p d t : Nat} (hp : p < np) (hd : d ≤ 9999) (ht : t ≤ 4) (hf : 100 < f) : ∃ q, q ≤ n ∧ p_Lines_add f σ (nI p) (nI d) (nI t) = some (nI n, adM σ n q (nI p) (nI d) (nI t)) ∧ liH (adM σ n q (nI p) (nI d) (nI t)) (n + 1) np nA nS (ordI ord n q) := by
  have hnp : np ≤ 12 := h.2.2.1
  have hx := add_loop (f := f) h hn2 (x := nI p) hd ht n f (Nat.le_refl _) (by omega) (fun j h1 h2 => by omega)
  obtain ⟨q, hq, e, h1, h2⟩ := hx
  refine ⟨q, hq, ?_, by omega, adM_42, hnp, ?_, h.2.2.2.2.1, ?_, h.2.2.2.2.2.2.1, ?_, ?_, ⟨?_, ?_⟩, ?_⟩
  · unfold p_Lines_add
    have hs : shO (ln3 σ n (nI p) (nI d) (nI t)) n n = ln3 σ n (nI p) (nI d) (nI t) := by
      funext a b
      unfold shO
      rw [if_neg (by omega)]
    rw [hs] at e
    rw [h.2.1, if_pos (qin_nI (by omega) (by omega)), if_pos (qin_nI (by omega) (by omega)), if_pos (qin_nI (by omega) (by omega)), qi_nI (by omega)]
    exact e
  · rw [adM_k (by omega)]; exact h.2.2.2.1
  · rw [adM_k (by omega)]; exact h.2.2.2.2.2.1
  · rw [adM_k (by omega)]; exact h.2.2.2.2.2.2.2.1
  · intro i hi
    by_cases c : i = n
    · subst c
      refine ⟨⟨p, hp, ?_⟩, ⟨d, hd, ?_⟩, ⟨t, ht, ?_⟩⟩
      · rw [adM_43, upd_s]
      · rw [adM_44, upd_s]
      · rw [adM_45, upd_s]
    · rw [adM_o (by omega) c, adM_o (by omega) c, adM_o (by omega) c]
      exact h.2.2.2.2.2.2.2.2.1 i (by omega)
  · intro i hi
    have e47 : adM σ n q (nI p) (nI d) (nI t) 47 i = insF (σ 47) n q (nI n) i := by simp [adM]
    rw [e47]
    unfold ordI insF
    by_cases c1 : i < q
    · have := h.ol (show i < n by omega)
      rw [if_pos c1, if_neg (by omega), if_neg (by omega)]
      exact ⟨by omega, this.2⟩
    · rw [if_neg c1]
      by_cases c2 : i = q
      · rw [if_pos c2, if_pos c2]
        exact ⟨by omega, rfl⟩
      · have := h.ol (show i - 1 < n by omega)
        rw [if_neg c2, if_neg c2, if_pos (by omega)]
        exact ⟨by omega, this.2⟩
  · have kn : lkey (adM σ n q (nI p) (nI d) (nI t)) n = (5 * d + t) * 60 + n := by
      unfold lkey
      rw [adM_44, adM_45, upd_s, upd_s, qi_nI (by omega), qi_nI (by omega)]
    have ko : ∀ j, j < n → lkey (adM σ n q (nI p) (nI d) (nI t)) (ord j) = lk σ (ord j) * 60 + ord j ∧ ord j < n := by
      intro j hj
      have := h.ol hj
      unfold lkey
      rw [adM_o (by omega) (by omega), adM_o (by omega) (by omega)]
      exact ⟨rfl, this.1⟩
    have ks : ∀ i j, i < j → j < n → lk σ (ord i) * 60 + ord i < lk σ (ord j) * 60 + ord j := fun i j a b => h.2.2.2.2.2.2.2.2.2.1.2 i j a b
    intro i j hij hj
    unfold ordI
    by_cases c1 : i < q
    · rw [if_pos c1, (ko i (by omega)).1]
      by_cases c2 : j < q
      · rw [if_pos c2, (ko j (by omega)).1]
        exact ks i j hij (by omega)
      · rw [if_neg c2]
        by_cases c3 : j = q
        · rw [if_pos c3, kn]
          have := h1 i c1
          have := (ko i (by omega)).2
          omega
        · rw [if_neg c3, (ko (j - 1) (by omega)).1]
          exact ks i (j - 1) (by omega) (by omega)
    · rw [if_neg c1, if_neg (show ¬ j < q by omega), if_neg (show ¬ j = q by omega), (ko (j - 1) (by omega)).1]
      by_cases c3 : i = q
      · rw [if_pos c3, kn]
        have := h2 (j - 1) (by omega) (by omega)
        omega
      · rw [if_neg c3, (ko (i - 1) (by omega)).1]
        exact ks (i - 1) (j - 1) (by omega) (by omega)
  · intro p' hp'
    rw [adM_k (by omega)]
    exact h.2.2.2.2.2.2.2.2.2.2 p' hp'
theorem noLineL {f : Nat} {σ : qMem} {x y z : Int32} {n : Nat} (hn : σ 13 1 = nI n) (hn2 : n ≤ 12) : p_C_noLine f σ x y z = some (@ite Int32 (rg x 0 ((n : Int) - 1) ∧ rg y 0 9999 ∧ rg z 0 4) (Classical.propDecidable _) 0 1) := by
  unfold p_C_noLine
  rw [hasL hn hn2, Option.bind_some]
  by_cases c1 : rg x 0 ((n : Int) - 1)
  · by_cases c2 : rg y 0 9999
    · by_cases c3 : rg z 0 4
      · simp [noDayL, outL, c1, c2, c3]
      · simp [noDayL, outL, c1, c2, c3]
    · simp [noDayL, c1, c2]
  · simp [c1]
theorem full60 {n : Nat} (hn : n ≤ 60) : (nI n < 60 ↔ n < 60) ∧ (nI n = 60 ↔ n = 60) := ⟨nI_ltI (a := n) (b := 60) (by omega) (by omega), nI_eq (a := n) (b := 60) (by omega) (by omega)⟩
def lnM (σ : qMem) (n : Nat) (x y z : Int32) : qMem := qmu (qmu (qmu (qmu σ 112 n x) 113 n y) 114 n z) 104 21 (nI (n + 1))
theorem line_p {f : Nat} {σ : qMem} {x y z : Int32} {n np : Nat} (hn : σ 104 5 = nI np) (hn2 : np ≤ 12) (c : rg x 0 ((np : Int) - 1) ∧ rg y 0 9999 ∧ rg z 0 4) (e : σ 104 21 = nI n) (hl : n < 60) : p_M_line f σ x y z = some (nI n, lnM σ n x y z) := by
  have hq := qin_nI (k := n) (n := 60) hl (by omega)
  have hi : (nI n).toNatClampNeg = n := qi_nI (by omega)
  have hne : ¬ nI n = 60 := fun e => by have := (full60 (show n ≤ 60 by omega)).2.mp e; omega
  simp [p_M_line, isPL hn hn2, isDayL, inL, c.1, c.2.1, c.2.2, e, hne, hq, hi, mu_c, upd, nI_1, lnM, nI_pred]
theorem line_f {f : Nat} {σ : qMem} {x y z : Int32} {n np : Nat} (hn : σ 104 5 = nI np) (hn2 : np ≤ 12) (c : rg x 0 ((np : Int) - 1) ∧ rg y 0 9999 ∧ rg z 0 4) (e : σ 104 21 = nI n) (hl : n = 60) : p_M_line f σ x y z = some (-1000003, σ) := by
  have hne : nI n = 60 := (full60 (show n ≤ 60 by omega)).2.mpr hl
  simp [p_M_line, isPL hn hn2, isDayL, inL, c.1, c.2.1, c.2.2, e, hne]
theorem line_n {f : Nat} {σ : qMem} {x y z : Int32} {np : Nat} (hn : σ 104 5 = nI np) (hn2 : np ≤ 12) (c : ¬ (rg x 0 ((np : Int) - 1) ∧ rg y 0 9999 ∧ rg z 0 4)) : p_M_line f σ x y z = some (-1000001, σ) := by
  by_cases c1 : rg x 0 ((np : Int) - 1)
  · by_cases c2 : rg y 0 9999
    · have c3 : ¬ rg z 0 4 := fun w => c ⟨c1, c2, w⟩
      simp [p_M_line, isPL hn hn2, isDayL, inL, c1, c2, c3]
    · simp [p_M_line, isPL hn hn2, isDayL, c1, c2]
  · simp [p_M_line, isPL hn hn2, c1]
theorem Inv.np {σ : qMem} (h : Inv σ) {np : Nat} (hn2 : np ≤ 12) (hn : σ 13 1 = nI np) : σ 104 5 = nI np := by
  obtain ⟨m, k1, k2, k3⟩ := h.pn
  have : m = np := (nI_eq (by omega) (by omega)).mp (k2.symm.trans hn)
  rw [← this]; exact k3
theorem say_ok {f : Nat} {σ : qMem} (h : Inv σ) (hf : 100 < f) (x y z : Int32) : PairW (p_C_say f σ x y z) (fun s => p_M_say f s x y z) := by
  obtain ⟨n, np, nA, nS, ord, hl, a1, a2, a3, a4, -⟩ := h.lih
  have hnp : np ≤ 12 := hl.2.2.1
  have e13 : σ 13 1 = nI np := hl.2.2.2.1
  have e104 := h.np hnp e13
  have e42 : σ 42 9 = nI n := hl.2.1
  have hn60 : n ≤ 60 := hl.1
  by_cases c : rg x 0 ((np : Int) - 1) ∧ rg y 0 9999 ∧ rg z 0 4
  · by_cases c4 : n < 60
    · have c0 := c
      obtain ⟨p, hp, rfl⟩ := rg_p c.1 (by omega)
      obtain ⟨d, hd, rfl⟩ := rg_nat (b := 9999) c.2.1
      obtain ⟨t, ht, rfl⟩ := rg_nat (b := 4) c.2.2
      obtain ⟨q, hq, e, hl1⟩ := add_c (f := f) hl c4 hp hd ht hf
      obtain ⟨g, e2, hj⟩ := judge_j hl1 hf
      have hlt : nI n < 60 := (full60 hn60).1.mpr c4
      refine ⟨nI n, jm (adM σ n q (nI p) (nI d) (nI t)) g, lnM (qmu (jm (adM σ n q (nI p) (nI d) (nI t)) g) 104 0 0) n (nI p) (nI d) (nI t), ?_, ?_, ?_⟩
      · unfold p_C_say
        rw [noLineL e13 hnp, Option.bind_some, if_pos c0, if_pos rfl]
        unfold p_Lines_full
        rw [e42, if_pos hlt, Option.bind_some, if_pos rfl, e, Option.bind_some, e2, Option.bind_some]
      · show p_M_say f _ _ _ _ = _
        unfold p_M_say
        rw [line_p (n := n) (np := np) (by rw [mu_j (by decide), jm_ne (by decide), adM_k (by omega)]; exact e104) hnp c0 (by rw [mu_j (by decide), jm_ne (by decide), adM_k (by omega)]; exact a4) c4, Option.bind_some]
      · unfold lnM
        have hag : agr P_li σ (adM σ n q (nI p) (nI d) (nI t)) := by
          intro a b hn
          unfold P_li at hn
          by_cases w : 43 ≤ a ∧ a ≤ 47
          · exact absurd (Or.inr (Or.inl w)) hn
          · by_cases w2 : a = 42
            · subst w2
              unfold adM
              rw [if_neg (by omega), if_neg (by omega), if_neg (by omega), if_neg (by omega), if_neg (by omega)]
            · rw [adM_k (by omega)]
        refine h.u_li (by repeat (first | exact hag | refine agr_mu ?_ (by unfold P_li; omega) | refine agr_jm ?_ (fun b => by unfold P_li; omega))) ?_
        refine li_mk hl1 hj (fun a b hs => ?_) (by simp [mu_c, jm_s]) (by simp [mu_c, jm_ne, adM_43, adM_k, a1]) (by simp [mu_c, jm_ne, adM_44, adM_k, a2]) (by simp [mu_c, jm_ne, adM_45, adM_k, a3]) (by simp [mu_c, upd])
        unfold supS at hs
        rw [mu_k (by omega), mu_k (by omega), mu_k (by omega), mu_k (by omega), mu_k (by omega), jm_ne (by omega)]
    · have hnf : ¬ nI n < 60 := fun w => c4 ((full60 hn60).1.mp w)
      refine badW (r := -1000003) h ?_ ?_
      · unfold p_C_say
        rw [noLineL e13 hnp, Option.bind_some, if_pos c, if_pos rfl]
        unfold p_Lines_full
        rw [e42, if_neg hnf, Option.bind_some, if_neg (by decide)]
      · show p_M_say f _ _ _ _ = _
        unfold p_M_say
        rw [line_f (n := n) (np := np) (by rw [mu_j (by decide)]; exact e104) hnp c (by rw [mu_j (by decide)]; exact a4) (by omega), Option.bind_some]
  · refine badW (r := -1000001) h ?_ ?_
    · unfold p_C_say
      rw [noLineL e13 hnp, Option.bind_some, if_neg c, if_neg (by decide)]
    · show p_M_say f _ _ _ _ = _
      unfold p_M_say
      rw [line_n (np := np) (by rw [mu_j (by decide)]; exact e104) hnp c, Option.bind_some]
