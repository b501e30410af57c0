/-! judging: the class -/
def liH (σ : qMem) (n np nA nS : Nat) (ord : Nat → Nat) : Prop := n ≤ 60 ∧ σ 42 9 = nI n ∧ np ≤ 12 ∧ σ 13 1 = nI np ∧ nA ≤ 10 ∧ σ 37 5 = nI nA ∧ nS ≤ 20 ∧ σ 33 3 = nI nS ∧ lnOk σ n np ∧ ordOk σ ord n ∧ ∀ p, p < np → ∃ v : Nat, v ≤ 7 ∧ σ (15 + p) 3 = nI v
theorem liH.lp {σ : qMem} {n np nA nS : Nat} {ord : Nat → Nat} (h : liH σ n np nA nS ord) {l : Nat} (hl : l < n) : σ 43 l = nI (lp σ l) ∧ lp σ l < np := by
  obtain ⟨-, -, h3, -, -, -, -, -, h9, -⟩ := h
  obtain ⟨⟨p, hp, e⟩, -⟩ := h9 l hl
  show σ 43 l = nI (qi (σ 43 l)) ∧ qi (σ 43 l) < np
  rw [e, qi_nI (by omega)]
  exact ⟨rfl, hp⟩
theorem liH.pr {σ : qMem} {n np nA nS : Nat} {ord : Nat → Nat} (h : liH σ n np nA nS ord) {l : Nat} (hl : l < n) : ∃ v : Nat, v ≤ 7 ∧ lpr σ l = nI v := by
  have := (h.lp hl).2
  obtain ⟨-, -, -, -, -, -, -, -, -, -, h11⟩ := h
  exact h11 _ this
theorem liH.ol {σ : qMem} {n np nA nS : Nat} {ord : Nat → Nat} (h : liH σ n np nA nS ord) {i : Nat} (hi : i < n) : ord i < n ∧ σ 47 i = nI (ord i) := by
  obtain ⟨-, -, -, -, -, -, -, -, -, h10, -⟩ := h
  exact h10.1 i hi
theorem liH.day {σ : qMem} {n np nA nS : Nat} {ord : Nat → Nat} (h : liH σ n np nA nS ord) {l : Nat} (hl : l < n) : (∃ d : Nat, d ≤ 9999 ∧ σ 44 l = nI d ∧ qi (σ 44 l) = d) ∧ ∃ t : Nat, t ≤ 4 ∧ σ 45 l = nI t ∧ qi (σ 45 l) = t := by
  obtain ⟨-, -, -, -, -, -, -, -, h9, -⟩ := h
  obtain ⟨-, ⟨d, hd, e⟩, ⟨t, ht, e2⟩⟩ := h9 l hl
  exact ⟨⟨d, hd, e, by rw [e, qi_nI (by omega)]⟩, ⟨t, ht, e2, by rw [e2, qi_nI (by omega)]⟩⟩
theorem liH.dle {σ : qMem} {n np nA nS : Nat} {ord : Nat → Nat} (h : liH σ n np nA nS ord) {i j : Nat} (hij : i < j) (hj : j < n) : qi (σ 44 (ord i)) ≤ qi (σ 44 (ord j)) := by
  have h1 := h.ol (show i < n by omega)
  have h2 := h.ol hj
  obtain ⟨⟨d, hd, -, e1⟩, ⟨t, ht, -, e2⟩⟩ := h.day h1.1
  obtain ⟨⟨d', hd', -, e1'⟩, ⟨t', ht', -, e2'⟩⟩ := h.day h2.1
  obtain ⟨hn, -, -, -, -, -, -, -, -, h10, -⟩ := h
  have := h10.2 i j hij hj
  unfold lkey at this
  rw [e1, e2, e1', e2'] at this
  rw [e1, e1']
  omega
theorem liH.inj {σ : qMem} {n np nA nS : Nat} {ord : Nat → Nat} (h : liH σ n np nA nS ord) {i j : Nat} (hi : i < n) (hj : j < n) (e : ord i = ord j) : i = j := by
  obtain ⟨-, -, -, -, -, -, -, -, -, h10, -⟩ := h
  rcases Nat.lt_trichotomy i j with q | q | q
  · have := h10.2 i j q hj
    rw [e] at this
    exact absurd this (Nat.lt_irrefl _)
  · exact q
  · have := h10.2 j i q hi
    rw [e] at this
    exact absurd this (Nat.lt_irrefl _)
theorem day_eq {σ : qMem} {n np nA nS : Nat} {ord : Nat → Nat} (h : liH σ n np nA nS ord) {l l' : Nat} (hl : l < n) (hl' : l' < n) : σ 44 l = σ 44 l' ↔ qi (σ 44 l) = qi (σ 44 l') := by
  obtain ⟨⟨d, hd, e1, e2⟩, -⟩ := h.day hl
  obtain ⟨⟨d', hd', e1', e2'⟩, -⟩ := h.day hl'
  rw [e2, e2', e1, e1', nI_eq (by omega) (by omega)]
theorem of_n {f : Nat} {σ : qMem} {n np nA nS : Nat} {ord : Nat → Nat} (h : liH σ n np nA nS ord) {l j : Nat} (hl : l < n) (hj : j < 11) : p_Promises_of f σ (σ 43 l) (nI j) = some (σ (15 + lp σ l) j) := by
  have h1 := h.lp hl
  have h3 : np ≤ 12 := h.2.2.1
  rw [h1.1]
  exact of_c (by omega) hj
theorem clash_s {σ : qMem} {g : Nat → Int32} {ord : Nat → Nat} {l i : Nat} : clashG σ g ord l (i + 1) ↔ (clashG σ g ord l i ∨ (g (ord i) = 1 ∧ σ 44 (ord i) = σ 44 l ∧ σ 45 (ord i) = σ 45 l ∧ (lpr σ (ord i) = lpr σ l ∨ lal σ (ord i) = lal σ l))) := by
  unfold clashG
  constructor
  · rintro ⟨j, h1, h2⟩
    by_cases e : j = i
    · subst e; exact Or.inr h2
    · exact Or.inl ⟨j, by omega, h2⟩
  · rintro (⟨j, h1, h2⟩ | h)
    · exact ⟨j, by omega, h2⟩
    · exact ⟨i, by omega, h⟩
theorem cntG_0 {σ : qMem} {g : Nat → Int32} {ord : Nat → Nat} {l : Nat} : ∀ {i : Nat}, (∀ j, j < i → ¬ σ 44 (ord j) = σ 44 l) → cntG σ g ord l i = 0
  | 0, _ => rfl
  | i + 1, h => by
    unfold cntG
    rw [cntG_0 (fun j hj => h j (by omega)), if_neg (fun q => h i (by omega) q.2.1)]
theorem cntG_le {σ : qMem} {g : Nat → Int32} {ord : Nat → Nat} {l : Nat} : ∀ {i : Nat}, cntG σ g ord l i ≤ i
  | 0 => Nat.le_refl _
  | i + 1 => by
    unfold cntG
    have := cntG_le (σ := σ) (g := g) (ord := ord) (l := l) (i := i)
    by_cases c : g (ord i) = 1 ∧ σ 44 (ord i) = σ 44 l ∧ lpr σ (ord i) = lpr σ l
    · rw [if_pos c]; omega
    · rw [if_neg c]; omega
theorem sameAl_c {f : Nat} {σ : qMem} {n np nA nS : Nat} {ord : Nat → Nat} (h : liH σ n np nA nS ord) {l l' : Nat} (hl : l < n) (hl' : l' < n) : p_Lines_sameAltar f σ (nI l) (nI l') = some (if lal σ l = lal σ l' then 1 else 0) := by
  have hn : n ≤ 60 := h.1
  have o1 := of_n (f := f) h (j := 2) hl (by omega)
  have o2 := of_n (f := f) h (j := 2) hl' (by omega)
  have z : nI 2 = 2 := rfl
  rw [z] at o1 o2
  unfold p_Lines_sameAltar
  rw [if_pos (qin_nI (by omega) (by omega)), qi_nI (by omega), o1, Option.bind_some, if_pos (qin_nI (by omega) (by omega)), qi_nI (by omega), o2, Option.bind_some]
  unfold lal
  by_cases c : σ (15 + lp σ l) 2 = σ (15 + lp σ l') 2
  · rw [if_pos c, if_pos c]
  · rw [if_neg c, if_neg c]
theorem stands_loop {f : Nat} {σ : qMem} {n np nA nS : Nat} {ord : Nat → Nat} (h : liH σ n np nA nS ord) {i pr : Nat} (hi : i < n) (hpr : lpr σ (ord i) = nI pr) (hpr2 : pr ≤ 7) (h01 : ∀ j, j < i → σ 46 (ord j) = 0 ∨ σ 46 (ord j) = 1) : ∀ (j c fu : Nat), j ≤ i → j < fu → c + cntG σ (σ 46) ord (ord i) j = cntG σ (σ 46) ord (ord i) i → ∃ r, qfix2 (p_Lines_standsAt_l84 f σ (nI (ord i)) (lpr σ (ord i)) (σ 44 (ord i))) fu (nI c) (nI j - 1) = some r ∧ ((¬ clashG σ (σ 46) ord (ord i) j ∧ nI (cntG σ (σ 46) ord (ord i) i) < σ 32 pr → r = 1) ∧ (¬ (¬ clashG σ (σ 46) ord (ord i) j ∧ nI (cntG σ (σ 46) ord (ord i) i) < σ 32 pr) → r = 0)) := by
  have hn : n ≤ 60 := h.1
  have hoi := h.ol hi
  have b217 : ∀ c : Nat, c = cntG σ (σ 46) ord (ord i) i → ∃ r, p_Lines_standsAt_b217 f σ (nI pr) (nI c) = some r ∧ ((nI (cntG σ (σ 46) ord (ord i) i) < σ 32 pr → r = 1) ∧ (¬ nI (cntG σ (σ 46) ord (ord i) i) < σ 32 pr → r = 0)) := by
    intro c hc
    unfold p_Lines_standsAt_b217
    rw [if_pos (qin_nI (by omega) (by omega)), qi_nI (by omega), hc]
    by_cases q : nI (cntG σ (σ 46) ord (ord i) i) < σ 32 pr
    · rw [if_neg (Int32.not_le.mpr q)]
      exact ⟨1, rfl, fun _ => rfl, fun w => absurd q w⟩
    · rw [if_pos (Int32.not_lt.mp q)]
      exact ⟨0, rfl, fun w => absurd w q, fun _ => rfl⟩
  intro j
  induction j with
  | zero =>
    intro c fu _ hfu hc
    obtain ⟨fu', rfl⟩ : ∃ fu', fu = fu' + 1 := ⟨fu - 1, by omega⟩
    rw [qfix2_s, hpr]
    unfold p_Lines_standsAt_l84
    rw [if_pos (by decide)]
    obtain ⟨r, e, q1, q2⟩ := b217 c (by exact hc)
    have nc : ¬ clashG σ (σ 46) ord (ord i) 0 := fun ⟨j, hj, _⟩ => absurd hj (Nat.not_lt_zero _)
    exact ⟨r, e, fun w => q1 w.2, fun w => q2 (fun w2 => w ⟨nc, w2⟩)⟩
  | succ j ih =>
    intro c fu hji hfu hc
    obtain ⟨fu', rfl⟩ : ∃ fu', fu = fu' + 1 := ⟨fu - 1, by omega⟩
    have hj : j < n := by omega
    have hoj := h.ol hj
    have hq := qin_nI (k := j) (n := 60) (by omega) (by omega)
    have hqo := qin_nI (k := ord j) (n := 60) (by omega) (by omega)
    have hqoi := qin_nI (k := ord i) (n := 60) (by omega) (by omega)
    have hqj : qi (nI j) = j := qi_nI (by omega)
    have hqoj : qi (nI (ord j)) = ord j := qi_nI (by omega)
    have hqoi2 : qi (nI (ord i)) = ord i := qi_nI (by omega)
    have o3 := of_n (f := f) h (j := 3) hoj.1 (by omega)
    have z : nI 3 = 3 := rfl
    rw [z] at o3
    have hx : nI (j + 1) - 1 = nI j := nI_pred j
    have hx2 : nI j + (-1) = nI j - 1 := (Int32.sub_eq_add_neg _ _).symm
    have hal := sameAl_c (f := f) h hoj.1 hoi.1
    rw [qfix2_s, hx]
    unfold p_Lines_standsAt_l84
    rw [if_neg (nI_pos (by omega)), if_pos hq, hqj, hoj.2, if_pos hqo, hqoj]
    by_cases c1 : σ 44 (ord j) = σ 44 (ord i)
    · rw [if_pos c1, if_pos hq, if_pos hqo]
      rcases h01 j (by omega) with g0 | g1
      · rw [if_pos g0, hx2]
        have hne : ¬ σ 46 (ord j) = 1 := by rw [g0]; decide
        obtain ⟨r, e, q1, q2⟩ := ih c fu' (by omega) (by omega) (by
          rw [← hc]
          show _ = c + (cntG σ (σ 46) ord (ord i) j + _)
          rw [if_neg (fun w => hne w.1)]
          rfl)
        have hcl : clashG σ (σ 46) ord (ord i) (j + 1) ↔ clashG σ (σ 46) ord (ord i) j := by
          rw [clash_s]
          exact ⟨fun w => w.elim id (fun w => absurd w.1 hne), Or.inl⟩
        rw [hcl]
        exact ⟨r, e, q1, q2⟩
      · have hne : ¬ σ 46 (ord j) = 0 := by rw [g1]; decide
        rw [if_neg hne, if_pos hq, if_pos hqo, o3, Option.bind_some]
        have key : ∀ s0 : Int32, (lpr σ (ord j) = lpr σ (ord i) ∧ s0 = 1) ∨ (¬ lpr σ (ord j) = lpr σ (ord i) ∧ s0 = 0) → ∃ r, p_Lines_standsAt_b151 f (qfix2 (p_Lines_standsAt_l84 f σ (nI (ord i)) (lpr σ (ord i)) (σ 44 (ord i))) fu') σ (nI (ord i)) (lpr σ (ord i)) (σ 44 (ord i)) (nI c) (nI j) s0 = some r ∧ ((¬ clashG σ (σ 46) ord (ord i) (j + 1) ∧ nI (cntG σ (σ 46) ord (ord i) i) < σ 32 pr → r = 1) ∧ (¬ (¬ clashG σ (σ 46) ord (ord i) (j + 1) ∧ nI (cntG σ (σ 46) ord (ord i) i) < σ 32 pr) → r = 0)) := by
          intro s0 hs0
          have go : ¬ (σ 45 (ord j) = σ 45 (ord i) ∧ (lpr σ (ord j) = lpr σ (ord i) ∨ lal σ (ord j) = lal σ (ord i))) → ∃ r, p_Lines_standsAt_b196 f (qfix2 (p_Lines_standsAt_l84 f σ (nI (ord i)) (lpr σ (ord i)) (σ 44 (ord i))) fu') σ (nI (ord i)) (lpr σ (ord i)) (σ 44 (ord i)) (nI c) (nI j) s0 = some r ∧ ((¬ clashG σ (σ 46) ord (ord i) (j + 1) ∧ nI (cntG σ (σ 46) ord (ord i) i) < σ 32 pr → r = 1) ∧ (¬ (¬ clashG σ (σ 46) ord (ord i) (j + 1) ∧ nI (cntG σ (σ 46) ord (ord i) i) < σ 32 pr) → r = 0)) := by
            intro hnc
            have hcl : clashG σ (σ 46) ord (ord i) (j + 1) ↔ clashG σ (σ 46) ord (ord i) j := by
              rw [clash_s]
              exact ⟨fun w => w.elim id (fun w => absurd w.2.2 hnc), Or.inl⟩
            rw [hcl]
            unfold p_Lines_standsAt_b196
            rcases hs0 with ⟨w1, w2⟩ | ⟨w1, w2⟩
            · rw [w2, if_neg (by decide), nI_1, hx2]
              refine ih (c + 1) fu' (by omega) (by omega) ?_
              rw [← hc]
              show _ = c + (cntG σ (σ 46) ord (ord i) j + _)
              rw [if_pos ⟨g1, c1, w1⟩]
              omega
            · rw [w2, if_pos rfl, Int32.add_zero, hx2]
              refine ih c fu' (by omega) (by omega) ?_
              rw [← hc]
              show _ = c + (cntG σ (σ 46) ord (ord i) j + _)
              rw [if_neg (fun w => w1 w.2.2)]
              rfl
          unfold p_Lines_standsAt_b151
          rw [if_pos hq, hqj, hoj.2, if_pos hqo, if_pos hqoi, hqoj, hqoi2]
          by_cases c2 : σ 45 (ord j) = σ 45 (ord i)
          · rw [if_pos c2]
            rcases hs0 with ⟨w1, w2⟩ | ⟨w1, w2⟩
            · rw [w2, if_neg (by decide)]
              refine ⟨0, rfl, fun w => absurd (clash_s.mpr (Or.inr ⟨g1, c1, c2, Or.inl w1⟩)) w.1, fun _ => rfl⟩
            · rw [w2, if_pos rfl, if_pos hq, hal, Option.bind_some]
              by_cases c3 : lal σ (ord j) = lal σ (ord i)
              · rw [if_pos c3, if_neg (by decide)]
                exact ⟨0, rfl, fun w => absurd (clash_s.mpr (Or.inr ⟨g1, c1, c2, Or.inr c3⟩)) w.1, fun _ => rfl⟩
              · rw [if_neg c3, if_pos rfl]
                have := go (fun w => w.2.elim w1 c3)
                rw [w2] at this
                exact this
          · rw [if_neg c2]
            exact go (fun w => c2 w.1)
        by_cases c2 : lpr σ (ord j) = lpr σ (ord i)
        · rw [if_pos (by exact c2)]
          exact key 1 (Or.inl ⟨c2, rfl⟩)
        · rw [if_neg (by exact c2)]
          exact key 0 (Or.inr ⟨c2, rfl⟩)
    · rw [if_neg c1]
      have hlt : qi (σ 44 (ord j)) < qi (σ 44 (ord i)) := by
        have := h.dle (show j < i by omega) hi
        have hne : ¬ qi (σ 44 (ord j)) = qi (σ 44 (ord i)) := fun e => c1 ((day_eq h hoj.1 hoi.1).mpr e)
        omega
      have hnd : ∀ t, t < j + 1 → ¬ σ 44 (ord t) = σ 44 (ord i) := by
        intro t ht e
        have e2 := (day_eq h (h.ol (show t < n by omega)).1 hoi.1).mp e
        by_cases q : t = j
        · rw [q] at e2; omega
        · have := h.dle (show t < j by omega) hj
          omega
      have hc0 := cntG_0 (g := σ 46) hnd
      rw [hc0] at hc
      obtain ⟨r, e, q1, q2⟩ := b217 c (by omega)
      rw [hpr]
      have nc : ¬ clashG σ (σ 46) ord (ord i) (j + 1) := fun ⟨t, ht, _, w, _⟩ => hnd t ht w
      exact ⟨r, e, fun w => q1 w.2, fun w => q2 (fun w2 => w ⟨nc, w2⟩)⟩
theorem standsAt_c {f : Nat} {σ : qMem} {n np nA nS : Nat} {ord : Nat → Nat} (h : liH σ n np nA nS ord) {i : Nat} (hi : i < n) (h01 : ∀ j, j < i → σ 46 (ord j) = 0 ∨ σ 46 (ord j) = 1) (hf : 100 < f) : ∃ r, p_Lines_standsAt f σ (nI i) = some r ∧ (stands σ (σ 46) ord nA nS i → r = 1) ∧ (¬ stands σ (σ 46) ord nA nS i → r = 0) := by
  have hn : n ≤ 60 := h.1
  have hnp : np ≤ 12 := h.2.2.1
  have hoi := h.ol hi
  have hl := h.lp hoi.1
  obtain ⟨pr, hpr2, hpr⟩ := h.pr hoi.1
  have hq := qin_nI (k := i) (n := 60) (by omega) (by omega)
  have hqo := qin_nI (k := ord i) (n := 60) (by omega) (by omega)
  have hqi : qi (nI i) = i := qi_nI (by omega)
  have hqoi : qi (nI (ord i)) = ord i := qi_nI (by omega)
  have o3 : p_Promises_of f σ (σ 43 (ord i)) 3 = some (lpr σ (ord i)) := of_n (f := f) h (j := 3) hoi.1 (by omega)
  have o5 : p_Promises_of f σ (σ 43 (ord i)) 5 = some (σ (15 + lp σ (ord i)) 5) := of_n (f := f) h (j := 5) hoi.1 (by omega)
  have he := end_c (f := f) (σ := σ) (p := lp σ (ord i)) (n := nA) (d := σ 44 (ord i)) (by omega) h.2.2.2.2.2.1 h.2.2.2.2.1 hf
  rw [← hl.1] at he
  have hs := cov_s (f := f) (σ := σ) (x := lpr σ (ord i)) (d := σ 44 (ord i)) h.2.2.2.2.2.2.2.1 h.2.2.2.2.2.2.1 hf
  unfold p_Lines_standsAt
  rw [if_pos hq, hqi, hoi.2, if_pos hqo, hqoi, o3, Option.bind_some, if_pos hqo, o5, Option.bind_some]
  have no : ¬ stB σ nA nS (ord i) → ¬ stands σ (σ 46) ord nA nS i := fun w w2 => w w2.1
  by_cases c1 : σ 44 (ord i) < σ (15 + lp σ (ord i)) 5
  · rw [if_pos c1]
    have := no (fun w => absurd w.1 (Int32.not_le.mpr c1))
    exact ⟨0, rfl, fun w => absurd w this, fun _ => rfl⟩
  · rw [if_neg c1]
    by_cases c2 : endP σ (lp σ (ord i)) nA (σ 44 (ord i))
    · rw [he.1 c2, Option.bind_some, if_neg (by decide)]
      have := no (fun w => w.2.1 c2)
      exact ⟨0, rfl, fun w => absurd w this, fun _ => rfl⟩
    · rw [he.2 c2, Option.bind_some, if_pos rfl, hs, Option.bind_some]
      by_cases c3 : anyI (sickB σ (lpr σ (ord i)) (σ 44 (ord i))) nS 0 = 0
      · rw [if_pos c3]
        obtain ⟨r, e, q1, q2⟩ := stands_loop (f := f) h hi hpr hpr2 h01 i 0 f (Nat.le_refl _) (by omega) (Nat.zero_add _)
        refine ⟨r, e, fun w => q1 ⟨w.2.1, ?_⟩, fun w => q2 (fun w2 => w ⟨⟨Int32.not_lt.mp c1, c2, c3⟩, w2.1, ?_⟩)⟩
        · have := w.2.2
          rw [hpr, qi_nI (by omega)] at this
          exact this
        · rw [hpr, qi_nI (by omega)]
          exact w2.2
      · rw [if_neg c3]
        have := no (fun w => c3 w.2.2)
        exact ⟨0, rfl, fun w => absurd w this, fun _ => rfl⟩
/-- cells that judging reads, its own answers aside -/
def supS (k j : Nat) : Prop := (43 ≤ k ∧ k ≤ 45) ∨ (15 ≤ k ∧ k ≤ 26) ∨ (34 ≤ k ∧ k ≤ 36) ∨ (38 ≤ k ∧ k ≤ 41) ∨ k = 32
theorem stands_cg {σ σ' : qMem} {n np nA nS : Nat} {ord : Nat → Nat} {g : Nat → Int32} (h9 : lnOk σ n np) (hnp : np ≤ 12) (ho : ∀ i, i < n → ord i < n) (ha : ∀ k j, supS k j → σ' k j = σ k j) {i : Nat} (hi : i < n) : stands σ' g ord nA nS i ↔ stands σ g ord nA nS i := by
  have c : ∀ k, ((43 ≤ k ∧ k ≤ 45) ∨ (15 ≤ k ∧ k ≤ 26) ∨ (34 ≤ k ∧ k ≤ 36) ∨ (38 ≤ k ∧ k ≤ 41) ∨ k = 32) → σ' k = σ k := fun k hk => funext fun j => ha _ _ hk
  have c43 := c 43 (by omega)
  have c44 := c 44 (by omega)
  have c45 := c 45 (by omega)
  have hlp : ∀ l, lp σ' l = lp σ l := fun l => by unfold lp; rw [c43]
  have hlt : ∀ l, l < n → lp σ l < 12 := fun l hl => by
    obtain ⟨⟨p, hp, e⟩, -⟩ := h9 l hl
    unfold lp
    rw [e, qi_nI (by omega)]
    omega
  have hrow : ∀ l, l < n → σ' (15 + lp σ l) = σ (15 + lp σ l) := fun l hl => c _ (by have := hlt l hl; omega)
  have hpr : ∀ l, l < n → lpr σ' l = lpr σ l := fun l hl => by unfold lpr; rw [hlp, hrow l hl]
  have hal : ∀ l, l < n → lal σ' l = lal σ l := fun l hl => by unfold lal; rw [hlp, hrow l hl]
  have hcnt : ∀ l, l < n → ∀ i, i ≤ n → cntG σ' g ord l i = cntG σ g ord l i := by
    intro l hl i
    induction i with
    | zero => intro _; rfl
    | succ i ih =>
      intro hi
      unfold cntG
      rw [ih (by omega), c44, hpr _ (ho i (by omega)), hpr l hl]
  have hoi := ho i hi
  unfold stands stB clashG endP tkBy
  rw [hcnt _ hoi i (by omega), hpr _ hoi, hal _ hoi, hlp, hrow _ hoi, c44, c45, c 32 (by omega), tkN_cg (hrow _ hoi) (c 38 (by omega)) (c 39 (by omega)) (c 40 (by omega)) (c 41 (by omega))]
  have hs : ∀ x d, anyI (sickB σ' x d) nS 0 = anyI (sickB σ x d) nS 0 := fun x d => anyI_cg nS 0 (fun j _ _ => by unfold sickB; rw [c 34 (by omega), c 35 (by omega), c 36 (by omega)])
  rw [hs]
  have hcl : (∃ j, j < i ∧ g (ord j) = 1 ∧ σ 44 (ord j) = σ 44 (ord i) ∧ σ 45 (ord j) = σ 45 (ord i) ∧ (lpr σ' (ord j) = lpr σ (ord i) ∨ lal σ' (ord j) = lal σ (ord i))) ↔ ∃ j, j < i ∧ g (ord j) = 1 ∧ σ 44 (ord j) = σ 44 (ord i) ∧ σ 45 (ord j) = σ 45 (ord i) ∧ (lpr σ (ord j) = lpr σ (ord i) ∨ lal σ (ord j) = lal σ (ord i)) := by
    constructor
    · rintro ⟨j, a1, a2⟩
      rw [hpr _ (ho j (by omega)), hal _ (ho j (by omega))] at a2
      exact ⟨j, a1, a2⟩
    · rintro ⟨j, a1, a2⟩
      refine ⟨j, a1, ?_⟩
      rw [hpr _ (ho j (by omega)), hal _ (ho j (by omega))]
      exact a2
  rw [hcl]
theorem stands_g {σ : qMem} {n nA nS : Nat} {ord : Nat → Nat} {g g' : Nat → Int32} {i : Nat} (hg : ∀ j, j < i → g' (ord j) = g (ord j)) : stands σ g' ord nA nS i ↔ stands σ g ord nA nS i := by
  have hcnt : ∀ t, t ≤ i → cntG σ g' ord (ord i) t = cntG σ g ord (ord i) t := by
    intro t
    induction t with
    | zero => intro _; rfl
    | succ t ih =>
      intro ht
      unfold cntG
      rw [ih (by omega), hg t (by omega)]
  unfold stands clashG
  rw [hcnt i (Nat.le_refl _)]
  have hcl : (∃ j, j < i ∧ g' (ord j) = 1 ∧ σ 44 (ord j) = σ 44 (ord i) ∧ σ 45 (ord j) = σ 45 (ord i) ∧ (lpr σ (ord j) = lpr σ (ord i) ∨ lal σ (ord j) = lal σ (ord i))) ↔ ∃ j, j < i ∧ g (ord j) = 1 ∧ σ 44 (ord j) = σ 44 (ord i) ∧ σ 45 (ord j) = σ 45 (ord i) ∧ (lpr σ (ord j) = lpr σ (ord i) ∨ lal σ (ord j) = lal σ (ord i)) := by
    constructor
    · rintro ⟨j, a1, a2, a3⟩
      exact ⟨j, a1, by rw [← hg j a1]; exact a2, a3⟩
    · rintro ⟨j, a1, a2, a3⟩
      exact ⟨j, a1, by rw [hg j a1]; exact a2, a3⟩
  rw [hcl]
theorem liH_cg {σ σ' : qMem} {n np nA nS : Nat} {ord : Nat → Nat} (h : liH σ n np nA nS ord) (ha : ∀ k j, k ≠ 46 → σ' k j = σ k j) : liH σ' n np nA nS ord := by
  have c : ∀ k, k ≠ 46 → σ' k = σ k := fun k hk => funext fun j => ha k j hk
  obtain ⟨h1, h2, h3, h4, h5, h6, h7, h8, h9, h10, h11⟩ := h
  refine ⟨h1, by rw [ha _ _ (by decide)]; exact h2, h3, by rw [ha _ _ (by decide)]; exact h4, h5, by rw [ha _ _ (by decide)]; exact h6, h7, by rw [ha _ _ (by decide)]; exact h8, ?_, ?_, ?_⟩
  · unfold lnOk
    rw [c 43 (by decide), c 44 (by decide), c 45 (by decide)]
    exact h9
  · unfold ordOk lkey
    rw [c 47 (by decide), c 44 (by decide), c 45 (by decide)]
    exact h10
  · intro p hp
    rw [ha _ _ (by omega)]
    exact h11 p hp
theorem judge_c {f : Nat} {σ : qMem} {n np nA nS : Nat} {ord : Nat → Nat} (h : liH σ n np nA nS ord) (hf : 100 < f) : ∃ g : Nat → Int32, p_Lines_judge f σ = some (fun a b => if a = 46 then g b else σ a b) ∧ judged σ g ord n nA nS := by
  have hn : n ≤ 60 := h.1
  have hnp : np ≤ 12 := h.2.2.1
  unfold p_Lines_judge
  have key := wf2 (F := p_Lines_judge_l2 f) (fun τ x => ∃ i : Nat, i ≤ n ∧ x = nI i ∧ (∀ k j, k ≠ 46 → τ k j = σ k j) ∧ ∀ j, j < i → (stands σ (τ 46) ord nA nS j → τ 46 (ord j) = 1) ∧ (¬ stands σ (τ 46) ord nA nS j → τ 46 (ord j) = 0)) (fun _ x => 100 - qi x) (fun _ _ r => (∀ k j, k ≠ 46 → r k j = σ k j) ∧ judged σ (r 46) ord n nA nS) ?_ f σ 0 ⟨0, by omega, rfl, fun _ _ _ => rfl, fun j hj => absurd hj (Nat.not_lt_zero _)⟩ (by show 100 - _ < f; omega)
  · obtain ⟨r, e, q1, q2⟩ := key
    refine ⟨r 46, ?_, q2⟩
    rw [e]
    congr 1
    funext a b
    by_cases c : a = 46
    · rw [if_pos c, c]
    · rw [if_neg c]; exact q1 a b c
  · rintro k τ x ⟨i, hi, rfl, ha, hj⟩ ih
    have hτ := liH_cg h ha
    by_cases c : i = n
    · subst c
      refine ⟨τ, ?_, ha, hj⟩
      unfold p_Lines_judge_l2
      rw [hτ.2.1, if_pos (nI_le (Nat.le_refl _) (by omega))]
    · have hin : i < n := by omega
      have hoi := hτ.ol hin
      have hst : ∀ (g : Nat → Int32) j, j < n → (stands τ g ord nA nS j ↔ stands σ g ord nA nS j) := fun g j hj => stands_cg h.2.2.2.2.2.2.2.2.1 hnp (fun i hi => (h.ol hi).1) (fun k j hs => ha k j (by unfold supS at hs; omega)) hj
      obtain ⟨r, e, q1, q2⟩ := standsAt_c (f := f) hτ hin (fun j hj2 => by
        by_cases w : stands σ (τ 46) ord nA nS j
        · exact Or.inr ((hj j hj2).1 w)
        · exact Or.inl ((hj j hj2).2 w)) hf
      rw [hst _ i hin] at q1 q2
      have r01 : vp_nar .boolean r = r := by
        by_cases w : stands σ (τ 46) ord nA nS i
        · rw [q1 w]; exact zn_1
        · rw [q2 w]; exact zn_0
      have hself : (qmu τ 46 (ord i) r) 46 (ord i) = r := mu_s
      have hoth : ∀ j, j < n → j ≠ i → (qmu τ 46 (ord i) r) 46 (ord j) = τ 46 (ord j) := fun j hj hne => mu_j (fun w => hne (h.inj hj hin w))
      obtain ⟨r', e', q'⟩ := ih (qmu τ 46 (ord i) r) (nI (i + 1)) ⟨i + 1, by omega, rfl, fun k j hk => by rw [mu_k hk]; exact ha k j hk, fun j hj2 => by
        by_cases w : j = i
        · subst w
          rw [hself, stands_g (n := n) (g := τ 46) (fun t ht => hoth t (by omega) (by omega))]
          exact ⟨q1, q2⟩
        · rw [hoth j (by omega) w, stands_g (n := n) (g := τ 46) (fun t ht => hoth t (by omega) (by omega))]
          exact hj j (by omega)⟩ (by
        show 100 - qi (nI (i + 1)) < 100 - qi (nI i)
        rw [qi_nI (by omega), qi_nI (by omega)]
        omega)
      refine ⟨r', ?_, q'⟩
      unfold p_Lines_judge_l2
      rw [hτ.2.1, if_neg (nI_ge hin (by omega)), if_pos (qin_nI (by omega) (by omega)), e, Option.bind_some, qi_nI (by omega), hoi.2, if_pos (qin_nI (by omega) (by omega)), qi_nI (by omega), r01, nI_1]
      exact e'
