/-! judging: the model -/
def mdH (τ : qMem) (n np nA nS : Nat) (ord : Nat → Nat) : Prop := liH τ n np nA nS ord ∧ τ 43 = τ 112 ∧ τ 44 = τ 113 ∧ τ 45 = τ 114 ∧ τ 104 21 = nI n ∧ g_ac τ ∧ g_si τ ∧ τ 32 = τ 116 ∧ ∀ p, p < np → rowEq τ p
theorem of_mn {f : Nat} {τ : qMem} {n np nA nS : Nat} {ord : Nat → Nat} (h : mdH τ n np nA nS ord) {l j : Nat} (hl : l < n) (hj : j < 11) : p_M_of f τ (τ 112 l) (nI j) = some (τ (15 + lp τ l) j) := by
  have h1 := h.1.lp hl
  have h3 : np ≤ 12 := h.1.2.2.1
  rw [← h.2.1, h1.1]
  exact of_r (h.2.2.2.2.2.2.2.2 _ h1.2) (by omega) hj
theorem key_m {τ : qMem} {n np nA nS : Nat} {ord : Nat → Nat} (h : mdH τ n np nA nS ord) {l : Nat} (hl : l < n) : ((5 : Int32) * τ 113 l) + τ 114 l = nI (lk τ l) ∧ lk τ l ≤ 49999 := by
  obtain ⟨⟨d, hd, e1, e2⟩, ⟨t, ht, e3, e4⟩⟩ := h.1.day hl
  rw [← h.2.2.1, ← h.2.2.2.1, e1, e3, show (5 : Int32) = nI 5 from rfl, nI_mul, nI_add]
  unfold lk
  rw [e2, e4]
  exact ⟨rfl, by omega⟩
def bst (τ : qMem) (M : Nat) : Nat → Int32
  | 0 => -1000000
  | k + 1 => if M.testBit k = true then bst τ M k else if bst τ M k = -1000000 then nI k else if lk τ (qi (bst τ M k)) ≤ lk τ k then bst τ M k else nI k
theorem nI_nn {a : Nat} (h : a < 2 ^ 31) : ¬ nI a = -1000000 := fun w => by
  have : (nI a).toInt = (-1000000 : Int32).toInt := by rw [w]
  rw [nI_toInt h, show (-1000000 : Int32).toInt = -1000000 from rfl] at this
  omega
theorem bst_v {τ : qMem} {M : Nat} : ∀ k, k ≤ 60 → (bst τ M k = -1000000 ∧ ∀ j, j < k → M.testBit j = true) ∨ ∃ a, a < k ∧ bst τ M k = nI a ∧ ¬ M.testBit a = true ∧ ∀ j, j < k → ¬ M.testBit j = true → lk τ a * 60 + a ≤ lk τ j * 60 + j
  | 0, _ => Or.inl ⟨rfl, fun j hj => absurd hj (Nat.not_lt_zero _)⟩
  | k + 1, hk => by
    unfold bst
    have ih := bst_v (τ := τ) (M := M) k (by omega)
    by_cases c : M.testBit k = true
    · rw [if_pos c]
      rcases ih with ⟨e, h1⟩ | ⟨a, ha, e, h1, h2⟩
      · refine Or.inl ⟨e, fun j hj => ?_⟩
        by_cases q : j = k
        · rw [q]; exact c
        · exact h1 j (by omega)
      · refine Or.inr ⟨a, by omega, e, h1, fun j hj hm => ?_⟩
        by_cases q : j = k
        · rw [q] at hm; exact absurd c hm
        · exact h2 j (by omega) hm
    · rw [if_neg c]
      rcases ih with ⟨e, h1⟩ | ⟨a, ha, e, h1, h2⟩
      · rw [if_pos e]
        refine Or.inr ⟨k, by omega, rfl, c, fun j hj hm => ?_⟩
        by_cases q : j = k
        · rw [q]; exact Nat.le_refl _
        · exact absurd (h1 j (by omega)) hm
      · rw [if_neg (by rw [e]; exact nI_nn (by omega)), e, qi_nI (by omega)]
        by_cases c2 : lk τ a ≤ lk τ k
        · rw [if_pos c2]
          refine Or.inr ⟨a, by omega, rfl, h1, fun j hj hm => ?_⟩
          by_cases q : j = k
          · rw [q]; omega
          · exact h2 j (by omega) hm
        · rw [if_neg c2]
          refine Or.inr ⟨k, by omega, rfl, c, fun j hj hm => ?_⟩
          by_cases q : j = k
          · rw [q]; exact Nat.le_refl _
          · have := h2 j (by omega) hm
            omega
def clB (τ : qMem) (M l k : Nat) : Bool := M.testBit k && decide (¬ τ 115 k = 0 ∧ τ 44 k = τ 44 l ∧ τ 45 k = τ 45 l ∧ (lpr τ k = lpr τ l ∨ lal τ k = lal τ l))
def hdB (τ : qMem) (l k : Nat) : Bool := decide (¬ τ 115 k = 0 ∧ τ 44 k = τ 44 l ∧ lpr τ k = lpr τ l)
def gdA (v : Int32) (C : Nat → Bool) : Nat → Int32
  | 0 => v
  | k + 1 => if C k = true then 0 else gdA v C k
theorem gdA_01 {v : Int32} {C : Nat → Bool} (hv : v = 0 ∨ v = 1) : ∀ k, gdA v C k = 0 ∨ gdA v C k = 1
  | 0 => hv
  | k + 1 => by
    unfold gdA
    by_cases c : C k = true
    · rw [if_pos c]; exact Or.inl rfl
    · rw [if_neg c]; exact gdA_01 hv k
theorem gdA_1 {v : Int32} {C : Nat → Bool} : ∀ {k : Nat}, gdA v C k = 1 ↔ v = 1 ∧ ∀ j, j < k → ¬ C j = true
  | 0 => ⟨fun h => ⟨h, fun j hj => absurd hj (Nat.not_lt_zero _)⟩, fun h => h.1⟩
  | k + 1 => by
    unfold gdA
    by_cases c : C k = true
    · rw [if_pos c]
      exact ⟨fun w => absurd w (by decide), fun w => absurd c (w.2 k (by omega))⟩
    · rw [if_neg c, gdA_1]
      refine ⟨fun w => ⟨w.1, fun j hj => ?_⟩, fun w => ⟨w.1, fun j hj => w.2 j (by omega)⟩⟩
      by_cases q : j = k
      · rw [q]; exact c
      · exact w.2 j (by omega)
theorem l180_run {f : Nat} {τ : qMem} {n np nA nS : Nat} {ord : Nat → Nat} (h : mdH τ n np nA nS ord) {M l : Nat} (hl : l < n) (hM : M < 2 ^ 60) {v x3 : Int32} (hv : v = 0 ∨ v = 1) (hf : 100 < f) (k4 : qMem → Int64 → Int32 → Option qMem) : qfix3 (p_M_judge_l180 f τ (lN M) x3 (nI l) (τ 112 l) (τ 113 l) k4) f v 0 0 = k4 (qmu τ 115 l (if gdA v (clB τ M l) n = 1 ∧ nI (sm (fun k => bI (M.testBit k && hdB τ l k)) n) < τ 32 (qi (lpr τ l)) then 1 else 0)) (lN (M ||| 2 ^ l)) (x3 + 1) := by
  have hn : n ≤ 60 := h.1.1
  have hql := qin_nI (k := l) (n := 60) (by omega) (by omega)
  have hqil : qi (nI l) = l := qi_nI (by omega)
  have z3 : nI 3 = 3 := rfl
  have z2 : nI 2 = 2 := rfl
  have o3l := of_mn (f := f) h (j := 3) hl (by omega)
  have o2l := of_mn (f := f) h (j := 2) hl (by omega)
  rw [z3] at o3l
  rw [z2] at o2l
  refine run3o (n := n) (f := f) (fun k => gdA v (clB τ M l) k) (fun k => nI (sm (fun k => bI (M.testBit k && hdB τ l k)) k)) (by omega) (fun k => ?_) (fun k i hi => ?_)
  · obtain ⟨pr, hp7, hpr⟩ := h.1.pr hl
    have hor : lN M ||| (1 : Int64) <<< ((nI l).toInt64 &&& 63) = lN (M ||| 2 ^ l) := by rw [mk_1 l (by omega), mk_or]
    have o3l' : p_M_of f τ (τ 112 l) 3 = some (nI pr) := by rw [o3l, ← hpr]; rfl
    unfold p_M_judge_l180
    rw [h.2.2.2.2.1, if_pos (nI_le (Nat.le_refl _) (by omega)), hor, if_pos hql, hqil, o3l', Option.bind_some, if_pos (qin_nI (by omega) (by omega)), qi_nI (by omega), ← h.2.2.2.2.2.2.2.1, hpr, qi_nI (by omega), zn_0, zn_1]
    rcases gdA_01 (C := clB τ M l) hv n with g0 | g1
    · rw [if_pos g0, g0, if_neg (fun w => absurd w.1 (by decide))]
    · rw [g1, if_neg (by decide)]
      by_cases c : τ 32 pr ≤ nI (sm (fun k => bI (M.testBit k && hdB τ l k)) n)
      · rw [if_pos c, if_neg (fun w => absurd w.2 (Int32.not_lt.mpr c))]
      · rw [if_neg c, if_pos (show (1 : Int32) = 1 ∧ nI (sm (fun k => bI (M.testBit k && hdB τ l k)) n) < τ 32 pr from ⟨rfl, Int32.not_le.mp c⟩), if_pos hql]
  · have hq := qin_nI (k := i) (n := 60) (by omega) (by omega)
    have hqi : qi (nI i) = i := qi_nI (by omega)
    have o3 := of_mn (f := f) h (j := 3) hi (by omega)
    have o2 := of_mn (f := f) h (j := 2) hi (by omega)
    rw [z3] at o3
    rw [z2] at o2
    have hsm : sm (fun k => bI (M.testBit k && hdB τ l k)) (i + 1) = sm (fun k => bI (M.testBit k && hdB τ l k)) i + bI (M.testBit i && hdB τ l i) := rfl
    have hga : gdA v (clB τ M l) (i + 1) = if clB τ M l i = true then 0 else gdA v (clB τ M l) i := rfl
    rw [hsm, hga]
    unfold p_M_judge_l180
    rw [h.2.2.2.2.1, if_neg (nI_ge hi (by omega)), nI_1]
    have skip : ¬ (M.testBit i = true ∧ ¬ τ 115 i = 0 ∧ τ 44 i = τ 44 l) → k (gdA v (clB τ M l) i) (nI (sm (fun k => bI (M.testBit k && hdB τ l k)) i)) (nI (i + 1)) = k (if clB τ M l i = true then 0 else gdA v (clB τ M l) i) (nI (sm (fun k => bI (M.testBit k && hdB τ l k)) i + bI (M.testBit i && hdB τ l i))) (nI (i + 1)) := by
      intro hno
      have e1 : ¬ clB τ M l i = true := by
        unfold clB
        simp only [Bool.and_eq_true, decide_eq_true_eq]
        exact fun w => hno ⟨w.1, w.2.1, w.2.2.1⟩
      have e2 : bI (M.testBit i && hdB τ l i) = 0 := by
        have : ¬ (M.testBit i && hdB τ l i) = true := by
          unfold hdB
          simp only [Bool.and_eq_true, decide_eq_true_eq]
          exact fun w => hno ⟨w.1, w.2.1, w.2.2.1⟩
        unfold bI
        rw [if_neg this]
      rw [if_neg e1, e2]
      rfl
    by_cases c1 : M.testBit i = true
    · rw [if_pos ((bt_1 (by omega) (by omega)).mpr c1), if_pos hq, hqi]
      by_cases c2 : τ 115 i = 0
      · rw [if_pos c2]
        exact skip (fun w => w.2.1 c2)
      · rw [if_neg c2, if_pos hq, ← h.2.2.1]
        by_cases c3 : τ 44 i = τ 44 l
        · rw [if_pos c3, if_pos hq, o3, Option.bind_some, o3l, Option.bind_some]
          have hcl : clB τ M l i = true ↔ τ 45 i = τ 45 l ∧ (lpr τ i = lpr τ l ∨ lal τ i = lal τ l) := by
            unfold clB
            simp [c1, c2, c3]
          have hhd : bI (M.testBit i && hdB τ l i) = if lpr τ i = lpr τ l then 1 else 0 := by
            unfold hdB
            by_cases q : lpr τ i = lpr τ l <;> simp [c1, c2, c3, q, bI]
          have tail : ∀ (s0 : Int32) (C : Prop), (C ∧ s0 = 1) ∨ (¬ C ∧ s0 = 0) → (C ↔ lpr τ i = lpr τ l) → p_M_judge_b253 f k4 k τ (lN M) x3 (nI l) (τ 112 l) (τ 44 l) (gdA v (clB τ M l) i) (nI (sm (fun k => bI (M.testBit k && hdB τ l k)) i)) (nI i) (τ 112 i) s0 = k (if clB τ M l i = true then 0 else gdA v (clB τ M l) i) (nI (sm (fun k => bI (M.testBit k && hdB τ l k)) i + bI (M.testBit i && hdB τ l i))) (nI (i + 1)) := by
            intro s0 C hs0 hC
            have h304 : ∀ w : Int32, p_M_judge_b304 f k4 k τ (lN M) x3 (nI l) (τ 112 l) (τ 44 l) (nI (sm (fun k => bI (M.testBit k && hdB τ l k)) i)) (nI i) s0 w = k w (nI (sm (fun k => bI (M.testBit k && hdB τ l k)) i + bI (M.testBit i && hdB τ l i))) (nI (i + 1)) := by
              intro w
              unfold p_M_judge_b304
              rw [hhd, nI_1]
              rcases hs0 with ⟨q1, q2⟩ | ⟨q1, q2⟩
              · rw [q2, if_neg (by decide), if_pos (hC.mp q1), nI_1]
              · rw [q2, if_pos rfl, if_neg (fun q => q1 (hC.mpr q)), Int32.add_zero]
                rfl
            unfold p_M_judge_b253 p_M_judge_b303
            rw [h304, h304, if_pos hq, if_pos hql, hqi, hqil, ← h.2.2.2.1, o2, Option.bind_some, o2l, Option.bind_some]
            rcases gdA_01 (C := clB τ M l) hv i with g0 | g1
            · rw [g0, if_pos rfl]
              by_cases q : clB τ M l i = true
              · rw [if_pos q]
              · rw [if_neg q]
            · rw [g1, if_neg (by decide)]
              by_cases c4 : τ 45 i = τ 45 l
              · rw [if_pos c4]
                rcases hs0 with ⟨q1, q2⟩ | ⟨q1, q2⟩
                · rw [q2, if_neg (by decide), if_pos (hcl.mpr ⟨c4, Or.inl (hC.mp q1)⟩)]
                · rw [q2, if_pos rfl]
                  by_cases c5 : lal τ i = lal τ l
                  · rw [if_pos (show τ (15 + lp τ i) 2 = τ (15 + lp τ l) 2 from c5), if_pos (hcl.mpr ⟨c4, Or.inr c5⟩)]
                  · rw [if_neg (show ¬ τ (15 + lp τ i) 2 = τ (15 + lp τ l) 2 from c5), if_neg (fun w => (hcl.mp w).2.elim (fun z => q1 (hC.mpr z)) c5)]
              · rw [if_neg c4, if_neg (fun w => c4 (hcl.mp w).1)]
          by_cases c4 : lpr τ i = lpr τ l
          · rw [if_pos (show τ (15 + lp τ i) 3 = τ (15 + lp τ l) 3 from c4)]
            exact tail 1 _ (Or.inl ⟨c4, rfl⟩) Iff.rfl
          · rw [if_neg (show ¬ τ (15 + lp τ i) 3 = τ (15 + lp τ l) 3 from c4)]
            exact tail 0 _ (Or.inr ⟨c4, rfl⟩) Iff.rfl
        · rw [if_neg c3]
          exact skip (fun w => c3 w.2.2)
    · rw [if_neg (fun w => c1 ((bt_1 (by omega) (by omega)).mp w))]
      exact skip (fun w => c1 w.1)
theorem jm_step {f : Nat} {τ : qMem} {n np nA nS : Nat} {ord : Nat → Nat} (h : mdH τ n np nA nS ord) {i M : Nat} (hi : i < n) (hM : M < 2 ^ 60) (hmet : ∀ k, k < n → (M.testBit k = true ↔ ∃ j, j < i ∧ ord j = k)) (h01 : ∀ j, j < i → τ 115 (ord j) = 0 ∨ τ 115 (ord j) = 1) (hf : 100 < f) (k4 : qMem → Int64 → Int32 → Option qMem) : ∃ v : Int32, (stands τ (τ 115) ord nA nS i → v = 1) ∧ (¬ stands τ (τ 115) ord nA nS i → v = 0) ∧ qfix2 (p_M_judge_l19 f τ (lN M) (nI i) k4) f (-1000000) 0 = k4 (qmu τ 115 (ord i) v) (lN (M ||| 2 ^ (ord i))) (nI (i + 1)) := by
  have hn : n ≤ 60 := h.1.1
  have hnp : np ≤ 12 := h.1.2.2.1
  have hoi := h.1.ol hi
  have hsur := ord_surj (fun j hj => (h.1.ol hj).1) (fun j j' a b e => h.1.inj a b e)
  have hun : ¬ M.testBit (ord i) = true := fun w => by
    obtain ⟨j, hj, e⟩ := (hmet _ hoi.1).mp w
    have := h.1.inj (by omega) hi e
    omega
  have hbst : bst τ M n = nI (ord i) := by
    rcases bst_v (τ := τ) (M := M) n hn with ⟨-, h1⟩ | ⟨a, ha, e, h1, h2⟩
    · exact absurd (h1 _ hoi.1) hun
    · obtain ⟨j, hj, ej⟩ := hsur a ha
      have hji : ¬ j < i := fun w => h1 ((hmet a ha).mpr ⟨j, w, ej⟩)
      have h3 := h2 _ hoi.1 hun
      by_cases q : j = i
      · rw [e, ← ej, q]
      · have h4 : lkey τ (ord i) < lkey τ (ord j) := h.1.2.2.2.2.2.2.2.2.2.1.2 i j (by omega) hj
        have e5 : lkey τ (ord i) = lk τ (ord i) * 60 + ord i := rfl
        have e6 : lkey τ (ord j) = lk τ (ord j) * 60 + ord j := rfl
        rw [e5, e6, ej] at h4
        omega
  have hcnt : cntG τ (τ 115) ord (ord i) i = sm (fun k => bI (M.testBit k && hdB τ (ord i) k)) n := by
    rw [cntG_sm, cnt_bij (hdB τ (ord i)) (fun k => M.testBit k) (fun j hj => (h.1.ol (show j < n by omega)).1) (fun j j' a b e => h.1.inj (by omega) (by omega) e) hmet]
    refine sm_cg (fun j hj => ?_)
    have : (τ 115 (ord j) = 1) ↔ ¬ τ 115 (ord j) = 0 := by
      rcases h01 j hj with q | q <;> rw [q] <;> decide
    unfold hdB
    congr 1
    exact decide_eq_decide.mpr (by rw [this])
  have hcla : (∀ k, k < n → ¬ clB τ M (ord i) k = true) ↔ ¬ clashG τ (τ 115) ord (ord i) i := by
    have h1 : ∀ j, j < i → ((τ 115 (ord j) = 1) ↔ ¬ τ 115 (ord j) = 0) := fun j hj => by rcases h01 j hj with q | q <;> rw [q] <;> decide
    constructor
    · rintro w ⟨j, hj, g1, q1, q2, q3⟩
      refine w (ord j) (h.1.ol (show j < n by omega)).1 ?_
      unfold clB
      simp only [Bool.and_eq_true, decide_eq_true_eq]
      exact ⟨(hmet _ (h.1.ol (show j < n by omega)).1).mpr ⟨j, hj, rfl⟩, (h1 j hj).mp g1, q1, q2, q3⟩
    · intro w k hk q
      unfold clB at q
      simp only [Bool.and_eq_true, decide_eq_true_eq] at q
      obtain ⟨j, hj, e⟩ := (hmet k hk).mp q.1
      rw [← e] at q
      exact w ⟨j, hj, (h1 j hj).mpr q.2.1, q.2.2.1, q.2.2.2.1, q.2.2.2.2⟩
  have fin : ∀ v : Int32, (stB τ nA nS (ord i) → v = 1) → (¬ stB τ nA nS (ord i) → v = 0) → ∃ w : Int32, (stands τ (τ 115) ord nA nS i → w = 1) ∧ (¬ stands τ (τ 115) ord nA nS i → w = 0) ∧ qfix3 (p_M_judge_l180 f τ (lN M) (nI i) (nI (ord i)) (τ 112 (ord i)) (τ 113 (ord i)) k4) f v 0 0 = k4 (qmu τ 115 (ord i) w) (lN (M ||| 2 ^ (ord i))) (nI (i + 1)) := by
    intro v v1 v0
    have hv : v = 0 ∨ v = 1 := by
      by_cases q : stB τ nA nS (ord i)
      · exact Or.inr (v1 q)
      · exact Or.inl (v0 q)
    have hst : (gdA v (clB τ M (ord i)) n = 1 ∧ nI (sm (fun k => bI (M.testBit k && hdB τ (ord i) k)) n) < τ 32 (qi (lpr τ (ord i)))) ↔ stands τ (τ 115) ord nA nS i := by
      unfold stands
      rw [gdA_1, hcla, hcnt]
      have : v = 1 ↔ stB τ nA nS (ord i) := by
        by_cases q : stB τ nA nS (ord i)
        · exact ⟨fun _ => q, fun _ => v1 q⟩
        · exact ⟨fun w => absurd (w.symm.trans (v0 q)) (by decide), fun w => absurd w q⟩
      rw [this, and_assoc]
    refine ⟨if gdA v (clB τ M (ord i)) n = 1 ∧ nI (sm (fun k => bI (M.testBit k && hdB τ (ord i) k)) n) < τ 32 (qi (lpr τ (ord i))) then 1 else 0, fun w => if_pos (hst.mpr w), fun w => if_neg (fun q => w (hst.mp q)), ?_⟩
    rw [l180_run h hoi.1 hM hv hf k4, nI_1]
  have run := run2o (F := p_M_judge_l19 f τ (lN M) (nI i) k4) (n := n) (f := f) (bst τ M) (r := p_M_judge_l19 f τ (lN M) (nI i) k4 (fun _ _ => none) (nI (ord i)) (nI n)) (by omega) (fun k => by
    rw [hbst]
    unfold p_M_judge_l19
    rw [h.2.2.2.2.1, if_pos (nI_le (Nat.le_refl _) (by omega)), if_pos (nI_le (Nat.le_refl _) (by omega))]) (fun k j hj => by
    have hq := qin_nI (k := j) (n := 60) (by omega) (by omega)
    have hqi : qi (nI j) = j := qi_nI (by omega)
    have hb : bst τ M (j + 1) = if M.testBit j = true then bst τ M j else if bst τ M j = -1000000 then nI j else if lk τ (qi (bst τ M j)) ≤ lk τ j then bst τ M j else nI j := rfl
    rw [hb]
    unfold p_M_judge_l19 p_M_judge_b44
    rw [h.2.2.2.2.1, if_neg (nI_ge hj (by omega)), nI_1]
    by_cases c : M.testBit j = true
    · rw [if_pos c, if_neg (fun w => ((bt_0 (by omega) (by omega)).mp w) c), if_pos rfl]
    · rw [if_neg c, if_pos ((bt_0 (by omega) (by omega)).mpr c), if_neg (by decide)]
      rcases bst_v (τ := τ) (M := M) j (by omega) with ⟨e, h1⟩ | ⟨a, ha, e, h1, h2⟩
      · rw [if_pos e, if_pos e]
      · have hqa := qin_nI (k := a) (n := 60) (by omega) (by omega)
        have hqia : qi (nI a) = a := qi_nI (by omega)
        have k1 := key_m h (show a < n by omega)
        have k2 := key_m h hj
        rw [e, if_neg (nI_nn (by omega)), if_neg (nI_nn (by omega)), if_pos hq, if_pos hq, if_pos hqa, if_pos hqa, hqi, hqia, k1.1, k2.1]
        by_cases c2 : lk τ a ≤ lk τ j
        · rw [if_pos c2, if_pos (nI_le c2 (by omega))]
        · rw [if_neg c2, if_neg (nI_ge (by omega) (by omega))])
  rw [show bst τ M 0 = -1000000 from rfl] at run
  rw [run]
  have hl := h.1.lp hoi.1
  have he := end_m (f := f) (σ := τ) (p := lp τ (ord i)) (n := nA) (d := τ 44 (ord i)) h.2.2.2.2.2.1 (h.2.2.2.2.2.2.2.2 _ hl.2) (by omega) h.1.2.2.2.2.2.1 h.1.2.2.2.2.1 hf
  rw [← hl.1, h.2.1] at he
  have hs := cov_m (f := f) (σ := τ) (x := lpr τ (ord i)) (d := τ 44 (ord i)) h.2.2.2.2.2.2.1 h.1.2.2.2.2.2.2.2.1 h.1.2.2.2.2.2.2.1 hf
  have o5 : p_M_of f τ (τ 112 (ord i)) 5 = some (τ (15 + lp τ (ord i)) 5) := of_mn (f := f) h (j := 5) hoi.1 (by omega)
  have o3 : p_M_of f τ (τ 112 (ord i)) 3 = some (lpr τ (ord i)) := of_mn (f := f) h (j := 3) hoi.1 (by omega)
  unfold p_M_judge_l19
  rw [h.2.2.2.2.1, if_pos (nI_le (Nat.le_refl _) (by omega)), if_pos (qin_nI (by omega) (by omega)), if_pos (qin_nI (by omega) (by omega)), qi_nI (by omega), o5, Option.bind_some]
  have e44 : τ 113 (ord i) = τ 44 (ord i) := by rw [h.2.2.1]
  by_cases c1 : τ 113 (ord i) < τ (15 + lp τ (ord i)) 5
  · rw [if_pos c1]
    have nb : ¬ stB τ nA nS (ord i) := fun w => absurd w.1 (Int32.not_le.mpr (by rw [← e44]; exact c1))
    exact fin 0 (fun w => absurd w nb) (fun _ => rfl)
  · rw [if_neg c1]
    by_cases c2 : endP τ (lp τ (ord i)) nA (τ 44 (ord i))
    · have h2 := he.1 c2
      rw [← e44] at h2
      rw [h2, Option.bind_some, if_neg (by decide)]
      exact fin 0 (fun w => absurd c2 w.2.1) (fun _ => rfl)
    · have h2 := he.2 c2
      rw [← e44] at h2
      rw [h2, Option.bind_some, if_pos rfl, o3, Option.bind_some]
      rw [← e44] at hs
      rw [hs, Option.bind_some]
      by_cases c3 : anyI (sickB τ (lpr τ (ord i)) (τ 113 (ord i))) nS 0 = 0
      · rw [if_pos c3]
        rw [e44] at c1 c3
        exact fin 1 (fun _ => rfl) (fun w => absurd ⟨Int32.not_lt.mp c1, c2, c3⟩ w)
      · rw [if_neg c3]
        rw [e44] at c3
        exact fin 0 (fun w => absurd w.2.2 c3) (fun _ => rfl)
theorem judge_m {f : Nat} {σ : qMem} {n np nA nS : Nat} {ord : Nat → Nat} (h : mdH σ n np nA nS ord) (hj : judged σ (σ 46) ord n nA nS) (hf : 100 < f) : ∃ r : qMem, p_M_judge f σ = some r ∧ (∀ k, k ≠ 115 → r k = σ k) ∧ ∀ l, l < n → r 115 l = σ 46 l := by
  have hn : n ≤ 60 := h.1.1
  have hnp : np ≤ 12 := h.1.2.2.1
  have hsur := ord_surj (fun j hj => (h.1.ol hj).1) (fun j j' a b e => h.1.inj a b e)
  unfold p_M_judge
  have key := wf3 (F := p_M_judge_l4 f) (fun τ x1 x3 => ∃ i M : Nat, i ≤ n ∧ x3 = nI i ∧ x1 = lN M ∧ M < 2 ^ 60 ∧ (∀ k, k < n → (M.testBit k = true ↔ ∃ j, j < i ∧ ord j = k)) ∧ (∀ k, k ≠ 115 → τ k = σ k) ∧ ∀ j, j < i → τ 115 (ord j) = σ 46 (ord j)) (fun _ _ x => 100 - qi x) (fun _ _ _ r => (∀ k, k ≠ 115 → r k = σ k) ∧ ∀ l, l < n → r 115 l = σ 46 l) ?_ f σ 0 0 ⟨0, 0, by omega, rfl, rfl, by decide, fun k _ => by simp, fun _ _ => rfl, fun j hj => absurd hj (Nat.not_lt_zero _)⟩ (by show 100 - _ < f; omega)
  · obtain ⟨r, e, q1, q2⟩ := key
    exact ⟨r, e, q1, q2⟩
  · rintro k τ x1 x3 ⟨i, M, hi, rfl, rfl, hM, hmet, ha, hg⟩ ih
    unfold p_M_judge_l4
    have e21 : τ 104 21 = nI n := by rw [ha 104 (by decide)]; exact h.2.2.2.2.1
    by_cases c : i = n
    · refine ⟨τ, ?_, ha, fun l hl => ?_⟩
      · rw [e21, c, if_pos (nI_le (Nat.le_refl _) (by omega))]
      · obtain ⟨j, hj, e⟩ := hsur l hl
        rw [← e]
        exact hg j (by omega)
    · have hin : i < n := by omega
      have hlτ : liH τ n np nA nS ord := liH_up h.1 (fun k j hk => by rw [ha k (by omega)]) h.1.2.2.2.2.1 (by rw [ha 37 (by decide)]; exact h.1.2.2.2.2.2.1) h.1.2.2.2.2.2.2.1 (by rw [ha 33 (by decide)]; exact h.1.2.2.2.2.2.2.2.1)
      have hag : agr (fun k _ => k = 115) σ τ := fun k j hk => by rw [ha k hk]
      have hτ : mdH τ n np nA nS ord := by
        refine ⟨hlτ, ?_, ?_, ?_, e21, h.2.2.2.2.2.1.fr hag (by intro k j; omega), h.2.2.2.2.2.2.1.fr hag (by intro k j; omega), ?_, fun p hp j hj => ?_⟩
        · rw [ha 43 (by decide), ha 112 (by decide)]; exact h.2.1
        · rw [ha 44 (by decide), ha 113 (by decide)]; exact h.2.2.1
        · rw [ha 45 (by decide), ha 114 (by decide)]; exact h.2.2.2.1
        · rw [ha 32 (by decide), ha 116 (by decide)]; exact h.2.2.2.2.2.2.2.1
        · rw [ha (15 + p) (by omega), ha 108 (by decide)]
          exact h.2.2.2.2.2.2.2.2 p hp j hj
      have h46 : ∀ j, j < n → σ 46 (ord j) = 0 ∨ σ 46 (ord j) = 1 := fun j hj2 => by
        by_cases w : stands σ (σ 46) ord nA nS j
        · exact Or.inr ((hj j hj2).1 w)
        · exact Or.inl ((hj j hj2).2 w)
      obtain ⟨v, v1, v0, e⟩ := jm_step (f := f) hτ hin hM hmet (fun j hj2 => by rw [hg j hj2]; exact h46 j (by omega)) hf k
      have hst : stands τ (τ 115) ord nA nS i ↔ stands σ (σ 46) ord nA nS i := by
        rw [stands_cg (σ := σ) h.1.2.2.2.2.2.2.2.2.1 hnp (fun i hi => (h.1.ol hi).1) (fun k j hs => by rw [ha k (by unfold supS at hs; omega)]) hin]
        exact stands_g (n := n) (fun j hj2 => hg j hj2)
      have hv : v = σ 46 (ord i) := by
        by_cases w : stands σ (σ 46) ord nA nS i
        · rw [v1 (hst.mpr w), (hj i hin).1 w]
        · rw [v0 (fun q => w (hst.mp q)), (hj i hin).2 w]
      rw [e21, if_neg (nI_ge hin (by omega)), e]
      have hol := (h.1.ol hin).1
      exact ih _ _ _ ⟨i + 1, M ||| 2 ^ (ord i), by omega, rfl, rfl, mk_lt hM (by omega), fun k hk => by
        rw [mk_set, Bool.or_eq_true, hmet k hk, decide_eq_true_eq]
        constructor
        · rintro (⟨j, hj2, e2⟩ | e2)
          · exact ⟨j, by omega, e2⟩
          · exact ⟨i, by omega, e2.symm⟩
        · rintro ⟨j, hj2, e2⟩
          by_cases q : j = i
          · exact Or.inr (by rw [← e2, q])
          · exact Or.inl ⟨j, by omega, e2⟩, fun k hk => by
        rw [← ha k hk]
        exact funext fun b => mu_k hk, fun j hj2 => by
        by_cases q : j = i
        · rw [q, mu_s, hv]
        · rw [mu_j (fun w => q (h.1.inj (by omega) hin w))]
          exact hg j (by omega)⟩ (by
        show 100 - qi (nI (i + 1)) < 100 - qi (nI i)
        rw [qi_nI (by omega), qi_nI (by omega)]
        omega)
theorem Inv.mdh {σ : qMem} (h : Inv σ) : ∃ (n np nA nS : Nat) (ord : Nat → Nat), mdH σ n np nA nS ord ∧ judged σ (σ 46) ord n nA nS := by
  obtain ⟨n, np, nA, nS, ord, hl, a1, a2, a3, a4, hj⟩ := h.lih
  exact ⟨n, np, nA, nS, ord, ⟨hl, a1, a2, a3, a4, h.ac, h.si, h.vo.1, fun p hp => h.pr.row hl.2.2.2.1 hl.2.2.1 hp⟩, hj⟩
