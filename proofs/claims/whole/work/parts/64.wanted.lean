/-! what is wanted -/
def sm (g : Nat → Nat) : Nat → Nat
  | 0 => 0
  | n + 1 => sm g n + g n
theorem sm_cg {g h : Nat → Nat} : ∀ {n : Nat}, (∀ i, i < n → g i = h i) → sm g n = sm h n
  | 0, _ => rfl
  | n + 1, e => by
    unfold sm
    rw [sm_cg (n := n) (fun i hi => e i (by omega)), e n (by omega)]
theorem sm_0 {g : Nat → Nat} : ∀ {n : Nat}, (∀ i, i < n → g i = 0) → sm g n = 0
  | 0, _ => rfl
  | n + 1, e => by
    unfold sm
    rw [sm_0 (n := n) (fun i hi => e i (by omega)), e n (by omega)]
theorem sm_add (g h : Nat → Nat) : ∀ n : Nat, sm (fun i => g i + h i) n = sm g n + sm h n
  | 0 => rfl
  | n + 1 => by
    unfold sm
    rw [sm_add g h n]
    omega
theorem sm_swap (g : Nat → Nat → Nat) (m : Nat) : ∀ n : Nat, sm (fun i => sm (fun j => g i j) m) n = sm (fun j => sm (fun i => g i j) n) m
  | 0 => by
    exact (sm_0 (fun j _ => rfl)).symm
  | n + 1 => by
    show sm (fun i => sm (fun j => g i j) m) n + sm (fun j => g n j) m = _
    rw [sm_swap g m n, ← sm_add]
    rfl
theorem sm_one {g : Nat → Nat} {a : Nat} : ∀ {n : Nat}, a < n → (∀ i, i < n → i ≠ a → g i = 0) → sm g n = g a
  | 0, h, _ => absurd h (Nat.not_lt_zero _)
  | n + 1, h, e => by
    unfold sm
    by_cases c : a = n
    · subst c
      rw [sm_0 (fun i hi => e i (by omega) (by omega))]
      omega
    · rw [sm_one (n := n) (by omega) (fun i hi hn => e i (by omega) hn), e n (by omega) (by omega)]
      omega
theorem sm_le {g h : Nat → Nat} : ∀ {n : Nat}, (∀ i, i < n → g i ≤ h i) → sm g n ≤ sm h n
  | 0, _ => Nat.le_refl _
  | n + 1, e => by
    unfold sm
    have := sm_le (n := n) (fun i hi => e i (by omega))
    have := e n (by omega)
    omega
theorem sm_mono {g : Nat → Nat} {a : Nat} : ∀ {n : Nat}, a ≤ n → sm g a ≤ sm g n
  | 0, h => by
    have : a = 0 := by omega
    subst this
    exact Nat.le_refl _
  | n + 1, h => by
    by_cases c : a = n + 1
    · subst c; exact Nat.le_refl _
    · have := sm_mono (g := g) (a := a) (n := n) (by omega)
      show sm g a ≤ sm g n + g n
      omega
theorem sm_tail {g : Nat → Nat} {a : Nat} : ∀ {n : Nat}, a ≤ n → (∀ i, a ≤ i → i < n → g i = 0) → sm g n = sm g a
  | 0, h, _ => by
    have : a = 0 := by omega
    subst this
    rfl
  | n + 1, h, e => by
    by_cases c : a = n + 1
    · subst c; rfl
    · unfold sm
      rw [sm_tail (n := n) (by omega) (fun i h1 h2 => e i h1 (by omega)), e n (by omega) (by omega)]
      cases a <;> rfl
def bI (b : Bool) : Nat := if b = true then 1 else 0
theorem sm_cnt (p : Nat → Bool) : ∀ n : Nat, sm (fun i => bI (p i)) n + sm (fun i => bI (!p i)) n = n
  | 0 => rfl
  | n + 1 => by
    unfold sm
    have := sm_cnt p n
    cases h : p n <;> simp [bI] <;> simp [bI] at this <;> omega
def rkF (D R : Nat → Int32) (x : Int32) : Nat → Int32
  | 0 => 0
  | m + 1 => if D m = x then R m else rkF D R x m
theorem rkF_0 {D R : Nat → Int32} {x : Int32} : ∀ {m : Nat}, (∀ u, u < m → D u ≠ x) → rkF D R x m = 0
  | 0, _ => rfl
  | m + 1, h => by
    unfold rkF
    rw [if_neg (h m (by omega))]
    exact rkF_0 (fun u hu => h u (by omega))
theorem rkF_u {D R : Nat → Int32} {x : Int32} {u : Nat} : ∀ {m : Nat}, (∀ i j, i < j → j < m → D i < D j) → u < m → D u = x → rkF D R x m = R u
  | 0, _, h, _ => absurd h (Nat.not_lt_zero _)
  | m + 1, hs, hu, he => by
    unfold rkF
    by_cases c : u = m
    · subst c
      rw [if_pos he]
    · have hlt := hs u m (by omega) (by omega)
      rw [if_neg (fun q => by rw [q, he] at hlt; exact Int32.lt_irrefl hlt)]
      exact rkF_u (fun i j h1 h2 => hs i j h1 (by omega)) (by omega) he
theorem rg12 {x : Int32} (h : rg x 1 2) : x = 1 ∨ x = 2 := by
  obtain ⟨k, hk, rfl⟩ := rg_nat (b := 2) ⟨by have := h.1; omega, h.2⟩
  have h1 := h.1
  rw [nI_toInt (by omega)] at h1
  rcases (by omega : k = 1 ∨ k = 2) with rfl | rfl
  · exact Or.inl rfl
  · exact Or.inr rfl
def rkI (σ : qMem) (x : Int32) (i : Nat) (v : Int32) : Prop := (v = 0 ∧ ∀ k, k < i → σ 110 k ≠ x) ∨ ((∃ k, k < i ∧ σ 110 k = x ∧ σ 111 k = v) ∧ ∀ k, k < i → σ 110 k = x → σ 111 k ≤ v)
theorem rankOn_m {f : Nat} {σ : qMem} {n m : Nat} {x : Int32} (hn : σ 104 18 = nI n) (hn2 : n ≤ 30) (h : feOk n m (σ 30) (σ 31) (σ 110) (σ 111)) (hf : 100 < f) : p_M_rankOn f σ x = some (rkF (σ 30) (σ 31) x m) := by
  obtain ⟨h1, h2, h3, h4, h5⟩ := h
  unfold p_M_rankOn
  obtain ⟨r, e1, e2⟩ : ∃ r, qfix2 (p_M_rankOn_l4 f σ x) f 0 0 = some r ∧ rkI σ x n r := by
    refine wf2 (F := p_M_rankOn_l4 f σ x) (fun v j => ∃ i : Nat, i ≤ n ∧ j = nI i ∧ rkI σ x i v) (fun _ j => 40 - qi j) (fun _ _ r => rkI σ x n r) ?_ f 0 0 ⟨0, by omega, rfl, Or.inl ⟨rfl, fun k hk => absurd hk (Nat.not_lt_zero _)⟩⟩ (by show 40 - _ < f; omega)
    rintro k v j ⟨i, hi, rfl, hv⟩ ih
    by_cases c : i = n
    · subst c
      exact ⟨v, by unfold p_M_rankOn_l4; rw [hn, if_pos (nI_le (Nat.le_refl _) (by omega))], hv⟩
    · have hq := qin_nI (k := i) (n := 30) (by omega) (by omega)
      have hqi : (nI i).toNatClampNeg = i := qi_nI (by omega)
      have hlt : ¬ nI n ≤ nI i := nI_ge (by omega) (by omega)
      have hm : ∀ v', (fun (_ : Int32) j => 40 - qi j) v' (nI (i + 1)) < 40 - qi (nI i) := by
        intro v'
        show 40 - qi (nI (i + 1)) < 40 - qi (nI i)
        rw [qi_nI (by omega), qi_nI (by omega)]
        omega
      by_cases c1 : σ 110 i = x
      · by_cases c2 : σ 111 i ≤ v
        · have hI : rkI σ x (i + 1) v := by
            rcases hv with ⟨q1, q2⟩ | ⟨⟨k', q1, q2, q3⟩, q4⟩
            · exfalso
              rw [q1] at c2
              have := (h3 i (by omega)).2.1
              rw [i32_le] at c2
              have z : (0 : Int32).toInt = 0 := rfl
              omega
            · refine Or.inr ⟨⟨k', by omega, q2, q3⟩, fun t ht he => ?_⟩
              by_cases e : t = i
              · rw [e]; exact c2
              · exact q4 t (by omega) he
          obtain ⟨r, q1, q2⟩ := ih v (nI (i + 1)) ⟨i + 1, by omega, rfl, hI⟩ (hm v)
          exact ⟨r, by simp [p_M_rankOn_l4, hn, hlt, hq, hqi, c1, c2, nI_1, q1], q2⟩
        · have hI : rkI σ x (i + 1) (σ 111 i) := by
            refine Or.inr ⟨⟨i, by omega, c1, rfl⟩, fun t ht he => ?_⟩
            by_cases e : t = i
            · rw [e]; exact Int32.le_refl _
            · rcases hv with ⟨q1, q2⟩ | ⟨⟨k', q1, q2, q3⟩, q4⟩
              · exact absurd he (q2 t (by omega))
              · exact Int32.le_trans (q4 t (by omega) he) (Int32.le_of_lt (Int32.not_le.mp c2))
          obtain ⟨r, q1, q2⟩ := ih (σ 111 i) (nI (i + 1)) ⟨i + 1, by omega, rfl, hI⟩ (hm v)
          exact ⟨r, by simp [p_M_rankOn_l4, hn, hlt, hq, hqi, c1, c2, nI_1, q1], q2⟩
      · have hI : rkI σ x (i + 1) v := by
          rcases hv with ⟨q1, q2⟩ | ⟨⟨k', q1, q2, q3⟩, q4⟩
          · refine Or.inl ⟨q1, fun t ht => ?_⟩
            by_cases e : t = i
            · rw [e]; exact c1
            · exact q2 t (by omega)
          · refine Or.inr ⟨⟨k', by omega, q2, q3⟩, fun t ht he => ?_⟩
            by_cases e : t = i
            · rw [e] at he; exact absurd he c1
            · exact q4 t (by omega) he
        obtain ⟨r, q1, q2⟩ := ih v (nI (i + 1)) ⟨i + 1, by omega, rfl, hI⟩ (hm v)
        exact ⟨r, by simp [p_M_rankOn_l4, hn, hlt, hq, hqi, c1, nI_1, q1], q2⟩
  rw [e1]
  congr 1
  rcases e2 with ⟨q1, q2⟩ | ⟨⟨k, q1, q2, q3⟩, q4⟩
  · rw [q1, rkF_0]
    intro u hu e
    obtain ⟨k, w1, w2, -⟩ := h4 u hu
    exact q2 k w1 (w2.trans e)
  · obtain ⟨i, w1, w2, w3⟩ := h5 k q1
    rw [rkF_u h2 w1 (w2.trans q2)]
    obtain ⟨k', v1, v2, v3⟩ := h4 i w1
    have := q4 k' v1 (by rw [v2, w2, q2])
    rw [v3] at this
    rw [q3] at w3
    exact Int32.le_antisymm w3 this
def nxF (o : Nat → Bool) : Nat → Nat → Nat
  | 0, d => d
  | s + 1, d => if o d = true then nxF o s (d + 1) else d
theorem nxF_run {o : Nat → Bool} : ∀ {c s d : Nat}, c ≤ s → (∀ t, t < c → o (d + t) = true) → (c = s ∨ o (d + c) = false) → nxF o s d = d + c
  | 0, 0, d, _, _, _ => rfl
  | 0, s + 1, d, _, _, h => by
    unfold nxF
    have : o d = false := by
      rcases h with h | h
      · omega
      · exact h
    rw [this]
    simp
  | c + 1, 0, d, h, _, _ => by omega
  | c + 1, s + 1, d, h, h1, h2 => by
    unfold nxF
    have : o d = true := h1 0 (by omega)
    rw [this, if_pos rfl, nxF_run (c := c) (s := s) (d := d + 1) (by omega) (fun t ht => by have := h1 (t + 1) (by omega); rw [show d + 1 + t = d + (t + 1) by omega]; exact this) (by rcases h2 with h2 | h2; exact Or.inl (by omega); exact Or.inr (by rw [show d + 1 + c = d + (c + 1) by omega]; exact h2))]
    omega
theorem nxF_le {o : Nat → Bool} : ∀ {s d : Nat}, d ≤ nxF o s d ∧ nxF o s d ≤ d + s
  | 0, d => ⟨Nat.le_refl _, Nat.le_refl _⟩
  | s + 1, d => by
    unfold nxF
    by_cases h : o d = true
    · rw [if_pos h]
      have := nxF_le (o := o) (s := s) (d := d + 1)
      omega
    · rw [if_neg h]
      omega
def occ (σ : qMem) (m d : Nat) : Bool := decide (¬ rkF (σ 30) (σ 31) (nI d) m = 0)
def mvd (σ : qMem) (m d : Nat) : Nat := if rkF (σ 30) (σ 31) (nI d) m = 2 then 10001 else if rkF (σ 30) (σ 31) (nI d) m = 0 then d else nxF (occ σ m) (10000 - d) d
theorem rkF_v {n m : Nat} {D R d r : Nat → Int32} (h : feOk n m D R d r) (x : Int32) : rkF D R x m = 0 ∨ rkF D R x m = 1 ∨ rkF D R x m = 2 := by
  by_cases c : ∃ u, u < m ∧ D u = x
  · obtain ⟨u, h1, h2⟩ := c
    rw [rkF_u h.2.1 h1 h2]
    exact Or.inr (rg12 (h.1 u h1).2)
  · exact Or.inl (rkF_0 (fun u hu e => c ⟨u, hu, e⟩))
theorem mvd_0 {σ : qMem} {m d : Nat} (h : rkF (σ 30) (σ 31) (nI d) m = 0) : mvd σ m d = d := by
  unfold mvd
  rw [h, if_neg (by decide), if_pos rfl]
theorem mvd_1 {σ : qMem} {m d : Nat} (h : rkF (σ 30) (σ 31) (nI d) m = 1) : mvd σ m d = nxF (occ σ m) (10000 - d) d := by
  unfold mvd
  rw [h, if_neg (by decide), if_neg (by decide)]
theorem mvd_2 {σ : qMem} {m d : Nat} (h : rkF (σ 30) (σ 31) (nI d) m = 2) : mvd σ m d = 10001 := by
  unfold mvd
  rw [h, if_pos rfl]
theorem moved_m {f : Nat} {σ : qMem} {n m d : Nat} (hn : σ 104 18 = nI n) (hn2 : n ≤ 30) (h : feOk n m (σ 30) (σ 31) (σ 110) (σ 111)) (hd : d ≤ 9999) (hf : 20000 < f) : p_M_movedFrom f σ (nI d) = some (if mvd σ m d ≤ 9999 then nI (mvd σ m d) else -1000000) := by
  have hr : ∀ x, p_M_rankOn f σ x = some (rkF (σ 30) (σ 31) x m) := fun x => rankOn_m hn hn2 h (by omega)
  unfold p_M_movedFrom
  rw [hr, Option.bind_some]
  rcases rkF_v h (nI d) with e | e | e
  · obtain ⟨g, rfl⟩ : ∃ g, f = g + 1 := ⟨f - 1, by omega⟩
    rw [mvd_0 e, e, if_neg (by decide), if_pos hd, qfix1_s]
    unfold p_M_movedFrom_l16 p_M_movedFrom_b41
    rw [if_pos (by decide), if_pos (by exact nI_le (b := 9999) hd (by omega))]
  · rw [mvd_1 e, e, if_neg (by decide)]
    have key : ∀ (s t g : Nat), s < g → t + s = 10000 → qfix1 (p_M_movedFrom_l16 f σ 1) g (nI t) = some (if nxF (occ σ m) s t ≤ 9999 then nI (nxF (occ σ m) s t) else -1000000) := by
      intro s
      induction s with
      | zero =>
        intro t g hg ht
        obtain ⟨g', rfl⟩ : ∃ g', g = g' + 1 := ⟨g - 1, by omega⟩
        have : t = 10000 := by omega
        subst this
        rw [qfix1_s]
        unfold p_M_movedFrom_l16 p_M_movedFrom_b41 nxF
        rw [if_neg (by decide), if_pos (by decide), if_neg (by decide), if_neg (by omega)]
      | succ s ih =>
        intro t g hg ht
        obtain ⟨g', rfl⟩ : ∃ g', g = g' + 1 := ⟨g - 1, by omega⟩
        rw [qfix1_s]
        unfold p_M_movedFrom_l16 nxF
        rw [if_neg (by decide), if_neg (by exact nI_ge (b := 10000) (a := t) (by omega) (by omega)), hr, Option.bind_some]
        rcases rkF_v h (nI t) with q | q | q
        · have ho : occ σ m t = false := by unfold occ; simp [q]
          rw [q, if_pos (by decide), ho]
          simp only [Bool.false_eq_true, if_false]
          rw [if_pos (by omega)]
          unfold p_M_movedFrom_b41
          rw [if_pos (by exact nI_le (b := 9999) (a := t) (by omega) (by omega))]
        · have ho : occ σ m t = true := by unfold occ; simp [q]
          rw [q, if_neg (by decide), ho, nI_1]
          simp only [if_true]
          exact ih (t + 1) g' (by omega) (by omega)
        · have ho : occ σ m t = true := by unfold occ; simp [q]
          rw [q, if_neg (by decide), ho, nI_1]
          simp only [if_true]
          exact ih (t + 1) g' (by omega) (by omega)
    exact key (10000 - d) d f (by omega) (by omega)
  · rw [mvd_2 e, e, if_pos rfl, if_neg (by omega)]
