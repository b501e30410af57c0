/-! joins -/
theorem has_j {f : Nat} {σ : qMem} {i : Nat} {x : Int32} (hi : i < 10) : p_Joins_has f σ (nI i) x = some (if σ 49 i = x ∨ σ 50 i = x then 1 else 0) := by
  have hq := qin_nI (k := i) (n := 10) hi (by omega)
  have hqi : qi (nI i) = i := qi_nI (by omega)
  unfold p_Joins_has
  by_cases c1 : σ 49 i = x <;> by_cases c2 : σ 50 i = x <;> simp [hq, hqi, c1, c2]
theorem isIn_j {f : Nat} {σ τ : qMem} {i : Nat} {x : Int32} (e1 : τ 120 = σ 49) (e2 : τ 121 = σ 50) (hi : i < 10) : p_M_isIn f τ (nI i) x = some (if σ 49 i = x ∨ σ 50 i = x then 1 else 0) := by
  have hq := qin_nI (k := i) (n := 10) hi (by omega)
  have hqi : qi (nI i) = i := qi_nI (by omega)
  unfold p_M_isIn
  rw [e1, e2]
  by_cases c1 : σ 49 i = x <;> by_cases c2 : σ 50 i = x <;> simp [hq, hqi, c1, c2]
def joH (σ : qMem) (n np : Nat) : Prop := n ≤ 10 ∧ σ 48 4 = nI n ∧ σ 104 31 = nI n ∧ np ≤ 12 ∧ σ 13 1 = nI np ∧
  (∀ i, i < n → (∃ a b : Nat, a < np ∧ b < np ∧ a ≠ b ∧ σ 49 i = nI a ∧ σ 50 i = nI b) ∧ ∃ c e : Nat, c < e ∧ c ≤ 9999 ∧ e ≤ 10000 ∧ σ 51 i = nI c ∧ σ 52 i = nI e ∧ σ 123 i = if e = 10000 then -1000000 else nI e) ∧
  ∀ i j, i < j → j < n → (σ 49 i = σ 49 j ∨ σ 49 i = σ 50 j ∨ σ 50 i = σ 49 j ∨ σ 50 i = σ 50 j) → σ 52 i ≤ σ 51 j
theorem Inv.joh {σ : qMem} (h : Inv σ) : ∃ n np, joH σ n np ∧ σ 49 = σ 120 ∧ σ 50 = σ 121 ∧ σ 51 = σ 122 := by
  obtain ⟨e1, e2, e3, n, np, h2⟩ := h.jo
  exact ⟨n, np, h2, e1, e2, e3⟩
/-- the model's end of a pair, against the other's -/
theorem jo_end {σ : qMem} {n np i : Nat} {x : Int32} (h : joH σ n np) (hi : i < n) (hx : rg x 0 9999) : (σ 123 i = -1000000 → x < σ 52 i) ∧ (¬ σ 123 i = -1000000 → σ 123 i = σ 52 i) := by
  obtain ⟨-, c, e, h1, h2, h3, e1, e2, e3⟩ := h.2.2.2.2.2.1 i hi
  obtain ⟨d, hd, rfl⟩ := rg_nat (b := 9999) hx
  rw [e2, e3]
  by_cases q : e = 10000
  · rw [if_pos q]
    exact ⟨fun _ => nI_lt (by omega) (by omega), fun w => absurd rfl w⟩
  · rw [if_neg q]
    refine ⟨fun w => ?_, fun _ => rfl⟩
    have : (nI e).toInt = (-1000000 : Int32).toInt := by rw [w]
    rw [nI_toInt (by omega), show (-1000000 : Int32).toInt = -1000000 from rfl] at this
    omega
def actB (σ : qMem) (x d : Int32) (i : Nat) : Bool := decide (σ 49 i = x ∨ σ 50 i = x) && (decide (σ 51 i ≤ d) && decide (d < σ 52 i))
def othV (σ : qMem) (x : Int32) (i : Nat) : Int32 := if σ 49 i = x then σ 50 i else σ 49 i
def otF (σ : qMem) (x d : Int32) : Nat → Nat → Int32
  | 0, _ => -1000000
  | m + 1, i => if actB σ x d i = true then othV σ x i else otF σ x d m (i + 1)
def otL (σ : qMem) (x d : Int32) : Nat → Nat → Int32 → Int32
  | 0, _, a => a
  | m + 1, i, a => otL σ x d m (i + 1) (if actB σ x d i = true then othV σ x i else a)
theorem otF_s {σ : qMem} {x d : Int32} {n i : Nat} (h : i < n) : otF σ x d (n - i) i = if actB σ x d i = true then othV σ x i else otF σ x d (n - (i + 1)) (i + 1) := by
  rw [show n - i = (n - (i + 1)) + 1 by omega]
  rfl
theorem otL_s {σ : qMem} {x d : Int32} {n i : Nat} {a : Int32} (h : i < n) : otL σ x d (n - i) i a = otL σ x d (n - (i + 1)) (i + 1) (if actB σ x d i = true then othV σ x i else a) := by
  rw [show n - i = (n - (i + 1)) + 1 by omega]
  rfl
theorem actB_t {σ : qMem} {x d : Int32} {i : Nat} : actB σ x d i = true ↔ (σ 49 i = x ∨ σ 50 i = x) ∧ σ 51 i ≤ d ∧ d < σ 52 i := by
  simp [actB]
theorem other_c {f : Nat} {σ : qMem} {x d : Int32} {n : Nat} (hn : σ 48 4 = nI n) (hn2 : n ≤ 10) (hf : 100 < f) : p_Joins_otherOf f σ x d = some (otF σ x d n 0) := by
  unfold p_Joins_otherOf
  refine up1 (n := n) (res := fun i => otF σ x d (n - i) i) (by omega) (fun k => ?_) (fun k i hi hk => ?_)
  · unfold p_Joins_otherOf_l2
    rw [hn, if_pos (nI_le (Nat.le_refl _) (by omega)), Nat.sub_self]
    rfl
  · unfold p_Joins_otherOf_l2
    have hq := qin_nI (k := i) (n := 10) (by omega) (by omega)
    have hqi : qi (nI i) = i := qi_nI (by omega)
    rw [hn, if_neg (nI_ge hi (by omega)), has_j (by omega), Option.bind_some, otF_s hi, nI_1, hk, hqi]
    unfold actB othV
    by_cases c1 : σ 49 i = x <;> by_cases c2 : σ 50 i = x <;> by_cases c3 : d < σ 51 i <;> by_cases c4 : σ 52 i ≤ d <;> simp [hq, c1, c2, c3, c4, ← Int32.not_lt, ← Int32.not_le]
theorem other_m0 {f : Nat} {σ : qMem} {x d : Int32} {n np : Nat} (h : joH σ n np) (e1 : σ 49 = σ 120) (e2 : σ 50 = σ 121) (e3 : σ 51 = σ 122) (hd : rg d 0 9999) (hf : 100 < f) : p_M_otherOf f σ x d = some (otL σ x d n 0 (-1000000)) := by
  have hn2 : n ≤ 10 := h.1
  unfold p_M_otherOf
  refine up2 (n := n) (res := fun a i => otL σ x d (n - i) i a) (by omega) (fun k a => ?_) (fun k a i hi hk => ?_)
  · unfold p_M_otherOf_l6
    rw [h.2.2.1, if_pos (nI_le (Nat.le_refl _) (by omega)), Nat.sub_self]
    rfl
  · unfold p_M_otherOf_l6 p_M_otherOf_b59
    have hq := qin_nI (k := i) (n := 10) (by omega) (by omega)
    have hqi : qi (nI i) = i := qi_nI (by omega)
    have hen := jo_end h hi hd
    rw [h.2.2.1, if_neg (nI_ge hi (by omega)), isIn_j e1.symm e2.symm (by omega), Option.bind_some, otL_s hi, nI_1, hqi, ← e1, ← e2, ← e3, hk, hk, hk]
    unfold actB othV
    by_cases c5 : σ 123 i = -1000000
    · have c4 : ¬ σ 52 i ≤ d := Int32.not_le.mpr (hen.1 c5)
      by_cases c1 : σ 49 i = x <;> by_cases c2 : σ 50 i = x <;> by_cases c3 : d < σ 51 i <;> simp [hq, c1, c2, c3, c4, c5, ← Int32.not_lt, ← Int32.not_le]
    · have c6 := hen.2 c5
      rw [if_neg c5, c6]
      by_cases c1 : σ 49 i = x <;> by_cases c2 : σ 50 i = x <;> by_cases c3 : d < σ 51 i <;> by_cases c4 : σ 52 i ≤ d <;> simp [hq, c1, c2, c3, c4, ← Int32.not_lt, ← Int32.not_le]
theorem otL_no {σ : qMem} {x d : Int32} : ∀ {m i : Nat} {a : Int32}, (∀ j, i ≤ j → j < i + m → ¬ actB σ x d j = true) → otL σ x d m i a = a
  | 0, _, _, _ => rfl
  | m + 1, i, a, h => by
    unfold otL
    rw [if_neg (h i (Nat.le_refl _) (by omega))]
    exact otL_no (fun j h1 h2 => h j (by omega) (by omega))
theorem act_u {σ : qMem} {n np : Nat} (h : joH σ n np) {x d : Int32} {i j : Nat} (hij : i < j) (hj : j < n) (hi : actB σ x d i = true) : ¬ actB σ x d j = true := by
  intro w
  rw [actB_t] at hi w
  have := h.2.2.2.2.2.2 i j hij hj (by
    rcases hi.1 with a | a <;> rcases w.1 with b | b
    · exact Or.inl (a.trans b.symm)
    · exact Or.inr (Or.inl (a.trans b.symm))
    · exact Or.inr (Or.inr (Or.inl (a.trans b.symm)))
    · exact Or.inr (Or.inr (Or.inr (a.trans b.symm))))
  have h1 := i32_lt.mp hi.2.2
  have h2 := i32_le.mp w.2.1
  have h3 := i32_le.mp this
  omega
theorem otL_F {σ : qMem} {n np : Nat} (h : joH σ n np) {x d : Int32} : ∀ {m i : Nat}, i + m = n → otL σ x d m i (-1000000) = otF σ x d m i
  | 0, _, _ => rfl
  | m + 1, i, hi => by
    unfold otL otF
    by_cases c : actB σ x d i = true
    · rw [if_pos c, if_pos c]
      exact otL_no (fun j h1 h2 => act_u h (by omega) (by omega) c)
    · rw [if_neg c, if_neg c]
      exact otL_F h (by omega)
theorem other_m {f : Nat} {σ : qMem} {x d : Int32} {n np : Nat} (h : joH σ n np) (e1 : σ 49 = σ 120) (e2 : σ 50 = σ 121) (e3 : σ 51 = σ 122) (hd : rg d 0 9999) (hf : 100 < f) : p_M_otherOf f σ x d = some (otF σ x d n 0) := by
  rw [other_m0 h e1 e2 e3 hd hf, otL_F h (Nat.zero_add _)]
/-- what otherOf answers: NONE or another promise -/
theorem otF_v {σ : qMem} {n np : Nat} (h : joH σ n np) {x d : Int32} : ∀ {m i : Nat}, i + m = n → otF σ x d m i = -1000000 ∨ ∃ q : Nat, q < np ∧ otF σ x d m i = nI q
  | 0, _, _ => Or.inl rfl
  | m + 1, i, hi => by
    unfold otF
    by_cases c : actB σ x d i = true
    · rw [if_pos c]
      obtain ⟨⟨a, b, ha, hb, -, e1, e2⟩, -⟩ := h.2.2.2.2.2.1 i (by omega)
      unfold othV
      by_cases c2 : σ 49 i = x
      · rw [if_pos c2]; exact Or.inr ⟨b, hb, e2⟩
      · rw [if_neg c2]; exact Or.inr ⟨a, ha, e1⟩
    · rw [if_neg c]
      exact otF_v h (by omega)
theorem joH.cg {σ σ' : qMem} {n np : Nat} (h : joH σ n np) (ha : ∀ k j, ((49 ≤ k ∧ k ≤ 52) ∨ k = 123 ∨ (k = 48 ∧ j = 4) ∨ (k = 104 ∧ j = 31) ∨ (k = 13 ∧ j = 1)) → σ' k j = σ k j) : joH σ' n np := by
  have c : ∀ k, ((49 ≤ k ∧ k ≤ 52) ∨ k = 123) → σ' k = σ k := fun k hk => funext fun j => ha k j (by omega)
  unfold joH at h ⊢
  rw [ha 48 4 (by omega), ha 104 31 (by omega), ha 13 1 (by omega), c 49 (by omega), c 50 (by omega), c 51 (by omega), c 52 (by omega), c 123 (by omega)]
  exact h
theorem otF_cg {σ σ' : qMem} {x d : Int32} (ha : ∀ k, (49 ≤ k ∧ k ≤ 52) → σ' k = σ k) : ∀ m i, otF σ' x d m i = otF σ x d m i
  | 0, _ => rfl
  | m + 1, i => by
    unfold otF actB othV
    rw [otF_cg ha m (i + 1), ha 49 (by omega), ha 50 (by omega), ha 51 (by omega), ha 52 (by omega)]
def hfB (σ : qMem) (x d : Int32) (i : Nat) : Bool := decide (σ 49 i = x ∨ σ 50 i = x) && decide (d < σ 52 i)
theorem holdsFrom_c {f : Nat} {σ : qMem} {x d : Int32} {n : Nat} (hn : σ 48 4 = nI n) (hn2 : n ≤ 10) (hf : 100 < f) : p_Joins_holdsFrom f σ x d = some (anyI (hfB σ x d) n 0) := by
  unfold p_Joins_holdsFrom
  refine up1 (n := n) (res := fun i => anyI (hfB σ x d) (n - i) i) (by omega) (fun k => ?_) (fun k i hi hk => ?_)
  · unfold p_Joins_holdsFrom_l2
    rw [hn, if_pos (nI_le (Nat.le_refl _) (by omega)), Nat.sub_self]
    rfl
  · unfold p_Joins_holdsFrom_l2
    have hq := qin_nI (k := i) (n := 10) (by omega) (by omega)
    have hqi : qi (nI i) = i := qi_nI (by omega)
    rw [hn, if_neg (nI_ge hi (by omega)), has_j (by omega), Option.bind_some, anyI_s hi, nI_1, hk, hqi]
    unfold hfB
    by_cases c1 : σ 49 i = x <;> by_cases c2 : σ 50 i = x <;> by_cases c4 : σ 52 i ≤ d <;> simp [hq, c1, c2, c4, ← Int32.not_le]
theorem anyI_0 {P : Nat → Bool} : ∀ {m i : Nat}, anyI P m i = 0 ↔ ∀ j, i ≤ j → j < i + m → ¬ P j = true
  | 0, i => ⟨fun _ j h1 h2 => absurd h2 (by omega), fun _ => rfl⟩
  | m + 1, i => by
    unfold anyI
    by_cases c : P i = true
    · rw [if_pos c]
      exact ⟨fun w => absurd w (by decide), fun w => absurd c (w i (Nat.le_refl _) (by omega))⟩
    · rw [if_neg c, anyI_0]
      refine ⟨fun w j h1 h2 => ?_, fun w j h1 h2 => w j (by omega) (by omega)⟩
      by_cases e : j = i
      · rw [e]; exact c
      · exact w j (by omega) (by omega)
def jaM (σ : qMem) (n : Nat) (x y z : Int32) : qMem := qmu (qmu (qmu (qmu (qmu σ 49 n x) 50 n y) 51 n z) 52 n 10000) 48 4 (nI (n + 1))
def jmM (σ : qMem) (n : Nat) (x y z : Int32) : qMem := qmu (qmu (qmu (qmu (qmu σ 120 n x) 121 n y) 122 n z) 123 n (-1000000)) 104 31 (nI (n + 1))
theorem jadd_c {f : Nat} {σ : qMem} {n : Nat} {x y z : Int32} (hn : σ 48 4 = nI n) (hn2 : n < 10) : p_Joins_add f σ x y z = some (jaM σ n x y z) := by
  have hq := qin_nI (k := n) (n := 10) hn2 (by omega)
  have hi : (nI n).toNatClampNeg = n := qi_nI (by omega)
  simp [p_Joins_add, jaM, mu_c, upd, hn, hq, hi, nI_1]
theorem join_m {f : Nat} {σ τ : qMem} {n np : Nat} {x y z : Int32} (h : joH σ n np) (t1 : τ 120 = σ 49) (t2 : τ 121 = σ 50) (t3 : τ 123 = σ 123) (t4 : τ 104 31 = nI n) (hz : rg z 0 9999) (hf : 100 < f) : qfix1 (p_M_join_l39 f τ x y z) f (0 : Int32) = some (if anyI (fun i => hfB σ x z i || hfB σ y z i) n 0 = 0 then (if n = 10 then (-1000003, τ) else (1, jmM τ n x y z)) else (-1000002, τ)) := by
  have hn2 : n ≤ 10 := h.1
  refine up1 (n := n) (res := fun i => if anyI (fun i => hfB σ x z i || hfB σ y z i) (n - i) i = 0 then (if n = 10 then (-1000003, τ) else (1, jmM τ n x y z)) else (-1000002, τ)) (by omega) (fun k => ?_) (fun k i hi hk => ?_)
  · unfold p_M_join_l39
    rw [t4, if_pos (nI_le (Nat.le_refl _) (by omega)), Nat.sub_self, show anyI (fun i => hfB σ x z i || hfB σ y z i) 0 n = 0 from rfl, if_pos rfl]
    by_cases c : n = 10
    · rw [if_pos c, if_pos ((full10 hn2).2.mpr c)]
    · have hne : ¬ nI n = 10 := fun w => c ((full10 hn2).2.mp w)
      have hq := qin_nI (k := n) (n := 10) (by omega) (by omega)
      have hi : (nI n).toNatClampNeg = n := qi_nI (by omega)
      simp [hne, c, jmM, mu_c, upd, t4, hq, hi, nI_1]
  · have hq := qin_nI (k := i) (n := 10) (by omega) (by omega)
    have hqi : qi (nI i) = i := qi_nI (by omega)
    have hen := jo_end h hi hz
    unfold p_M_join_l39 p_M_join_b68
    rw [t4, if_neg (nI_ge hi (by omega)), isIn_j t1 t2 (by omega), Option.bind_some, isIn_j t1 t2 (by omega), Option.bind_some, nI_1, hk, hqi, if_pos hq, if_pos hq, anyI_s hi, t3]
    have hend : (if σ 123 i = -1000000 then some ((-1000002 : Int32), τ) else if σ 123 i ≤ z then some (if anyI (fun i => hfB σ x z i || hfB σ y z i) (n - (i + 1)) (i + 1) = 0 then (if n = 10 then (-1000003, τ) else (1, jmM τ n x y z)) else (-1000002, τ)) else some ((-1000002 : Int32), τ)) = (if z < σ 52 i then some ((-1000002 : Int32), τ) else some (if anyI (fun i => hfB σ x z i || hfB σ y z i) (n - (i + 1)) (i + 1) = 0 then (if n = 10 then (-1000003, τ) else (1, jmM τ n x y z)) else (-1000002, τ))) := by
      by_cases c5 : σ 123 i = -1000000
      · rw [if_pos c5, if_pos (hen.1 c5)]
      · rw [if_neg c5, hen.2 c5]
        by_cases c4 : σ 52 i ≤ z
        · rw [if_pos c4, if_neg (Int32.not_lt.mpr c4)]
        · rw [if_neg c4, if_pos (Int32.not_le.mp c4)]
    rw [hend]
    unfold hfB
    by_cases c1 : σ 49 i = x ∨ σ 50 i = x <;> by_cases c2 : σ 49 i = y ∨ σ 50 i = y <;> by_cases c4 : z < σ 52 i <;> simp [c1, c2, c4]
theorem join_inv {σ : qMem} (h : Inv σ) {n np : Nat} {x y z : Int32} (hj : joH σ n np) (e1 : σ 49 = σ 120) (e2 : σ 50 = σ 121) (e3 : σ 51 = σ 122) (hn : n < 10) (c1 : rg x 0 ((np : Int) - 1)) (c2 : rg y 0 ((np : Int) - 1)) (c3 : x ≠ y) (c4 : rg z 0 9999) (q1 : anyI (hfB σ x z) n 0 = 0) (q2 : anyI (hfB σ y z) n 0 = 0) : Inv (jmM (qmu (jaM σ n x y z) 104 0 0) n x y z) := by
  have hnp : np ≤ 12 := hj.2.2.2.1
  obtain ⟨a, ha, rfl⟩ := rg_p c1 (by omega)
  obtain ⟨b, hb, rfl⟩ := rg_p c2 (by omega)
  obtain ⟨d, hd, rfl⟩ := rg_nat (b := 9999) c4
  refine h.u_jo (by unfold jmM jaM; repeat (first | exact agr_rf | refine agr_mu ?_ (by unfold P_jo; omega))) ?_
  have F49 : jmM (qmu (jaM σ n (nI a) (nI b) (nI d)) 104 0 0) n (nI a) (nI b) (nI d) 49 = upd (σ 49) n (nI a) := by simp [jmM, jaM, mu_c]
  have F50 : jmM (qmu (jaM σ n (nI a) (nI b) (nI d)) 104 0 0) n (nI a) (nI b) (nI d) 50 = upd (σ 50) n (nI b) := by simp [jmM, jaM, mu_c]
  have F51 : jmM (qmu (jaM σ n (nI a) (nI b) (nI d)) 104 0 0) n (nI a) (nI b) (nI d) 51 = upd (σ 51) n (nI d) := by simp [jmM, jaM, mu_c]
  have F52 : jmM (qmu (jaM σ n (nI a) (nI b) (nI d)) 104 0 0) n (nI a) (nI b) (nI d) 52 = upd (σ 52) n (nI 10000) := by simp [jmM, jaM, mu_c]; rfl
  have F120 : jmM (qmu (jaM σ n (nI a) (nI b) (nI d)) 104 0 0) n (nI a) (nI b) (nI d) 120 = upd (σ 120) n (nI a) := by simp [jmM, jaM, mu_c]
  have F121 : jmM (qmu (jaM σ n (nI a) (nI b) (nI d)) 104 0 0) n (nI a) (nI b) (nI d) 121 = upd (σ 121) n (nI b) := by simp [jmM, jaM, mu_c]
  have F122 : jmM (qmu (jaM σ n (nI a) (nI b) (nI d)) 104 0 0) n (nI a) (nI b) (nI d) 122 = upd (σ 122) n (nI d) := by simp [jmM, jaM, mu_c]
  have F123 : jmM (qmu (jaM σ n (nI a) (nI b) (nI d)) 104 0 0) n (nI a) (nI b) (nI d) 123 = upd (σ 123) n (-1000000) := by simp [jmM, jaM, mu_c]
  have F48 : jmM (qmu (jaM σ n (nI a) (nI b) (nI d)) 104 0 0) n (nI a) (nI b) (nI d) 48 4 = nI (n + 1) := by simp [jmM, jaM, mu_c, upd]
  have F104 : jmM (qmu (jaM σ n (nI a) (nI b) (nI d)) 104 0 0) n (nI a) (nI b) (nI d) 104 31 = nI (n + 1) := by simp [jmM, jaM, mu_c, upd]
  have F13 : jmM (qmu (jaM σ n (nI a) (nI b) (nI d)) 104 0 0) n (nI a) (nI b) (nI d) 13 1 = nI np := by simp [jmM, jaM, mu_c, hj.2.2.2.2.1]
  unfold g_jo
  rw [F49, F50, F51, F52, F120, F121, F122, F123, F48, F104, F13, e1, e2, e3]
  refine ⟨rfl, rfl, rfl, n + 1, np, by omega, rfl, rfl, hnp, rfl, fun i hi => ?_, fun i j hij hj2 hsh => ?_⟩
  · by_cases c : i = n
    · subst c
      simp only [upd_s]
      exact ⟨⟨a, b, ha, hb, fun w => c3 (by rw [w]), rfl, rfl⟩, d, 10000, by omega, hd, Nat.le_refl _, rfl, rfl, rfl⟩
    · rw [upd_n c, upd_n c, upd_n c, upd_n c, upd_n c, ← e1, ← e2, ← e3]
      exact hj.2.2.2.2.2.1 i (by omega)
  · have hin : i ≠ n := by omega
    rw [upd_n hin] at hsh ⊢
    rw [upd_n hin] at hsh
    by_cases c : j = n
    · subst c
      rw [upd_s, upd_s] at hsh
      rw [upd_s]
      rw [← e1, ← e2] at hsh
      have w1 := anyI_0.mp q1 i (Nat.zero_le _) (by omega)
      have w2 := anyI_0.mp q2 i (Nat.zero_le _) (by omega)
      unfold hfB at w1 w2
      simp only [Bool.and_eq_true, decide_eq_true_eq] at w1 w2
      rcases hsh with k | k | k | k
      · exact Int32.not_lt.mp (fun w => w1 ⟨Or.inl k, w⟩)
      · exact Int32.not_lt.mp (fun w => w2 ⟨Or.inl k, w⟩)
      · exact Int32.not_lt.mp (fun w => w1 ⟨Or.inr k, w⟩)
      · exact Int32.not_lt.mp (fun w => w2 ⟨Or.inr k, w⟩)
    · rw [upd_n c, upd_n c, ← e1, ← e2] at hsh
      rw [upd_n c, ← e3]
      exact hj.2.2.2.2.2.2 i j hij (by omega) hsh
theorem join_ok {f : Nat} {σ : qMem} (h : Inv σ) (hf : 100 < f) (x y z : Int32) : PairW (p_C_join f σ x y z) (fun s => p_M_join f s x y z) := by
  obtain ⟨n, np, hj, e1, e2, e3⟩ := h.joh
  have hn2 : n ≤ 10 := hj.1
  have hnp : np ≤ 12 := hj.2.2.2.1
  have e13 : σ 13 1 = nI np := hj.2.2.2.2.1
  have e5 := h.np hnp e13
  by_cases c1 : rg x 0 ((np : Int) - 1)
  · by_cases c2 : rg y 0 ((np : Int) - 1)
    · by_cases c3 : x = y
      · refine badW (r := -1000001) h ?_ ?_
        · simp [p_C_join, hasL e13 hnp, c1, c2, c3]
        · simp [p_M_join, isPL (thr_pr e5) hnp, c1, c2, c3]
      · by_cases c4 : rg z 0 9999
        · have H1 : p_C_join f σ x y z = (p_Joins_holdsFrom f σ x z).bind fun u7 => if u7 = 0 then (p_Joins_holdsFrom f σ y z).bind fun u9 => if u9 = 0 then (p_Joins_full f σ).bind fun u11 => if u11 = 0 then (p_Joins_add f σ x y z).bind fun u13 => some ((1 : Int32), u13) else some ((-1000003 : Int32), σ) else some ((-1000002 : Int32), σ) else some ((-1000002 : Int32), σ) := by
            simp [p_C_join, hasL e13 hnp, c1, c2, c3, noDayL, c4]
          have key : ∀ s : qMem, s 104 5 = nI np → s 120 = σ 120 → s 121 = σ 121 → s 123 = σ 123 → s 104 31 = nI n → p_M_join f s x y z = some (if anyI (fun i => hfB σ x z i || hfB σ y z i) n 0 = 0 then (if n = 10 then (-1000003, qmu s 104 0 0) else (1, jmM (qmu s 104 0 0) n x y z)) else (-1000002, qmu s 104 0 0)) := by
            intro s s1 s2 s3 s4 s5
            have cc : ∀ k, k ≠ 104 → (qmu s 104 0 0) k = s k := fun k hk => funext fun j => mu_k hk
            have hm := join_m (f := f) (σ := σ) (τ := qmu s 104 0 0) (x := x) (y := y) (z := z) hj (by rw [cc 120 (by decide), s2, e1]) (by rw [cc 121 (by decide), s3, e2]) (by rw [cc 123 (by decide), s4]) (by rw [mu_j (by decide)]; exact s5) c4 hf
            rw [← hm]
            simp [p_M_join, isPL (thr_pr s1) hnp, c1, c2, c3, isDayL, c4]
          have hh1 := holdsFrom_c (f := f) (σ := σ) (x := x) (d := z) hj.2.1 hn2 hf
          have hh2 := holdsFrom_c (f := f) (σ := σ) (x := y) (d := z) hj.2.1 hn2 hf
          have any2 : anyI (fun i => hfB σ x z i || hfB σ y z i) n 0 = 0 ↔ anyI (hfB σ x z) n 0 = 0 ∧ anyI (hfB σ y z) n 0 = 0 := by
            rw [anyI_0, anyI_0, anyI_0]
            constructor
            · intro w
              exact ⟨fun j a b q => w j a b (by simp [q]), fun j a b q => w j a b (by simp [q])⟩
            · rintro ⟨w1, w2⟩ j a b q
              rw [Bool.or_eq_true] at q
              exact q.elim (w1 j a b) (w2 j a b)
          have keyσ := key σ e5 rfl rfl rfl hj.2.2.1
          by_cases q1 : anyI (hfB σ x z) n 0 = 0
          · by_cases q2 : anyI (hfB σ y z) n 0 = 0
            · have q := any2.mpr ⟨q1, q2⟩
              by_cases c5 : n = 10
              · refine badW (r := -1000003) h ?_ ?_
                · have hnf : ¬ nI n < 10 := fun w => by have := (full10 hn2).1.mp w; omega
                  rw [H1, hh1, Option.bind_some, if_pos q1, hh2, Option.bind_some, if_pos q2]
                  unfold p_Joins_full
                  rw [hj.2.1, if_neg hnf, Option.bind_some, if_neg (by decide)]
                · show p_M_join f _ _ _ _ = _
                  rw [keyσ, if_pos q, if_pos c5]
              · refine ⟨1, jaM σ n x y z, jmM (qmu (jaM σ n x y z) 104 0 0) n x y z, ?_, ?_, join_inv h hj e1 e2 e3 (by omega) c1 c2 c3 c4 q1 q2⟩
                · have hnf : nI n < 10 := (full10 hn2).1.mpr (by omega)
                  rw [H1, hh1, Option.bind_some, if_pos q1, hh2, Option.bind_some, if_pos q2]
                  unfold p_Joins_full
                  rw [hj.2.1, if_pos hnf, Option.bind_some, if_pos rfl, jadd_c hj.2.1 (by omega), Option.bind_some]
                · show p_M_join f _ _ _ _ = _
                  have jk : ∀ k, (k < 48 ∨ 52 < k) → jaM σ n x y z k = σ k := fun k hk => funext fun j => by
                    unfold jaM
                    rw [mu_k (by omega), mu_k (by omega), mu_k (by omega), mu_k (by omega), mu_k (by omega)]
                  rw [key (jaM σ n x y z) (by rw [jk 104 (by omega)]; exact e5) (jk 120 (by omega)) (jk 121 (by omega)) (jk 123 (by omega)) (by rw [jk 104 (by omega)]; exact hj.2.2.1), if_pos q, if_neg c5]
            · refine badW (r := -1000002) h ?_ ?_
              · rw [H1, hh1, Option.bind_some, if_pos q1, hh2, Option.bind_some, if_neg q2]
              · show p_M_join f _ _ _ _ = _
                rw [keyσ, if_neg (fun w => q2 (any2.mp w).2)]
          · refine badW (r := -1000002) h ?_ ?_
            · rw [H1, hh1, Option.bind_some, if_neg q1]
            · show p_M_join f _ _ _ _ = _
              rw [keyσ, if_neg (fun w => q1 (any2.mp w).1)]
        · refine badW (r := -1000001) h ?_ ?_
          · simp [p_C_join, hasL e13 hnp, c1, c2, c3, noDayL, c4]
          · simp [p_M_join, isPL (thr_pr e5) hnp, c1, c2, c3, isDayL, c4]
    · refine badW (r := -1000001) h ?_ ?_
      · simp [p_C_join, hasL e13 hnp, c1, c2]
      · simp [p_M_join, isPL (thr_pr e5) hnp, c1, c2]
  · refine badW (r := -1000001) h ?_ ?_
    · simp [p_C_join, hasL e13 hnp, c1]
    · simp [p_M_join, isPL (thr_pr e5) hnp, c1]
/-! split -/
theorem last_ex (P : Nat → Prop) : ∀ n : Nat, (∀ j, j < n → ¬ P j) ∨ ∃ L, L < n ∧ P L ∧ ∀ j, L < j → j < n → ¬ P j
  | 0 => Or.inl fun j hj => absurd hj (Nat.not_lt_zero _)
  | n + 1 => by
    by_cases c : P n
    · exact Or.inr ⟨n, by omega, c, fun j h1 h2 => by omega⟩
    · rcases last_ex P n with h | ⟨L, h1, h2, h3⟩
      · refine Or.inl fun j hj => ?_
        by_cases e : j = n
        · rw [e]; exact c
        · exact h j (by omega)
      · refine Or.inr ⟨L, by omega, h2, fun j a b => ?_⟩
        by_cases e : j = n
        · rw [e]; exact c
        · exact h3 j a (by omega)
theorem part_no {f : Nat} {σ : qMem} {n : Nat} {x z : Int32} (hn : σ 48 4 = nI n) (hn2 : n ≤ 10) (hf : 100 < f) (hno : ∀ j, j < n → ¬ (σ 49 j = x ∨ σ 50 j = x)) : p_Joins_part f σ x z = some (0, σ) := by
  unfold p_Joins_part
  rw [hn]
  refine run1 (n := n) (ix := fdI n) (f := f) (by omega) (fun k => ?_) (fun k i hi => ?_)
  · rw [fdI_n]
    rfl
  · unfold p_Joins_part_l7
    rw [(fdI_s hi).2, (fdI_s hi).1, if_neg (nI_pos (by omega)), has_j (by omega), Option.bind_some, if_neg (hno _ (by omega)), if_pos rfl]
theorem part_at {f : Nat} {σ : qMem} {n L : Nat} {x z : Int32} (hn : σ 48 4 = nI n) (hn2 : n ≤ 10) (hf : 100 < f) (hL : L < n) (h1 : σ 49 L = x ∨ σ 50 L = x) (hno : ∀ j, L < j → j < n → ¬ (σ 49 j = x ∨ σ 50 j = x)) : p_Joins_part f σ x z = some (if σ 52 L = 10000 ∧ σ 51 L < z then (1, qmu σ 52 L z) else (0, σ)) := by
  unfold p_Joins_part
  rw [hn]
  refine run1 (n := n - 1 - L) (ix := fdI n) (f := f) (by omega) (fun k => ?_) (fun k i hi => ?_)
  · have hq := qin_nI (k := L) (n := 10) (by omega) (by omega)
    have hqi : qi (nI L) = L := qi_nI (by omega)
    unfold p_Joins_part_l7
    rw [(fdI_s (show n - 1 - L < n by omega)).1, show n - (n - 1 - L) - 1 = L by omega, if_neg (nI_pos (by omega)), has_j (by omega), Option.bind_some, if_pos h1, if_neg (by decide), if_pos hq, if_pos hq, if_pos hq, hqi]
    by_cases c1 : σ 52 L = 10000 <;> by_cases c2 : σ 51 L < z <;> simp [c1, c2]
  · unfold p_Joins_part_l7
    rw [(fdI_s (show i < n by omega)).2, (fdI_s (show i < n by omega)).1, if_neg (nI_pos (by omega)), has_j (by omega), Option.bind_some, if_neg (hno _ (by omega) (by omega)), if_pos rfl]
theorem split_no {f : Nat} {σ τ : qMem} {n np : Nat} {x z : Int32} (h : joH σ n np) (t1 : τ 120 = σ 49) (t2 : τ 121 = σ 50) (t4 : τ 104 31 = nI n) (hf : 100 < f) (hno : ∀ j, j < n → ¬ (σ 49 j = x ∨ σ 50 j = x)) : qfix2 (p_M_split_l29 f τ x z) f (-1000000) (0 : Int32) = some (-1000002, τ) := by
  have hn2 : n ≤ 10 := h.1
  refine run2 (n := n) (f := f) (fun _ => (-1000000 : Int32)) (by omega) (fun k => ?_) (fun k i hi => ?_)
  · unfold p_M_split_l29
    rw [t4, if_pos (nI_le (Nat.le_refl _) (by omega)), if_pos rfl]
  · unfold p_M_split_l29
    rw [t4, if_neg (nI_ge hi (by omega)), isIn_j t1 t2 (by omega), Option.bind_some, if_neg (hno i hi), if_pos rfl, nI_1]
theorem split_at {f : Nat} {σ τ : qMem} {n np L : Nat} {x z : Int32} (h : joH σ n np) (t1 : τ 120 = σ 49) (t2 : τ 121 = σ 50) (t5 : τ 122 = σ 51) (t3 : τ 123 = σ 123) (t4 : τ 104 31 = nI n) (hf : 100 < f) (hL : L < n) (h1 : σ 49 L = x ∨ σ 50 L = x) (hno : ∀ j, L < j → j < n → ¬ (σ 49 j = x ∨ σ 50 j = x)) : qfix2 (p_M_split_l29 f τ x z) f (-1000000) (0 : Int32) = some (if σ 52 L = 10000 ∧ σ 51 L < z then (1, qmu τ 123 L z) else (-1000002, τ)) := by
  have hn2 : n ≤ 10 := h.1
  have key := wf2 (F := p_M_split_l29 f τ x z) (fun a y => ∃ i : Nat, i ≤ n ∧ y = nI i ∧ (L < i → a = nI L)) (fun _ y => 100 - qi y) (fun _ _ r => r = if σ 52 L = 10000 ∧ σ 51 L < z then (1, qmu τ 123 L z) else (-1000002, τ)) ?_ f (-1000000) 0 ⟨0, by omega, rfl, fun w => by omega⟩ (by show 100 - _ < f; omega)
  · obtain ⟨r, e, rfl⟩ := key
    exact e
  · rintro k a y ⟨i, hi, rfl, ha⟩ ih
    unfold p_M_split_l29
    by_cases c : i = n
    · have hq := qin_nI (k := L) (n := 10) (by omega) (by omega)
      have hqi : qi (nI L) = L := qi_nI (by omega)
      have hne : ¬ nI L = -1000000 := fun w => by
        have : (nI L).toInt = (-1000000 : Int32).toInt := by rw [w]
        rw [nI_toInt (by omega), show (-1000000 : Int32).toInt = -1000000 from rfl] at this
        omega
      have hE : σ 123 L = -1000000 ↔ σ 52 L = 10000 := by
        obtain ⟨-, c, e, k1, k2, k3, k4, k5, k6⟩ := h.2.2.2.2.2.1 L hL
        rw [k5, k6]
        by_cases q : e = 10000
        · rw [if_pos q, q]; exact ⟨fun _ => rfl, fun _ => rfl⟩
        · rw [if_neg q]
          constructor
          · intro w
            have : (nI e).toInt = (-1000000 : Int32).toInt := by rw [w]
            rw [nI_toInt (by omega), show (-1000000 : Int32).toInt = -1000000 from rfl] at this
            omega
          · intro w
            exact absurd ((nI_eq (a := e) (b := 10000) (by omega) (by omega)).mp w) q
      refine ⟨_, ?_, rfl⟩
      rw [t4, c, if_pos (nI_le (Nat.le_refl _) (by omega)), ha (by omega), if_neg hne, if_pos hq, if_pos hq, if_pos hq, hqi, t3, t5]
      by_cases c1 : σ 52 L = 10000 <;> by_cases c2 : σ 51 L < z <;> simp [hE, c1, c2]
    · rw [t4, if_neg (nI_ge (show i < n by omega) (by omega)), isIn_j t1 t2 (by omega), Option.bind_some, nI_1]
      have hm : 100 - qi (nI (i + 1)) < 100 - qi (nI i) := by rw [qi_nI (by omega), qi_nI (by omega)]; omega
      by_cases c2 : σ 49 i = x ∨ σ 50 i = x
      · rw [if_pos c2, if_neg (by decide)]
        exact ih (nI i) (nI (i + 1)) ⟨i + 1, by omega, rfl, fun w => by
          have : i = L := Classical.byContradiction fun q => hno i (by omega) (by omega) c2
          rw [this]⟩ hm
      · rw [if_neg c2, if_pos rfl]
        exact ih a (nI (i + 1)) ⟨i + 1, by omega, rfl, fun w => by
          by_cases q : L = i
          · rw [q] at h1; exact absurd h1 c2
          · exact ha (by omega)⟩ hm
theorem split_inv {σ : qMem} (h : Inv σ) {n np L : Nat} {z : Int32} (hj : joH σ n np) (e1 : σ 49 = σ 120) (e2 : σ 50 = σ 121) (e3 : σ 51 = σ 122) (hL : L < n) (c4 : rg z 0 9999) (q1 : σ 52 L = 10000) (q2 : σ 51 L < z) : Inv (qmu (qmu (qmu σ 52 L z) 104 0 0) 123 L z) := by
  have hnp : np ≤ 12 := hj.2.2.2.1
  obtain ⟨d, hd, rfl⟩ := rg_nat (b := 9999) c4
  refine h.u_jo (by repeat (first | exact agr_rf | refine agr_mu ?_ (by unfold P_jo; omega))) ?_
  have F52 : (qmu (qmu (qmu σ 52 L (nI d)) 104 0 0) 123 L (nI d)) 52 = upd (σ 52) L (nI d) := by simp [mu_c]
  have F123 : (qmu (qmu (qmu σ 52 L (nI d)) 104 0 0) 123 L (nI d)) 123 = upd (σ 123) L (nI d) := by simp [mu_c]
  have F : ∀ k, k ≠ 52 → k ≠ 104 → k ≠ 123 → (qmu (qmu (qmu σ 52 L (nI d)) 104 0 0) 123 L (nI d)) k = σ k := fun k a b c => funext fun j => by rw [mu_k c, mu_k b, mu_k a]
  have F104 : (qmu (qmu (qmu σ 52 L (nI d)) 104 0 0) 123 L (nI d)) 104 31 = nI n := by simp [mu_c, upd, hj.2.2.1]
  unfold g_jo
  rw [F 49 (by decide) (by decide) (by decide), F 50 (by decide) (by decide) (by decide), F 51 (by decide) (by decide) (by decide), F 120 (by decide) (by decide) (by decide), F 121 (by decide) (by decide) (by decide), F 122 (by decide) (by decide) (by decide), F 48 (by decide) (by decide) (by decide), F 13 (by decide) (by decide) (by decide), F52, F123, F104]
  refine ⟨e1, e2, e3, n, np, hj.1, hj.2.1, rfl, hnp, hj.2.2.2.2.1, fun i hi => ?_, fun i j hij hj2 hsh => ?_⟩
  · have hi2 := hj.2.2.2.2.2.1 i hi
    refine ⟨hi2.1, ?_⟩
    by_cases c : i = L
    · subst c
      obtain ⟨-, c, e, k1, k2, k3, k4, k5, k6⟩ := hi2
      rw [k4, nI_ltI (by omega) (by omega)] at q2
      refine ⟨c, d, q2, k2, by omega, k4, upd_s, ?_⟩
      rw [upd_s, if_neg (by omega)]
    · rw [upd_n c, upd_n c]
      exact hi2.2
  · have := hj.2.2.2.2.2.2 i j hij hj2 hsh
    by_cases c : i = L
    · subst c
      obtain ⟨-, c, e, k1, k2, k3, k4, k5, k6⟩ := hj.2.2.2.2.2.1 j hj2
      rw [q1, k4] at this
      have := (nI_leI (a := 10000) (b := c) (by omega) (by omega)).mp this
      omega
    · rw [upd_n c]
      exact this
theorem split_ok {f : Nat} {σ : qMem} (h : Inv σ) (hf : 100 < f) (x z : Int32) : PairW (p_C_split f σ x z) (fun s => p_M_split f s x z) := by
  obtain ⟨n, np, hj, e1, e2, e3⟩ := h.joh
  have hn2 : n ≤ 10 := hj.1
  have hnp : np ≤ 12 := hj.2.2.2.1
  have e13 : σ 13 1 = nI np := hj.2.2.2.2.1
  have e5 := h.np hnp e13
  have cc : ∀ (s : qMem) k, k ≠ 104 → (qmu s 104 0 0) k = s k := fun s k hk => funext fun j => mu_k hk
  by_cases c1 : rg x 0 ((np : Int) - 1)
  · by_cases c4 : rg z 0 9999
    · rcases last_ex (fun j => σ 49 j = x ∨ σ 50 j = x) n with hno | ⟨L, hL, h1, hno⟩
      · refine badW (r := -1000002) h ?_ ?_
        · simp [p_C_split, hasL e13 hnp, c1, noDayL, c4, part_no hj.2.1 hn2 hf hno]
        · have := split_no (f := f) (σ := σ) (τ := qmu σ 104 0 0) (x := x) (z := z) hj (by rw [cc _ 120 (by decide), e1]) (by rw [cc _ 121 (by decide), e2]) (by rw [mu_j (by decide)]; exact hj.2.2.1) hf hno
          simp [p_M_split, isPL (thr_pr e5) hnp, c1, isDayL, c4, this]
      · have H1 := part_at (f := f) (z := z) hj.2.1 hn2 hf hL h1 hno
        by_cases q : σ 52 L = 10000 ∧ σ 51 L < z
        · rw [if_pos q] at H1
          refine ⟨1, qmu σ 52 L z, qmu (qmu (qmu σ 52 L z) 104 0 0) 123 L z, ?_, ?_, split_inv h hj e1 e2 e3 hL c4 q.1 q.2⟩
          · simp [p_C_split, hasL e13 hnp, c1, noDayL, c4, H1]
          · have ck : ∀ k, k ≠ 104 → k ≠ 52 → (qmu (qmu σ 52 L z) 104 0 0) k = σ k := fun k a b => funext fun j => by rw [mu_k a, mu_k b]
            have := split_at (f := f) (σ := σ) (τ := qmu (qmu σ 52 L z) 104 0 0) (x := x) (z := z) hj (by rw [ck 120 (by decide) (by decide), e1]) (by rw [ck 121 (by decide) (by decide), e2]) (by rw [ck 122 (by decide) (by decide), e3]) (ck 123 (by decide) (by decide)) (by rw [mu_j (by decide), mu_k (by decide)]; exact hj.2.2.1) hf hL h1 hno
            rw [if_pos q] at this
            have e5' : (qmu σ 52 L z) 104 5 = nI np := by rw [mu_k (by decide)]; exact e5
            simp [p_M_split, isPL (thr_pr e5') hnp, c1, isDayL, c4, this]
        · rw [if_neg q] at H1
          refine badW (r := -1000002) h ?_ ?_
          · simp [p_C_split, hasL e13 hnp, c1, noDayL, c4, H1]
          · have := split_at (f := f) (σ := σ) (τ := qmu σ 104 0 0) (x := x) (z := z) hj (by rw [cc _ 120 (by decide), e1]) (by rw [cc _ 121 (by decide), e2]) (by rw [cc _ 122 (by decide), e3]) (cc _ 123 (by decide)) (by rw [mu_j (by decide)]; exact hj.2.2.1) hf hL h1 hno
            rw [if_neg q] at this
            simp [p_M_split, isPL (thr_pr e5) hnp, c1, isDayL, c4, this]
    · refine badW (r := -1000001) h ?_ ?_
      · simp [p_C_split, hasL e13 hnp, c1, noDayL, c4]
      · simp [p_M_split, isPL (thr_pr e5) hnp, c1, isDayL, c4]
  · refine badW (r := -1000001) h ?_ ?_
    · simp [p_C_split, hasL e13 hnp, c1]
    · simp [p_M_split, isPL (thr_pr e5) hnp, c1]
