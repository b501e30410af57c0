/-! masks of lines -/
theorem mk_lI {a : Nat} (h : a < 2 ^ 63) : (lN a).toInt = (a : Int) := lg_ofNat_toInt h
theorem mk_c : ∀ k, k < 60 → (((nI k).toInt64 &&& 63).toBitVec.smod 64).toNat = k := by decide +kernel
theorem mk_shr {a k : Nat} (hk : k < 60) (h : a < 2 ^ 62) : lN a >>> ((nI k).toInt64 &&& 63) = lN (a / 2 ^ k) := by
  have hd : a / 2 ^ k ≤ a := Nat.div_le_self _ _
  apply Int64.toInt_inj.mp
  have e : (lN a >>> ((nI k).toInt64 &&& 63)).toInt = (lN a).toInt >>> k := by
    have := mk_c k hk
    conv => rhs; rw [← this]
    exact BitVec.toInt_sshiftRight ..
  rw [e, Int.shiftRight_eq_div_pow, mk_lI (by omega), mk_lI (by omega)]
  simp
theorem mk_and (a b : Nat) : lN a &&& lN b = lN (a &&& b) := by
  apply Int64.toBitVec_inj.1
  show BitVec.ofNat 64 a &&& BitVec.ofNat 64 b = BitVec.ofNat 64 (a &&& b)
  apply BitVec.eq_of_getLsbD_eq
  intro i hi
  simp [hi]
theorem mk_or (a b : Nat) : lN a ||| lN b = lN (a ||| b) := by
  apply Int64.toBitVec_inj.1
  show BitVec.ofNat 64 a ||| BitVec.ofNat 64 b = BitVec.ofNat 64 (a ||| b)
  apply BitVec.eq_of_getLsbD_eq
  intro i hi
  simp [hi]
theorem mk_1 : ∀ k, k < 60 → (1 : Int64) <<< ((nI k).toInt64 &&& 63) = lN (2 ^ k) := by decide +kernel
theorem mk_bit {a k : Nat} (hk : k < 60) (h : a < 2 ^ 62) : (lN a >>> ((nI k).toInt64 &&& 63)) &&& (1 : Int64) = if a.testBit k = true then 1 else 0 := by
  rw [mk_shr hk h, show (1 : Int64) = lN 1 from rfl, mk_and, Nat.and_one_is_mod]
  have e : a.testBit k = decide (a / 2 ^ k % 2 = 1) := Nat.testBit_eq_decide_div_mod_eq
  rw [e]
  rcases Nat.mod_two_eq_zero_or_one (a / 2 ^ k) with q | q
  · rw [q]; rfl
  · rw [q]; rfl
theorem mk_set (n j i : Nat) : (n ||| 2 ^ j).testBit i = (n.testBit i || decide (i = j)) := by
  rw [Nat.testBit_or]
  by_cases h : j = i
  · subst h; simp
  · have h2 : ¬ i = j := fun e => h e.symm
    first | (simp [Nat.testBit_two_pow, h, h2]; done) | (simp [Nat.testBit_two_pow_of_ne h, h2]; done)
theorem mk_lt {n j : Nat} (h : n < 2 ^ 60) (hj : j < 60) : n ||| 2 ^ j < 2 ^ 60 := Nat.or_lt_two_pow h (Nat.pow_lt_pow_right (by decide) hj)
theorem bt_1 {a k : Nat} (hk : k < 60) (h : a < 2 ^ 62) : lg_cmp ((lN a >>> ((nI k).toInt64 &&& 63)) &&& (1 : Int64)) 1 = 0 ↔ a.testBit k = true := by
  rw [mk_bit hk h, lg_cmp_eq]
  by_cases c : a.testBit k = true
  · rw [if_pos c]; exact ⟨fun _ => c, fun _ => rfl⟩
  · rw [if_neg c]; exact ⟨fun w => absurd w (by decide), fun w => absurd w c⟩
theorem bt_0 {a k : Nat} (hk : k < 60) (h : a < 2 ^ 62) : lg_cmp ((lN a >>> ((nI k).toInt64 &&& 63)) &&& (1 : Int64)) 0 = 0 ↔ ¬ a.testBit k = true := by
  rw [mk_bit hk h, lg_cmp_eq]
  by_cases c : a.testBit k = true
  · rw [if_pos c]; exact ⟨fun w => absurd w (by decide), fun w => absurd c w⟩
  · rw [if_neg c]; exact ⟨fun _ => c, fun _ => rfl⟩
/-! loops to any end -/
theorem run2oc {A R : Type} {F : (A → Int32 → Option R) → A → Int32 → Option R} {n : Nat} {st : Nat → A} {r : Option R} (he : ∀ k, F k (st n) (nI n) = r) (hs : ∀ k i, i < n → F k (st i) (nI i) = k (st (i + 1)) (nI (i + 1))) : ∀ (m i e : Nat), i + m = n → qfix2 F (m + 1 + e) (st i) (nI i) = r
  | 0, i, e, h => by
    have hi : i = n := by omega
    subst hi
    rw [show 0 + 1 + e = e + 1 by omega, qfix2_s]
    exact he _
  | m + 1, i, e, h => by
    rw [show m + 1 + 1 + e = (m + 1 + e) + 1 by omega, qfix2_s, hs _ i (by omega)]
    exact run2oc he hs m (i + 1) e (by omega)
theorem run2o {A R : Type} {F : (A → Int32 → Option R) → A → Int32 → Option R} {n f : Nat} (st : Nat → A) {r : Option R} (hf : n < f) (he : ∀ k, F k (st n) (nI n) = r) (hs : ∀ k i, i < n → F k (st i) (nI i) = k (st (i + 1)) (nI (i + 1))) : qfix2 F f (st 0) (0 : Int32) = r := by
  obtain ⟨e, rfl⟩ : ∃ e, f = n + 1 + e := ⟨f - n - 1, by omega⟩
  exact run2oc he hs n 0 e (by omega)
theorem run3oc {A B R : Type} {F : (A → B → Int32 → Option R) → A → B → Int32 → Option R} {n : Nat} {st : Nat → A} {su : Nat → B} {r : Option R} (he : ∀ k, F k (st n) (su n) (nI n) = r) (hs : ∀ k i, i < n → F k (st i) (su i) (nI i) = k (st (i + 1)) (su (i + 1)) (nI (i + 1))) : ∀ (m i e : Nat), i + m = n → qfix3 F (m + 1 + e) (st i) (su i) (nI i) = r
  | 0, i, e, h => by
    have hi : i = n := by omega
    subst hi
    rw [show 0 + 1 + e = e + 1 by omega, qfix3_s]
    exact he _
  | m + 1, i, e, h => by
    rw [show m + 1 + 1 + e = (m + 1 + e) + 1 by omega, qfix3_s, hs _ i (by omega)]
    exact run3oc he hs m (i + 1) e (by omega)
theorem run3o {A B R : Type} {F : (A → B → Int32 → Option R) → A → B → Int32 → Option R} {n f : Nat} (st : Nat → A) (su : Nat → B) {r : Option R} (hf : n < f) (he : ∀ k, F k (st n) (su n) (nI n) = r) (hs : ∀ k i, i < n → F k (st i) (su i) (nI i) = k (st (i + 1)) (su (i + 1)) (nI (i + 1))) : qfix3 F f (st 0) (su 0) (0 : Int32) = r := by
  obtain ⟨e, rfl⟩ : ∃ e, f = n + 1 + e := ⟨f - n - 1, by omega⟩
  exact run3oc he hs n 0 e (by omega)
/-! counting by an order -/
theorem sm_ge {g : Nat → Nat} {a n : Nat} (h : a < n) : g a ≤ sm g n := by
  have h1 : sm g (a + 1) ≤ sm g n := sm_mono h
  have h2 : sm g (a + 1) = sm g a + g a := rfl
  omega
theorem cnt_bij {n i : Nat} {ord : Nat → Nat} (P met : Nat → Bool) (ho : ∀ j, j < i → ord j < n) (hinj : ∀ j j', j < i → j' < i → ord j = ord j' → j = j') (hm : ∀ k, k < n → (met k = true ↔ ∃ j, j < i ∧ ord j = k)) : sm (fun k => bI (met k && P k)) n = sm (fun j => bI (P (ord j))) i := by
  have h1 : ∀ k, k < n → bI (met k && P k) = sm (fun j => bI (decide (ord j = k) && P k)) i := by
    intro k hk
    by_cases c : met k = true
    · obtain ⟨j0, hj0, e0⟩ := (hm k hk).mp c
      rw [sm_one (a := j0) hj0 (fun j hj hne => by
        have : ¬ ord j = k := fun w => hne (hinj j j0 hj hj0 (w.trans e0.symm))
        simp [this, bI])]
      simp [c, e0]
    · have c' : met k = false := by simpa using c
      rw [sm_0 (fun j hj => by
        have : ¬ ord j = k := fun w => c ((hm k hk).mpr ⟨j, hj, w⟩)
        simp [this, bI])]
      simp [c', bI]
  rw [sm_cg h1, sm_swap]
  refine sm_cg (fun j hj => ?_)
  rw [sm_one (a := ord j) (ho j hj) (fun k hk hne => by
    have : ¬ ord j = k := fun w => hne w.symm
    simp [this, bI])]
  simp
theorem ord_surj {n : Nat} {ord : Nat → Nat} (ho : ∀ j, j < n → ord j < n) (hinj : ∀ j j', j < n → j' < n → ord j = ord j' → j = j') : ∀ k, k < n → ∃ j, j < n ∧ ord j = k := by
  intro k hk
  refine Classical.byContradiction fun hno => ?_
  have h1 := cnt_bij (n := n) (i := n) (ord := ord) (fun _ => true) (fun k => @decide (∃ j, j < n ∧ ord j = k) (Classical.propDecidable _)) ho hinj (fun k _ => by simp)
  have h2 : sm (fun j => bI true) n = n := by
    have : ∀ m, sm (fun _ => bI true) m = m := by
      intro m
      induction m with
      | zero => rfl
      | succ m ih => unfold sm; rw [ih]; rfl
    exact this n
  rw [h2] at h1
  have h3 := sm_cnt (fun k => (@decide (∃ j, j < n ∧ ord j = k) (Classical.propDecidable _)) && true) n
  rw [h1] at h3
  have h4 := sm_ge (g := fun i => bI (!((@decide (∃ j, j < n ∧ ord j = i) (Classical.propDecidable _)) && true))) hk
  have h5 : bI (!((@decide (∃ j, j < n ∧ ord j = k) (Classical.propDecidable _)) && true)) = 1 := by simp [bI]; exact fun j hj e => hno ⟨j, hj, e⟩
  rw [h5] at h4
  omega
theorem cntG_sm {σ : qMem} {g : Nat → Int32} {ord : Nat → Nat} {l : Nat} : ∀ {i : Nat}, cntG σ g ord l i = sm (fun j => bI (decide (g (ord j) = 1 ∧ σ 44 (ord j) = σ 44 l ∧ lpr σ (ord j) = lpr σ l))) i
  | 0 => rfl
  | i + 1 => by
    unfold cntG sm
    rw [cntG_sm]
    by_cases c : g (ord i) = 1 ∧ σ 44 (ord i) = σ 44 l ∧ lpr σ (ord i) = lpr σ l
    · rw [if_pos c, decide_eq_true c]; rfl
    · rw [if_neg c, decide_eq_false c]; rfl
