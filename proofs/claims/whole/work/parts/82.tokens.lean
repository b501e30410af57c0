/-! tokens -/
theorem mu_id {σ : qMem} {k j : Nat} {v : Int32} (h : σ k j = v) : qmu σ k j v = σ := by
  funext a b
  unfold qmu
  by_cases c : a = k ∧ b = j
  · rw [if_pos c, c.1, c.2, h]
  · rw [if_neg c]
theorem mu_mu {σ : qMem} {k j : Nat} {v w : Int32} : qmu (qmu σ k j v) k j w = qmu σ k j w := by
  funext a b
  unfold qmu
  by_cases c : a = k ∧ b = j
  · rw [if_pos c, if_pos c]
  · rw [if_neg c, if_neg c, if_neg c]
def skp (P : Nat → Bool) : Nat → Nat → Nat
  | 0, c => c
  | m + 1, c => if P c = true then skp P m (c + 1) else c
theorem skp_sp {P : Nat → Bool} : ∀ m c, c ≤ skp P m c ∧ skp P m c ≤ c + m ∧ (∀ j, c ≤ j → j < skp P m c → P j = true) ∧ (skp P m c < c + m → ¬ P (skp P m c) = true)
  | 0, c => ⟨Nat.le_refl _, Nat.le_refl _, fun j h1 h2 => absurd h2 (by show ¬ j < c; omega), fun h => absurd h (by show ¬ c < c + 0; omega)⟩
  | m + 1, c => by
    unfold skp
    by_cases h : P c = true
    · rw [if_pos h]
      obtain ⟨h1, h2, h3, h4⟩ := skp_sp (P := P) m (c + 1)
      refine ⟨by omega, by omega, fun j a b => ?_, fun a => h4 (by omega)⟩
      by_cases e : j = c
      · rw [e]; exact h
      · exact h3 j (by omega) b
    · rw [if_neg h]
      exact ⟨Nat.le_refl _, by omega, fun j a b => by omega, fun _ => h⟩
def spQ (B : Nat → Nat) (j : Nat) : Bool := decide (B j = 32) || decide (B j = 10)
def ltQ (B : Nat → Nat) (j : Nat) : Bool := decide (97 ≤ B j) && decide (B j ≤ 122)
def fgQ (B : Nat → Nat) (j : Nat) : Bool := decide (48 ≤ B j) && decide (B j ≤ 57)
def tfr (B : Nat → Nat) (n c : Nat) : Nat := skp (spQ B) (n - c) c
def ttl (B : Nat → Nat) (n c : Nat) : Nat := if tfr B n c < n then (if ltQ B (tfr B n c) = true then skp (ltQ B) (n - tfr B n c) (tfr B n c) else if fgQ B (tfr B n c) = true then skp (fgQ B) (n - tfr B n c) (tfr B n c) else tfr B n c + 1) else tfr B n c
def tkd (B : Nat → Nat) (n c : Nat) : Nat := if tfr B n c < n then (if ltQ B (tfr B n c) = true then 1 else if fgQ B (tfr B n c) = true then (if ttl B n c - tfr B n c ≤ 5 then 2 else 4) else if B (tfr B n c) = 59 then 3 else 4) else 0
theorem tfr_b {B : Nat → Nat} {n c : Nat} (h : c ≤ n) : c ≤ tfr B n c ∧ tfr B n c ≤ n ∧ (∀ j, c ≤ j → j < tfr B n c → spQ B j = true) ∧ (tfr B n c < n → ¬ spQ B (tfr B n c) = true) := by
  obtain ⟨h1, h2, h3, h4⟩ := skp_sp (P := spQ B) (n - c) c
  exact ⟨h1, by unfold tfr; omega, h3, fun a => h4 (by unfold tfr at a; omega)⟩
theorem skp_1 {P : Nat → Bool} {m c : Nat} (h : P c = true) : c + 1 ≤ skp P (m + 1) c := by
  unfold skp
  rw [if_pos h]
  exact (skp_sp m (c + 1)).1
theorem ttl_b {B : Nat → Nat} {n c : Nat} (h : c ≤ n) : tfr B n c ≤ ttl B n c ∧ ttl B n c ≤ n ∧ (tfr B n c < n → tfr B n c < ttl B n c) := by
  obtain ⟨h1, h2, -, -⟩ := tfr_b (B := B) h
  unfold ttl
  by_cases c0 : tfr B n c < n
  · rw [if_pos c0]
    obtain ⟨m, hm⟩ : ∃ m, n - tfr B n c = m + 1 := ⟨n - tfr B n c - 1, by omega⟩
    by_cases c1 : ltQ B (tfr B n c) = true
    · rw [if_pos c1]
      have h3 := skp_sp (P := ltQ B) (n - tfr B n c) (tfr B n c)
      have h4 := skp_1 (m := m) c1
      rw [← hm] at h4
      exact ⟨h3.1, by omega, fun _ => by omega⟩
    · rw [if_neg c1]
      by_cases c2 : fgQ B (tfr B n c) = true
      · rw [if_pos c2]
        have h3 := skp_sp (P := fgQ B) (n - tfr B n c) (tfr B n c)
        have h4 := skp_1 (m := m) c2
        rw [← hm] at h4
        exact ⟨h3.1, by omega, fun _ => by omega⟩
      · rw [if_neg c2]
        exact ⟨by omega, by omega, fun _ => by omega⟩
  · rw [if_neg c0]
    exact ⟨Nat.le_refl _, h2, fun w => absurd w c0⟩
theorem tkd_0 {B : Nat → Nat} {n c : Nat} : tkd B n c = 0 ↔ ¬ tfr B n c < n := by
  unfold tkd
  by_cases c0 : tfr B n c < n
  · rw [if_pos c0]
    refine ⟨fun w => ?_, fun w => absurd c0 w⟩
    by_cases c1 : ltQ B (tfr B n c) = true
    · rw [if_pos c1] at w; exact absurd w (by decide)
    · rw [if_neg c1] at w
      by_cases c2 : fgQ B (tfr B n c) = true
      · rw [if_pos c2] at w
        by_cases c3 : ttl B n c - tfr B n c ≤ 5
        · rw [if_pos c3] at w; exact absurd w (by decide)
        · rw [if_neg c3] at w; exact absurd w (by decide)
      · rw [if_neg c2] at w
        by_cases c3 : B (tfr B n c) = 59
        · rw [if_pos c3] at w; exact absurd w (by decide)
        · rw [if_neg c3] at w; exact absurd w (by decide)
  · rw [if_neg c0]
    exact ⟨fun _ => c0, fun _ => rfl⟩
theorem tkd_4 {B : Nat → Nat} {n c : Nat} : tkd B n c ≤ 4 := by
  unfold tkd
  repeat (first | split | omega)
def sgB (b : Nat) : Int32 := (nI b).toInt8.toInt32
theorem sg_all : ∀ b, b < 256 → (sgB b = 32 ↔ b = 32) ∧ (sgB b = 10 ↔ b = 10) ∧ (sgB b < 97 ∨ 122 < sgB b ↔ ¬ (97 ≤ b ∧ b ≤ 122)) ∧ (sgB b < 48 ∨ 57 < sgB b ↔ ¬ (48 ≤ b ∧ b ≤ 57)) ∧ (sgB b = 59 ↔ b = 59) ∧ (b < 128 → sgB b = nI b) := by decide +kernel
def tcH (σ : qMem) (n : Nat) (B : Nat → Nat) : Prop := n ≤ 500 ∧ σ 27 1 = nI n ∧ ∀ i, i < n → B i < 256 ∧ σ 28 i = sgB (B i)
def tk3 (σ : qMem) (x y z : Int32) : qMem := fun a b => if a = 27 ∧ b = 3 then x else if a = 27 ∧ b = 4 then y else if a = 27 ∧ b = 5 then z else σ a b
theorem tk3_eq {σ : qMem} {x y z : Int32} : qmu (qmu (qmu σ 27 4 y) 27 3 x) 27 5 z = tk3 σ x y z := by
  funext a b
  unfold qmu tk3
  by_cases c1 : a = 27 ∧ b = 5
  · rw [if_pos c1, if_neg (by omega), if_neg (by omega), if_pos c1]
  · rw [if_neg c1]
    by_cases c2 : a = 27 ∧ b = 3
    · rw [if_pos c2, if_pos c2]
    · rw [if_neg c2, if_neg c2]
      by_cases c3 : a = 27 ∧ b = 4
      · rw [if_pos c3, if_pos c3]
      · rw [if_neg c3, if_neg c3, if_neg c1]
theorem letter_c {f : Nat} {σ ρ : qMem} {n j : Nat} {B : Nat → Nat} (h : tcH σ n B) (hr : ρ 28 = σ 28) (hj : j < n) : p_Deeds_letter f ρ (nI j) = some (if ltQ B j = true then 1 else 0) := by
  have hn := h.1
  obtain ⟨b1, b2⟩ := h.2.2 j hj
  have hs := (sg_all (B j) b1).2.2.1
  have hq := qin_nI (k := j) (n := 500) (by omega) (by omega)
  unfold p_Deeds_letter ltQ
  rw [if_pos hq, if_pos hq, qi_nI (by omega), hr, b2]
  by_cases c1 : sgB (B j) < 97
  · have := hs.mp (Or.inl c1)
    rw [if_pos c1, if_neg (by simp only [Bool.and_eq_true, decide_eq_true_eq]; exact this)]
  · rw [if_neg c1]
    by_cases c2 : 122 < sgB (B j)
    · have := hs.mp (Or.inr c2)
      rw [if_pos c2, if_neg (by simp only [Bool.and_eq_true, decide_eq_true_eq]; exact this)]
    · rw [if_neg c2, if_pos]
      simp only [Bool.and_eq_true, decide_eq_true_eq]
      exact Classical.byContradiction fun w => (hs.mpr w).elim c1 c2
theorem figure_c {f : Nat} {σ ρ : qMem} {n j : Nat} {B : Nat → Nat} (h : tcH σ n B) (hr : ρ 28 = σ 28) (hj : j < n) : p_Deeds_figure f ρ (nI j) = some (if fgQ B j = true then 1 else 0) := by
  have hn := h.1
  obtain ⟨b1, b2⟩ := h.2.2 j hj
  have hs := (sg_all (B j) b1).2.2.2.1
  have hq := qin_nI (k := j) (n := 500) (by omega) (by omega)
  unfold p_Deeds_figure fgQ
  rw [if_pos hq, if_pos hq, qi_nI (by omega), hr, b2]
  by_cases c1 : sgB (B j) < 48
  · have := hs.mp (Or.inl c1)
    rw [if_pos c1, if_neg (by simp only [Bool.and_eq_true, decide_eq_true_eq]; exact this)]
  · rw [if_neg c1]
    by_cases c2 : 57 < sgB (B j)
    · have := hs.mp (Or.inr c2)
      rw [if_pos c2, if_neg (by simp only [Bool.and_eq_true, decide_eq_true_eq]; exact this)]
    · rw [if_neg c2, if_pos]
      simp only [Bool.and_eq_true, decide_eq_true_eq]
      exact Classical.byContradiction fun w => (hs.mpr w).elim c1 c2
theorem nt_b41 {f : Nat} {σ : qMem} {n c : Nat} {B : Nat → Nat} (h : tcH σ n B) (hc : c ≤ n) (hf : 1000 < f) : p_Deeds_nextToken_b41 f σ (nI (tfr B n c)) = some (tk3 σ (nI (tkd B n c)) (nI (tfr B n c)) (nI (ttl B n c))) := by
  have hn := h.1
  obtain ⟨f1, f2, -, -⟩ := tfr_b (B := B) hc
  have htl := ttl_b (B := B) hc
  have r28 : ∀ (ρ : qMem) (b : Nat) (v : Int32), (qmu ρ 27 b v) 28 = ρ 28 := fun ρ b v => funext fun j => mu_k (by decide)
  have k28 : (qmu σ 27 4 (nI (tfr B n c))) 28 = σ 28 := r28 _ _ _
  unfold p_Deeds_nextToken_b41
  rw [mu_j (by decide), h.2.1]
  by_cases c0 : tfr B n c < n
  · rw [if_pos (nI_lt c0 (by omega)), letter_c h k28 c0, Option.bind_some, figure_c h k28 c0, Option.bind_some]
    by_cases c1 : ltQ B (tfr B n c) = true
    · rw [if_pos c1, if_neg (by decide)]
      have ek : tkd B n c = 1 := by unfold tkd; rw [if_pos c0, if_pos c1]
      have et : ttl B n c = skp (ltQ B) (n - tfr B n c) (tfr B n c) := by unfold ttl; rw [if_pos c0, if_pos c1]
      obtain ⟨s1, s2, s3, s4⟩ := skp_sp (P := ltQ B) (n - tfr B n c) (tfr B n c)
      rw [← et] at s1 s2 s3 s4
      have kk : (qmu (qmu σ 27 4 (nI (tfr B n c))) 27 3 1) 28 = σ 28 := by rw [r28, r28]
      have kl : (qmu (qmu σ 27 4 (nI (tfr B n c))) 27 3 1) 27 1 = nI n := by rw [mu_j (by decide), mu_j (by decide)]; exact h.2.1
      refine run1 (n := ttl B n c - tfr B n c) (f := f) (fun t => nI (tfr B n c + t)) (by omega) (fun k => ?_) (fun k t ht => ?_)
      · unfold p_Deeds_nextToken_l75
        rw [show tfr B n c + (ttl B n c - tfr B n c) = ttl B n c by omega, kl, ek]
        by_cases c2 : ttl B n c < n
        · rw [if_neg (nI_ge c2 (by omega)), letter_c h kk c2, Option.bind_some, if_neg (s4 (by omega)), if_pos rfl]
          rw [tk3_eq]; rfl
        · rw [if_pos (nI_le (by omega) (by omega)), tk3_eq]; rfl
      · unfold p_Deeds_nextToken_l75
        rw [kl, if_neg (nI_ge (by omega) (by omega)), letter_c h kk (by omega), Option.bind_some, if_pos (s3 _ (by omega) (by omega)), if_neg (by decide), nI_1, Nat.add_assoc]
    · rw [if_neg c1, if_pos rfl]
      by_cases c2 : fgQ B (tfr B n c) = true
      · rw [if_pos c2, if_neg (by decide)]
        have ek : tkd B n c = if ttl B n c - tfr B n c ≤ 5 then 2 else 4 := by unfold tkd; rw [if_pos c0, if_neg c1, if_pos c2]
        have et : ttl B n c = skp (fgQ B) (n - tfr B n c) (tfr B n c) := by unfold ttl; rw [if_pos c0, if_neg c1, if_pos c2]
        obtain ⟨s1, s2, s3, s4⟩ := skp_sp (P := fgQ B) (n - tfr B n c) (tfr B n c)
        rw [← et] at s1 s2 s3 s4
        have kl : (qmu σ 27 4 (nI (tfr B n c))) 27 1 = nI n := by rw [mu_j (by decide)]; exact h.2.1
        have k4 : (qmu σ 27 4 (nI (tfr B n c))) 27 4 = nI (tfr B n c) := mu_s
        have b127 : p_Deeds_nextToken_b127 f (qmu σ 27 4 (nI (tfr B n c))) (nI (ttl B n c)) = some (tk3 σ (nI (tkd B n c)) (nI (tfr B n c)) (nI (ttl B n c))) := by
          unfold p_Deeds_nextToken_b127
          rw [k4, pk_sub (by omega), ek]
          by_cases c3 : ttl B n c - tfr B n c ≤ 5
          · rw [if_neg (show ¬ (5 : Int32) < nI (ttl B n c - tfr B n c) from nI_nlt (a := 5) c3 (by omega)), if_pos c3, tk3_eq]; rfl
          · rw [if_pos (show (5 : Int32) < nI (ttl B n c - tfr B n c) from nI_lt (a := 5) (by omega) (by omega)), if_neg c3, tk3_eq]; rfl
        refine run1 (n := ttl B n c - tfr B n c) (f := f) (fun t => nI (tfr B n c + t)) (by omega) (fun k => ?_) (fun k t ht => ?_)
        · unfold p_Deeds_nextToken_l105
          rw [show tfr B n c + (ttl B n c - tfr B n c) = ttl B n c by omega, kl, b127]
          by_cases c3 : ttl B n c < n
          · rw [if_neg (nI_ge c3 (by omega)), figure_c h k28 c3, Option.bind_some, if_neg (s4 (by omega)), if_pos rfl]
          · rw [if_pos (nI_le (by omega) (by omega))]
        · unfold p_Deeds_nextToken_l105
          rw [kl, if_neg (nI_ge (by omega) (by omega)), figure_c h k28 (by omega), Option.bind_some, if_pos (s3 _ (by omega) (by omega)), if_neg (by decide), nI_1, Nat.add_assoc]
      · rw [if_neg c2, if_pos rfl, if_pos (qin_nI (by omega) (by omega)), qi_nI (by omega), mu_k (by decide), (h.2.2 _ c0).2, nI_1, tk3_eq, tk3_eq]
        have et : ttl B n c = tfr B n c + 1 := by unfold ttl; rw [if_pos c0, if_neg c1, if_neg c2]
        have ek : tkd B n c = if B (tfr B n c) = 59 then 3 else 4 := by unfold tkd; rw [if_pos c0, if_neg c1, if_neg c2]
        have hs := (sg_all _ (h.2.2 _ c0).1).2.2.2.2.1
        rw [et, ek]
        by_cases c3 : B (tfr B n c) = 59
        · rw [if_pos (hs.mpr c3), if_pos c3]; rfl
        · rw [if_neg (fun w => c3 (hs.mp w)), if_neg c3]; rfl
  · have ek : tkd B n c = 0 := tkd_0.mpr c0
    have et : ttl B n c = tfr B n c := by unfold ttl; rw [if_neg c0]
    rw [if_neg (nI_nlt (by omega) (by omega)), tk3_eq, ek, et]
    rfl
theorem tok_c {f : Nat} {σ : qMem} {n c : Nat} {B : Nat → Nat} (h : tcH σ n B) (h5 : σ 27 5 = nI c) (hc : c ≤ n) (hf : 1000 < f) : p_Deeds_nextToken f σ = some (tk3 σ (nI (tkd B n c)) (nI (tfr B n c)) (nI (ttl B n c))) := by
  have hn := h.1
  obtain ⟨f1, f2, f3, f4⟩ := tfr_b (B := B) hc
  unfold p_Deeds_nextToken
  rw [h5]
  refine run1 (n := tfr B n c - c) (f := f) (fun t => nI (c + t)) (by omega) (fun k => ?_) (fun k t ht => ?_)
  · unfold p_Deeds_nextToken_l5
    rw [show c + (tfr B n c - c) = tfr B n c by omega, h.2.1, nt_b41 h hc hf]
    by_cases c0 : tfr B n c < n
    · have hq := qin_nI (k := tfr B n c) (n := 500) (by omega) (by omega)
      have hs := sg_all _ (h.2.2 _ c0).1
      have h4 := f4 c0
      unfold spQ at h4
      simp only [Bool.or_eq_true, decide_eq_true_eq] at h4
      rw [if_neg (nI_ge c0 (by omega)), if_pos hq, if_pos hq, qi_nI (by omega), (h.2.2 _ c0).2, if_neg (fun w => h4 (Or.inl (hs.1.mp w))), if_neg (fun w => h4 (Or.inr (hs.2.1.mp w)))]
    · rw [if_pos (nI_le (by omega) (by omega))]
  · have hj : c + t < n := by omega
    have hq := qin_nI (k := c + t) (n := 500) (by omega) (by omega)
    have hs := sg_all _ (h.2.2 _ hj).1
    have h3 := f3 (c + t) (by omega) (by omega)
    unfold spQ at h3
    simp only [Bool.or_eq_true, decide_eq_true_eq] at h3
    unfold p_Deeds_nextToken_l5
    rw [h.2.1, if_neg (nI_ge hj (by omega)), if_pos hq, if_pos hq, qi_nI (by omega), (h.2.2 _ hj).2, nI_1, Nat.add_assoc]
    by_cases c1 : B (c + t) = 32
    · rw [if_pos (hs.1.mpr c1)]
    · rw [if_neg (fun w => c1 (hs.1.mp w)), if_pos (hs.2.1.mpr (h3.resolve_left c1))]
/-! the model's tokens -/
def tmH (τ : qMem) (n : Nat) (B : Nat → Nat) : Prop := n ≤ 500 ∧ τ 104 10 = nI n ∧ ∀ i, i < n → B i < 256 ∧ τ 109 i = nI (B i)
def kM (k : Nat) : Int32 := if k = 0 then 1 else if k = 1 then 2 else if k = 2 then 3 else if k = 3 then 4 else 0
def tm4 (τ : qMem) (x y z : Int32) : qMem := fun a b => if a = 104 ∧ b = 12 then x else if a = 104 ∧ b = 13 then y else if a = 104 ∧ (b = 11 ∨ b = 14) then z else τ a b
theorem tm4_eq {τ : qMem} {x y z : Int32} : qmu (qmu (qmu (qmu τ 104 13 y) 104 11 z) 104 12 x) 104 14 z = tm4 τ x y z := by
  funext a b
  unfold qmu tm4
  by_cases c1 : a = 104 ∧ b = 14
  · rw [if_pos c1, if_neg (by omega), if_neg (by omega), if_pos (by omega)]
  · rw [if_neg c1]
    by_cases c2 : a = 104 ∧ b = 12
    · rw [if_pos c2, if_pos c2]
    · rw [if_neg c2, if_neg c2]
      by_cases c3 : a = 104 ∧ b = 11
      · rw [if_pos c3, if_neg (by omega), if_pos (by omega)]
      · rw [if_neg c3]
        by_cases c4 : a = 104 ∧ b = 13
        · rw [if_pos c4, if_pos c4]
        · rw [if_neg c4, if_neg c4, if_neg (by omega)]
theorem byteAt_m {f : Nat} {τ ρ : qMem} {n j : Nat} {B : Nat → Nat} (h : tmH τ n B) (h1 : ρ 104 10 = τ 104 10) (h2 : ρ 109 = τ 109) (hj : j ≤ n) : p_M_byteAt f ρ (nI j) = some (if j < n then nI (B j) else -1000000) := by
  have hn := h.1
  unfold p_M_byteAt
  rw [h1, h2, h.2.1]
  by_cases c : j < n
  · rw [if_neg (nI_ge c (by omega)), if_pos c, if_pos (qin_nI (by omega) (by omega)), qi_nI (by omega), (h.2.2 j c).2]
  · rw [if_pos (nI_le (by omega) (by omega)), if_neg c]
theorem isLet_m {f : Nat} {ρ : qMem} {b : Nat} (hb : b < 256) : p_M_isLetter f ρ (nI b) = some (if 97 ≤ b ∧ b ≤ 122 then 1 else 0) := by
  unfold p_M_isLetter
  by_cases c1 : b < 97
  · rw [if_pos (show nI b < 97 from nI_lt (b := 97) c1 (by omega)), if_neg (by omega)]
  · rw [if_neg (show ¬ nI b < 97 from nI_nlt (b := 97) (by omega) (by omega))]
    by_cases c2 : 122 < b
    · rw [if_pos (show (122 : Int32) < nI b from nI_lt (a := 122) c2 (by omega)), if_neg (by omega)]
    · rw [if_neg (show ¬ (122 : Int32) < nI b from nI_nlt (a := 122) (by omega) (by omega)), if_pos (by omega)]
theorem isFig_m {f : Nat} {ρ : qMem} {b : Nat} (hb : b < 256) : p_M_isFigure f ρ (nI b) = some (if 48 ≤ b ∧ b ≤ 57 then 1 else 0) := by
  unfold p_M_isFigure
  by_cases c1 : b < 48
  · rw [if_pos (show nI b < 48 from nI_lt (b := 48) c1 (by omega)), if_neg (by omega)]
  · rw [if_neg (show ¬ nI b < 48 from nI_nlt (b := 48) (by omega) (by omega))]
    by_cases c2 : 57 < b
    · rw [if_pos (show (57 : Int32) < nI b from nI_lt (a := 57) c2 (by omega)), if_neg (by omega)]
    · rw [if_neg (show ¬ (57 : Int32) < nI b from nI_nlt (a := 57) (by omega) (by omega)), if_pos (by omega)]
theorem isLet_n {f : Nat} {ρ : qMem} : p_M_isLetter f ρ (-1000000) = some 0 := by
  unfold p_M_isLetter
  rw [if_pos (by decide)]
theorem isFig_n {f : Nat} {ρ : qMem} : p_M_isFigure f ρ (-1000000) = some 0 := by
  unfold p_M_isFigure
  rw [if_pos (by decide)]
theorem ltQ_i {B : Nat → Nat} {j : Nat} : (97 ≤ B j ∧ B j ≤ 122) ↔ ltQ B j = true := by
  unfold ltQ
  simp only [Bool.and_eq_true, decide_eq_true_eq]
theorem fgQ_i {B : Nat → Nat} {j : Nat} : (48 ≤ B j ∧ B j ≤ 57) ↔ fgQ B j = true := by
  unfold fgQ
  simp only [Bool.and_eq_true, decide_eq_true_eq]
theorem st_end {f : Nat} {τ : qMem} {n c : Nat} {B : Nat → Nat} (h : tmH τ n B) (hc : c ≤ n) (hf : 1000 < f) {k : qMem → Option qMem} : p_M_step_l0 f k (qmu τ 104 11 (nI (tfr B n c))) = some (tm4 τ (kM (tkd B n c)) (nI (tfr B n c)) (nI (ttl B n c))) := by
  have hn := h.1
  obtain ⟨f1, f2, f3, f4⟩ := tfr_b (B := B) hc
  have htl := ttl_b (B := B) hc
  have q11 : (qmu τ 104 11 (nI (tfr B n c))) 104 11 = nI (tfr B n c) := mu_s
  have q11b : (qmu (qmu τ 104 11 (nI (tfr B n c))) 104 13 (nI (tfr B n c))) 104 11 = nI (tfr B n c) := by rw [mu_j (by decide), mu_s]
  have k10 : ∀ (ρ : qMem) (b : Nat) (v : Int32), b ≠ 10 → (qmu ρ 104 b v) 104 10 = ρ 104 10 := fun ρ b v hb => mu_j (fun e => hb e.symm)
  have k109 : ∀ (ρ : qMem) (b : Nat) (v : Int32), (qmu ρ 104 b v) 109 = ρ 109 := fun ρ b v => funext fun j => mu_k (by decide)
  have by1 := byteAt_m (f := f) (ρ := qmu τ 104 11 (nI (tfr B n c))) (j := tfr B n c) h (k10 _ _ _ (by decide)) (k109 _ _ _) f2
  have by2 := byteAt_m (f := f) (ρ := qmu (qmu τ 104 11 (nI (tfr B n c))) 104 13 (nI (tfr B n c))) (j := tfr B n c) h (by rw [k10 _ _ _ (by decide), k10 _ _ _ (by decide)]) (by rw [k109, k109]) f2
  have swp : ∀ (ρ : qMem) (v w : Int32), qmu (qmu ρ 104 11 v) 104 13 w = qmu (qmu ρ 104 13 w) 104 11 v := fun ρ v w => by
    funext a b
    unfold qmu
    by_cases c1 : a = 104 ∧ b = 13
    · rw [if_pos c1, if_neg (by omega), if_pos c1]
    · rw [if_neg c1, if_neg c1]
  unfold p_M_step_l0
  rw [q11, by1, Option.bind_some, Option.bind_some, q11b, by2, Option.bind_some]
  by_cases c0 : tfr B n c < n
  · obtain ⟨b1, b2⟩ := h.2.2 _ c0
    have h4 := f4 c0
    unfold spQ at h4
    simp only [Bool.or_eq_true, decide_eq_true_eq] at h4
    have n32 : ¬ nI (B (tfr B n c)) = 32 := fun w => h4 (Or.inl ((nI_eq (a := B (tfr B n c)) (b := 32) (by omega) (by omega)).mp w))
    have n10 : ¬ nI (B (tfr B n c)) = 10 := fun w => h4 (Or.inr ((nI_eq (a := B (tfr B n c)) (b := 10) (by omega) (by omega)).mp w))
    rw [if_pos c0, if_neg n32, if_neg n10, if_neg (nI_nn (by omega)), isLet_m b1, Option.bind_some, isFig_m b1, Option.bind_some]
    by_cases c1 : ltQ B (tfr B n c) = true
    · rw [if_pos (ltQ_i.mpr c1), if_neg (by decide)]
      have ek : tkd B n c = 1 := by unfold tkd; rw [if_pos c0, if_pos c1]
      have et : ttl B n c = skp (ltQ B) (n - tfr B n c) (tfr B n c) := by unfold ttl; rw [if_pos c0, if_pos c1]
      obtain ⟨s1, s2, s3, s4⟩ := skp_sp (P := ltQ B) (n - tfr B n c) (tfr B n c)
      rw [← et] at s1 s2 s3 s4
      rw [swp]
      have byt : ∀ t, t ≤ n → p_M_byteAt f (qmu (qmu τ 104 13 (nI (tfr B n c))) 104 11 (nI t)) (nI t) = some (if t < n then nI (B t) else -1000000) := fun t ht => byteAt_m h (by rw [k10 _ _ _ (by decide), k10 _ _ _ (by decide)]) (by rw [k109, k109]) ht
      refine run1 (n := ttl B n c - tfr B n c) (f := f) (fun t => qmu (qmu τ 104 13 (nI (tfr B n c))) 104 11 (nI (tfr B n c + t))) (by omega) (fun k => ?_) (fun k t ht => ?_)
      · unfold p_M_step_l77
        rw [show tfr B n c + (ttl B n c - tfr B n c) = ttl B n c by omega, mu_s, byt _ htl.2.1, Option.bind_some, ek]
        have hno : p_M_isLetter f (qmu (qmu τ 104 13 (nI (tfr B n c))) 104 11 (nI (ttl B n c))) (if ttl B n c < n then nI (B (ttl B n c)) else -1000000) = some 0 := by
          by_cases c2 : ttl B n c < n
          · rw [if_pos c2, isLet_m (h.2.2 _ c2).1, if_neg (fun w => s4 (by omega) (ltQ_i.mp w))]
          · rw [if_neg c2, isLet_n]
        rw [hno, Option.bind_some, if_pos rfl, mu_j (by decide), mu_s, tm4_eq]
        rfl
      · unfold p_M_step_l77
        have hj : tfr B n c + t < n := by omega
        rw [mu_s, byt _ (by omega), Option.bind_some, if_pos hj, isLet_m (h.2.2 _ hj).1, Option.bind_some, if_pos (ltQ_i.mpr (s3 _ (by omega) (by omega))), if_neg (by decide), mu_mu, nI_1, Nat.add_assoc]
    · rw [if_neg (fun w => c1 (ltQ_i.mp w)), if_pos rfl]
      by_cases c2 : fgQ B (tfr B n c) = true
      · rw [if_pos (fgQ_i.mpr c2), if_neg (by decide)]
        have ek : tkd B n c = if ttl B n c - tfr B n c ≤ 5 then 2 else 4 := by unfold tkd; rw [if_pos c0, if_neg c1, if_pos c2]
        have et : ttl B n c = skp (fgQ B) (n - tfr B n c) (tfr B n c) := by unfold ttl; rw [if_pos c0, if_neg c1, if_pos c2]
        obtain ⟨s1, s2, s3, s4⟩ := skp_sp (P := fgQ B) (n - tfr B n c) (tfr B n c)
        rw [← et] at s1 s2 s3 s4
        rw [swp]
        have byt : ∀ t, t ≤ n → p_M_byteAt f (qmu (qmu τ 104 13 (nI (tfr B n c))) 104 11 (nI t)) (nI t) = some (if t < n then nI (B t) else -1000000) := fun t ht => byteAt_m h (by rw [k10 _ _ _ (by decide), k10 _ _ _ (by decide)]) (by rw [k109, k109]) ht
        refine run1 (n := ttl B n c - tfr B n c) (f := f) (fun t => qmu (qmu τ 104 13 (nI (tfr B n c))) 104 11 (nI (tfr B n c + t))) (by omega) (fun k => ?_) (fun k t ht => ?_)
        · unfold p_M_step_l119
          rw [show tfr B n c + (ttl B n c - tfr B n c) = ttl B n c by omega, mu_s, byt _ htl.2.1, Option.bind_some, ek]
          have hno : p_M_isFigure f (qmu (qmu τ 104 13 (nI (tfr B n c))) 104 11 (nI (ttl B n c))) (if ttl B n c < n then nI (B (ttl B n c)) else -1000000) = some 0 := by
            by_cases c3 : ttl B n c < n
            · rw [if_pos c3, isFig_m (h.2.2 _ c3).1, if_neg (fun w => s4 (by omega) (fgQ_i.mp w))]
            · rw [if_neg c3, isFig_n]
          rw [hno, Option.bind_some, if_pos rfl, mu_j (by decide), mu_s, mu_j (by decide), mu_s, mu_j (by decide), mu_s, tm4_eq, tm4_eq, pk_sub (by omega)]
          by_cases c3 : ttl B n c - tfr B n c ≤ 5
          · rw [if_pos (show nI (ttl B n c - tfr B n c) ≤ 5 from nI_le (b := 5) c3 (by omega)), if_pos c3]; rfl
          · rw [if_neg (show ¬ nI (ttl B n c - tfr B n c) ≤ 5 from nI_ge (a := 5) (by omega) (by omega)), if_neg c3]; rfl
        · unfold p_M_step_l119
          have hj : tfr B n c + t < n := by omega
          rw [mu_s, byt _ (by omega), Option.bind_some, if_pos hj, isFig_m (h.2.2 _ hj).1, Option.bind_some, if_pos (fgQ_i.mpr (s3 _ (by omega) (by omega))), if_neg (by decide), mu_mu, nI_1, Nat.add_assoc]
      · have et : ttl B n c = tfr B n c + 1 := by unfold ttl; rw [if_pos c0, if_neg c1, if_neg c2]
        have ek : tkd B n c = if B (tfr B n c) = 59 then 3 else 4 := by unfold tkd; rw [if_pos c0, if_neg c1, if_neg c2]
        have hs : nI (B (tfr B n c)) = 59 ↔ B (tfr B n c) = 59 := nI_eq (a := B (tfr B n c)) (b := 59) (by omega) (by omega)
        rw [if_neg (fun w => c2 (fgQ_i.mp w)), if_pos rfl, swp, mu_mu, nI_1, mu_j (by decide), mu_s, mu_j (by decide), mu_s, tm4_eq, tm4_eq, et, ek]
        by_cases c3 : B (tfr B n c) = 59
        · rw [if_pos (hs.mpr c3), if_pos c3]; rfl
        · rw [if_neg (fun w => c3 (hs.mp w)), if_neg c3]; rfl
  · have ek : tkd B n c = 0 := tkd_0.mpr c0
    have et : ttl B n c = tfr B n c := by unfold ttl; rw [if_neg c0]
    rw [if_neg c0, if_neg (by decide), if_neg (by decide), if_pos rfl, mu_j (by decide), swp, mu_s, tm4_eq, ek, et]
    rfl
theorem tok_m {f : Nat} {τ : qMem} {n c : Nat} {B : Nat → Nat} (h : tmH τ n B) (h11 : τ 104 11 = nI c) (hc : c ≤ n) (hf : 1000 < f) : p_M_step f τ = some (tm4 τ (kM (tkd B n c)) (nI (tfr B n c)) (nI (ttl B n c))) := by
  have hn := h.1
  obtain ⟨f1, f2, f3, f4⟩ := tfr_b (B := B) hc
  unfold p_M_step
  have h0 : τ = qmu τ 104 11 (nI (c + 0)) := (mu_id h11).symm
  conv => lhs; rw [h0]
  refine run1 (n := tfr B n c - c) (f := f) (fun t => qmu τ 104 11 (nI (c + t))) (by omega) (fun k => ?_) (fun k t ht => ?_)
  · rw [show c + (tfr B n c - c) = tfr B n c by omega]
    exact st_end h hc hf
  · have hj : c + t < n := by omega
    have h3 := f3 (c + t) (by omega) (by omega)
    obtain ⟨b1, b2⟩ := h.2.2 _ hj
    unfold spQ at h3
    simp only [Bool.or_eq_true, decide_eq_true_eq] at h3
    unfold p_M_step_l0
    rw [mu_s, byteAt_m h (mu_j (by decide)) (funext fun j => mu_k (by decide)) (by omega), Option.bind_some, Option.bind_some, if_pos hj, mu_mu, nI_1, Nat.add_assoc]
    rcases h3 with q | q
    · rw [q, if_pos (show nI 32 = 32 from rfl)]
    · rw [q, if_neg (by decide), if_pos (show nI 10 = 10 from rfl)]
