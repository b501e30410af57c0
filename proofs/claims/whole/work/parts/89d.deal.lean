/-! the largest sets -/
def mxP (al pr : Nat → Nat) (sk : Nat → Bool) (v : Nat → Nat) (s M : Nat) : Prop := (∀ m, m < 2 ^ s → dgO al pr sk v s (fun i => m.testBit i) → pcN s m ≤ M) ∧ ∃ m, m < 2 ^ s ∧ dgO al pr sk v s (fun i => m.testBit i) ∧ pcN s m = M
def LgP (al pr : Nat → Nat) (sk : Nat → Bool) (v : Nat → Nat) (s M m : Nat) : Prop := dgO al pr sk v s (fun i => m.testBit i) ∧ pcN s m = M
noncomputable def bP (P : Prop) : Int32 := @ite Int32 P (Classical.propDecidable _) 1 0
theorem bP_p {P : Prop} (h : P) : bP P = 1 := if_pos h
theorem bP_n {P : Prop} (h : ¬ P) : bP P = 0 := if_neg h
theorem bP_z {P : Prop} : vp_nar .boolean (bP P) = bP P := by
  by_cases h : P
  · rw [bP_p h, zn_1]
  · rw [bP_n h, zn_0]
theorem bP_0 {P : Prop} : bP P = 0 ↔ ¬ P := by
  by_cases h : P
  · rw [bP_p h]; exact ⟨fun w => absurd w (by decide), fun w => absurd h w⟩
  · rw [bP_n h]; exact ⟨fun _ => h, fun _ => rfl⟩
theorem pw_s {s : Nat} (hs : s ≤ 8) : (1 : Int32) <<< (nI s &&& 31) = nI (2 ^ s) ∧ 2 ^ s ≤ 256 := by
  refine ⟨(i_pw s (by omega)).1, ?_⟩
  have : 2 ^ s ≤ 2 ^ 8 := Nat.pow_le_pow_right (by decide) hs
  exact this
theorem pc0 {s : Nat} : pcN s 0 = 0 := sm_0 (fun i _ => by simp [bI])
theorem dg0 {al pr : Nat → Nat} {sk : Nat → Bool} {v : Nat → Nat} {s : Nat} : dgO al pr sk v s (fun i => (0 : Nat).testBit i) := by
  refine ⟨fun i _ he => absurd he (by simp), fun a => ?_, fun p => ?_⟩
  · rw [sm_0 (fun i _ => by simp [bI])]; exact Nat.zero_le _
  · rw [sm_0 (fun i _ => by simp [bI])]; exact Nat.zero_le _
theorem find_c {f : Nat} {σ : qMem} {s : Nat} {w al pr : Nat → Nat} {sk : Nat → Bool} {v : Nat → Nat} (h : dwC σ s w al pr sk v) (hf : 1000 < f) : ∃ M σ', p_Dawn_findLargest f σ = some σ' ∧ mxP al pr sk v s M ∧ M ≤ s ∧ σ' 96 8 = nI M ∧ (∀ a b, (a < 96 ∨ (a = 96 ∧ b ≠ 8) ∨ (97 ≤ a ∧ a ≤ 99) ∨ 102 < a) → σ' a b = σ a b) ∧ ∀ m, m < 2 ^ s → σ' 100 m = bP (LgP al pr sk v s M m) := by
  have hs : s ≤ 8 := h.1
  obtain ⟨pw1, pw2⟩ := pw_s hs
  -- the second pass
  have second : ∀ (M : Nat) (τ : qMem), M ≤ s → τ 96 6 = nI s → τ 96 8 = nI M → (∀ m, m < 2 ^ s → τ 100 m = bP (dgO al pr sk v s (fun i => m.testBit i))) → ∃ σ', qfix2 (p_Dawn_findLargest_l60 f) f τ 0 = some σ' ∧ (∀ a b, a ≠ 100 → σ' a b = τ a b) ∧ ∀ m, m < 2 ^ s → σ' 100 m = bP (LgP al pr sk v s M m) := by
    intro M τ hM t6 t8 t100
    have key := wf2 (F := p_Dawn_findLargest_l60 f) (fun ρ x => ∃ t : Nat, t ≤ 2 ^ s ∧ x = nI t ∧ (∀ a b, a ≠ 100 → ρ a b = τ a b) ∧ (∀ m, m < t → ρ 100 m = bP (LgP al pr sk v s M m)) ∧ ∀ m, t ≤ m → m < 2 ^ s → ρ 100 m = bP (dgO al pr sk v s (fun i => m.testBit i))) (fun _ x => 500 - qi x) (fun _ _ r => (∀ a b, a ≠ 100 → r a b = τ a b) ∧ ∀ m, m < 2 ^ s → r 100 m = bP (LgP al pr sk v s M m)) ?_ f τ 0 ⟨0, Nat.zero_le _, rfl, fun _ _ _ => rfl, fun m hm => absurd hm (Nat.not_lt_zero _), fun m _ hm => t100 m hm⟩ (by show 500 - _ < f; omega)
    · obtain ⟨r, e, q1, q2⟩ := key
      exact ⟨r, e, q1, q2⟩
    · rintro k ρ x ⟨t, ht, rfl, ag, u1, u2⟩ ih
      unfold p_Dawn_findLargest_l60
      rw [ag 96 6 (by decide), t6, pw1]
      by_cases c : t = 2 ^ s
      · rw [if_pos (nI_le (by omega) (by omega))]
        exact ⟨_, rfl, ag, fun m hm => u1 m (by omega)⟩
      · have hts : t < 2 ^ s := by omega
        have hq := qin_nI (k := t) (n := 256) (by omega) (by omega)
        rw [if_neg (nI_ge hts (by omega)), if_pos hq, if_pos hq, if_pos hq, qi_nI (by omega), u2 t (Nat.le_refl _) hts, pc_c (by omega), Option.bind_some, ag 96 8 (by decide), t8, zn_0, zn_1, nI_1, pcN_s (by omega) hts]
        have step : ∀ z : Int32, z = bP (LgP al pr sk v s M t) → ∃ r, k (qmu ρ 100 t z) (nI (t + 1)) = some r ∧ (∀ a b, a ≠ 100 → r a b = τ a b) ∧ ∀ m, m < 2 ^ s → r 100 m = bP (LgP al pr sk v s M m) := by
          intro z hz
          refine ih _ _ ⟨t + 1, by omega, rfl, fun a b hab => by rw [mu_k hab]; exact ag a b hab, fun m hm => ?_, fun m h1 h2 => by rw [mu_j (by omega)]; exact u2 m (by omega) h2⟩ (by rw [qi_nI (by omega), qi_nI (by omega)]; omega)
          by_cases e : m = t
          · rw [e, mu_s]; exact hz
          · rw [mu_j e]; exact u1 m (by omega)
        have hpl := pcN_le (s := s) (m := t)
        by_cases c1 : dgO al pr sk v s (fun i => t.testBit i)
        · rw [if_neg (fun w0 => (bP_0.mp w0) c1)]
          by_cases c2 : pcN s t = M
          · rw [if_pos (by rw [c2])]
            exact step 1 (bP_p ⟨c1, c2⟩).symm
          · rw [if_neg (fun w0 => c2 ((nI_eq (by omega) (by omega)).mp w0))]
            exact step 0 (bP_n (fun w0 => c2 w0.2)).symm
        · rw [if_pos (bP_0.mpr c1)]
          exact step 0 (bP_n (fun w0 => c1 w0.1)).symm
  unfold p_Dawn_findLargest
  have key := wf2 (F := p_Dawn_findLargest_l7 f) (fun ρ x => ∃ t M : Nat, t ≤ 2 ^ s ∧ x = nI t ∧ M ≤ s ∧ ρ 96 8 = nI M ∧ (∀ a b, (a < 96 ∨ (a = 96 ∧ b ≠ 8) ∨ (97 ≤ a ∧ a ≤ 99) ∨ 102 < a) → ρ a b = σ a b) ∧ (∀ m, m < t → ρ 100 m = bP (dgO al pr sk v s (fun i => m.testBit i))) ∧ (∀ m, m < t → dgO al pr sk v s (fun i => m.testBit i) → pcN s m ≤ M) ∧ (M = 0 ∨ ∃ m, m < t ∧ dgO al pr sk v s (fun i => m.testBit i) ∧ pcN s m = M)) (fun _ x => 500 - qi x) (fun _ _ σ' => ∃ M, mxP al pr sk v s M ∧ M ≤ s ∧ σ' 96 8 = nI M ∧ (∀ a b, (a < 96 ∨ (a = 96 ∧ b ≠ 8) ∨ (97 ≤ a ∧ a ≤ 99) ∨ 102 < a) → σ' a b = σ a b) ∧ ∀ m, m < 2 ^ s → σ' 100 m = bP (LgP al pr sk v s M m)) ?_ f (qmu σ 96 8 0) 0 ⟨0, 0, Nat.zero_le _, rfl, Nat.zero_le _, by rw [mu_s]; rfl, fun a b hab => ?_, fun m hm => absurd hm (Nat.not_lt_zero _), fun m hm => absurd hm (Nat.not_lt_zero _), Or.inl rfl⟩ (by show 500 - _ < f; omega)
  · obtain ⟨r, e, M, q⟩ := key
    exact ⟨M, r, e, q⟩
  · rintro k ρ x ⟨t, M, ht, rfl, hM, t8, ag, u1, u2, u3⟩ ih
    have hρ : dwC ρ s w al pr sk v := h.cg (fun a b hab => ag a b (by omega))
    unfold p_Dawn_findLargest_l7
    rw [hρ.2.1, pw1]
    by_cases c : t = 2 ^ s
    · rw [if_pos (nI_le (by omega) (by omega))]
      obtain ⟨σ', e, q1, q2⟩ := second M ρ hM hρ.2.1 t8 (fun m hm => u1 m (by omega))
      refine ⟨σ', e, M, ⟨fun m hm => u2 m (by omega), ?_⟩, hM, by rw [q1 96 8 (by decide)]; exact t8, fun a b hab => by rw [q1 a b (by omega)]; exact ag a b hab, q2⟩
      rcases u3 with q | ⟨m, hm, q⟩
      · exact ⟨0, Nat.pow_pos (by decide), dg0, by rw [pc0, q]⟩
      · exact ⟨m, by omega, q⟩
    · have hts : t < 2 ^ s := by omega
      have hq := qin_nI (k := t) (n := 256) (by omega) (by omega)
      obtain ⟨r, σ', e, ag', r1, r0⟩ := can_c (f := f) (m := t) hρ (by omega) (by omega)
      have hr : r = bP (dgO al pr sk v s (fun i => t.testBit i)) := by
        by_cases q : dgO al pr sk v s (fun i => t.testBit i)
        · rw [r1 q, bP_p q]
        · rw [r0 q, bP_n q]
      have hpl := pcN_le (s := s) (m := t)
      rw [if_neg (nI_ge hts (by omega)), e, Option.bind_some, if_pos hq, if_pos hq, qi_nI (by omega), mu_s, nI_1, hr, bP_z]
      have hmu : 500 - qi (nI (t + 1)) < 500 - qi (nI t) := by rw [qi_nI (by omega), qi_nI (by omega)]; omega
      have ag2 : ∀ a b, (a < 96 ∨ (a = 96 ∧ b ≠ 8) ∨ (97 ≤ a ∧ a ≤ 99) ∨ 102 < a) → (qmu σ' 100 t (bP (dgO al pr sk v s (fun i => t.testBit i)))) a b = σ a b := fun a b hab => by
        rw [mu_k (by omega), ag' a b (by omega) (by omega)]; exact ag a b hab
      have k100 : ∀ m, m < t + 1 → (qmu σ' 100 t (bP (dgO al pr sk v s (fun i => t.testBit i)))) 100 m = bP (dgO al pr sk v s (fun i => m.testBit i)) := fun m hm => by
        by_cases q : m = t
        · rw [q, mu_s]
        · rw [mu_j q, ag' 100 m (by decide) (by decide)]; exact u1 m (by omega)
      have k8 : (qmu σ' 100 t (bP (dgO al pr sk v s (fun i => t.testBit i)))) 96 8 = nI M := by rw [mu_k (by decide), ag' 96 8 (by decide) (by decide)]; exact t8
      by_cases c1 : dgO al pr sk v s (fun i => t.testBit i)
      · rw [if_neg (fun w0 => (bP_0.mp w0) c1), pc_c (by omega), Option.bind_some, k8, pcN_s (by omega) hts]
        have hmx : (if nI M < nI (pcN s t) then nI (pcN s t) else nI M) = nI (max M (pcN s t)) := by
          by_cases q : M < pcN s t
          · rw [if_pos (nI_lt q (by omega)), Nat.max_eq_right (by omega)]
          · rw [if_neg (nI_nlt (by omega) (by omega)), Nat.max_eq_left (by omega)]
        rw [hmx]
        refine ih _ _ ⟨t + 1, max M (pcN s t), by omega, rfl, by omega, mu_s, fun a b hab => ?_, fun m hm => by rw [mu_k (by decide)]; exact k100 m hm, fun m hm hd => ?_, ?_⟩ hmu
        · have : ∀ z : Int32, (qmu (qmu σ' 100 t (bP (dgO al pr sk v s (fun i => t.testBit i)))) 96 8 z) a b = (qmu σ' 100 t (bP (dgO al pr sk v s (fun i => t.testBit i)))) a b := fun z => if_neg (by omega)
          rw [this]; exact ag2 a b hab
        · by_cases q : m = t
          · rw [q]; omega
          · have := u2 m (by omega) hd; omega
        · by_cases q : M < pcN s t
          · exact Or.inr ⟨t, by omega, c1, by omega⟩
          · rw [Nat.max_eq_left (by omega)]
            rcases u3 with z | ⟨m, hm, z⟩
            · exact Or.inl z
            · exact Or.inr ⟨m, by omega, z⟩
      · rw [if_pos (bP_0.mpr c1)]
        refine ih _ _ ⟨t + 1, M, by omega, rfl, hM, k8, ag2, k100, fun m hm hd => ?_, ?_⟩ hmu
        · by_cases q : m = t
          · rw [q] at hd; exact absurd hd c1
          · exact u2 m (by omega) hd
        · rcases u3 with z | ⟨m, hm, z⟩
          · exact Or.inl z
          · exact Or.inr ⟨m, by omega, z⟩
  · exact if_neg (by omega)
/-! the dealing -/
def ldP (s : Nat) (Lg : Nat → Prop) (ch d : Nat) : Prop := ∃ L, L < 2 ^ s ∧ Lg L ∧ L &&& (2 ^ d - 1) = ch
theorem leads_c {f : Nat} {σ : qMem} {s ch d : Nat} {Lg : Nat → Prop} (hs : s ≤ 8) (h6 : σ 96 6 = nI s) (h100 : ∀ m, m < 2 ^ s → σ 100 m = bP (Lg m)) (hc : ch < 256) (hd : d ≤ 8) (hf : 1000 < f) : p_Dawn_leadsToLargest f σ (nI ch) (nI d) = some (bP (ldP s Lg ch d)) := by
  obtain ⟨pw1, pw2⟩ := pw_s hs
  have hd1 : (2 : Nat) ^ d ≤ 2 ^ 8 := Nat.pow_le_pow_right (by decide) hd
  have hd2 : 0 < 2 ^ d := Nat.pow_pos (by decide)
  unfold p_Dawn_leadsToLargest
  rw [(i_pw d (by omega)).2.1]
  have run := up1 (F := p_Dawn_leadsToLargest_l9 f σ (nI ch) (nI (2 ^ d - 1))) (n := 2 ^ s) (f := f) (res := fun i => bP (∃ L, i ≤ L ∧ L < 2 ^ s ∧ Lg L ∧ L &&& (2 ^ d - 1) = ch)) (by omega) (fun k => ?_) (fun k i hi hk => ?_)
  · rw [run]
    congr 1
    by_cases q : ldP s Lg ch d
    · obtain ⟨L, l1, l2⟩ := q
      rw [bP_p ⟨L, Nat.zero_le _, l1, l2⟩, bP_p ⟨L, l1, l2⟩]
    · rw [bP_n (fun ⟨L, _, l1, l2⟩ => q ⟨L, l1, l2⟩), bP_n q]
  · unfold p_Dawn_leadsToLargest_l9
    rw [h6, pw1, if_pos (nI_le (Nat.le_refl _) (by omega))]
    show _ = some (bP _)
    rw [bP_n (fun ⟨L, l0, l1, _⟩ => absurd l1 (by omega))]
  · have hle : i &&& (2 ^ d - 1) ≤ i := Nat.and_le_left
    unfold p_Dawn_leadsToLargest_l9
    rw [h6, pw1, if_neg (nI_ge hi (by omega)), if_pos (qin_nI (by omega) (by omega)), qi_nI (by omega), h100 i hi, nI_1, hk, i_and]
    show _ = some (bP _)
    by_cases c1 : Lg i
    · rw [if_neg (fun w0 => (bP_0.mp w0) c1)]
      by_cases c2 : i &&& (2 ^ d - 1) = ch
      · rw [if_pos (by rw [c2]), bP_p ⟨i, Nat.le_refl _, hi, c1, c2⟩]
      · rw [if_neg (fun w0 => c2 ((nI_eq (by omega) (by omega)).mp w0))]
        congr 1
        by_cases q : ∃ L, i + 1 ≤ L ∧ L < 2 ^ s ∧ Lg L ∧ L &&& (2 ^ d - 1) = ch
        · obtain ⟨L, l0, l1⟩ := q
          rw [bP_p ⟨L, l0, l1⟩, bP_p ⟨L, by omega, l1⟩]
        · rw [bP_n q, bP_n (fun ⟨L, l0, l1, l2, l3⟩ => q ⟨L, by
            by_cases e : L = i
            · rw [e] at l3; exact absurd l3 c2
            · omega, l1, l2, l3⟩)]
    · rw [if_pos (bP_0.mpr c1)]
      congr 1
      by_cases q : ∃ L, i + 1 ≤ L ∧ L < 2 ^ s ∧ Lg L ∧ L &&& (2 ^ d - 1) = ch
      · obtain ⟨L, l0, l1⟩ := q
        rw [bP_p ⟨L, l0, l1⟩, bP_p ⟨L, by omega, l1⟩]
      · rw [bP_n q, bP_n (fun ⟨L, l0, l1, l2, l3⟩ => q ⟨L, by
          by_cases e : L = i
          · rw [e] at l2; exact absurd l2 c1
          · omega, l1, l2, l3⟩)]
def enc (x : Nat) : Int32 := if x = 5 then -1000000 else nI x
theorem enc_e {x t : Nat} (hx : x ≤ 5) (ht : t < 5) : enc x = nI t ↔ x = t := by
  unfold enc
  by_cases c : x = 5
  · rw [if_pos c]
    exact ⟨fun w => absurd w.symm (nI_nn (by omega)), fun w => by omega⟩
  · rw [if_neg c]
    exact nI_eq (by omega) (by omega)
theorem alike_c {f : Nat} {σ : qMem} {s : Nat} {w al pr : Nat → Nat} {sk : Nat → Bool} {v : Nat → Nat} (h : dwC σ s w al pr sk v) {i j : Nat} (hi : i < s) (hj : j < s) : p_Dawn_alike f σ (nI i) (nI j) 2 = some (if al i = al j then 1 else 0) ∧ p_Dawn_alike f σ (nI i) (nI j) 3 = some (if pr i = pr j then 1 else 0) := by
  have hs : s ≤ 8 := h.1
  obtain ⟨o2, o3⟩ := dw_of (f := f) h hi
  obtain ⟨p2, p3⟩ := dw_of (f := f) h hj
  obtain ⟨a1, a2, a3, a4, a5, a6, a7⟩ := h.2.2.1 i hi
  obtain ⟨b1, b2, b3, b4, b5, b6, b7⟩ := h.2.2.1 j hj
  have qi1 := qin_nI (k := i) (n := 8) (by omega) (by omega)
  have qj1 := qin_nI (k := j) (n := 8) (by omega) (by omega)
  unfold p_Dawn_alike
  constructor
  · rw [if_pos qi1, qi_nI (by omega), o2, Option.bind_some, if_pos qj1, qi_nI (by omega), p2, Option.bind_some]
    by_cases c : al i = al j
    · rw [if_pos c, if_pos (by rw [c])]
    · rw [if_neg c, if_neg (fun z => c ((nI_eq (by omega) (by omega)).mp z))]
  · rw [if_pos qi1, qi_nI (by omega), o3, Option.bind_some, if_pos qj1, qi_nI (by omega), p3, Option.bind_some]
    by_cases c : pr i = pr j
    · rw [if_pos c, if_pos (by rw [c])]
    · rw [if_neg c, if_neg (fun z => c ((nI_eq (by omega) (by omega)).mp z))]
def frP (al pr h : Nat → Nat) (at' t : Nat) : Prop := ∀ k, k < at' → h k = t → ¬ (al k = al at' ∨ pr k = pr at')
theorem isFree_c {f : Nat} {σ : qMem} {s at' t : Nat} {w al pr : Nat → Nat} {sk : Nat → Bool} {v : Nat → Nat} {h : Nat → Nat} (hd : dwC σ s w al pr sk v) (ha : at' < s) (ht : t < 5) (h98 : ∀ i, i < at' → h i ≤ 5 ∧ σ 98 i = enc (h i)) (hf : 100 < f) : p_Dawn_isFree f σ (nI at') (nI t) = some (bP (frP al pr h at' t)) := by
  have hs : s ≤ 8 := hd.1
  unfold p_Dawn_isFree
  have run := up1 (F := p_Dawn_isFree_l2 f σ (nI at') (nI t)) (n := at') (f := f) (res := fun i => bP (∀ k, i ≤ k → k < at' → h k = t → ¬ (al k = al at' ∨ pr k = pr at'))) (by omega) (fun k => ?_) (fun k i hi hk => ?_)
  · rw [run]
    congr 1
    by_cases q : frP al pr h at' t
    · rw [bP_p q, bP_p (fun k _ a b => q k a b)]
    · rw [bP_n q, bP_n (fun z => q (fun k a b => z k (Nat.zero_le _) a b))]
  · unfold p_Dawn_isFree_l2
    rw [if_pos (nI_le (Nat.le_refl _) (by omega))]
    show _ = some (bP _)
    rw [bP_p (fun k a b => absurd a (by omega))]
  · obtain ⟨e5, e98⟩ := h98 i hi
    obtain ⟨l2, l3⟩ := alike_c (f := f) hd (show i < s by omega) ha
    unfold p_Dawn_isFree_l2
    rw [if_neg (nI_ge hi (by omega)), if_pos (qin_nI (by omega) (by omega)), qi_nI (by omega), e98, l2, Option.bind_some, l3, Option.bind_some, nI_1, hk]
    show _ = some (bP _)
    have go : (¬ (h i = t ∧ (al i = al at' ∨ pr i = pr at'))) → some (bP (∀ k, i + 1 ≤ k → k < at' → h k = t → ¬ (al k = al at' ∨ pr k = pr at'))) = some (bP (∀ k, i ≤ k → k < at' → h k = t → ¬ (al k = al at' ∨ pr k = pr at'))) := by
      intro hno
      congr 1
      by_cases q : ∀ k, i + 1 ≤ k → k < at' → h k = t → ¬ (al k = al at' ∨ pr k = pr at')
      · rw [bP_p q, bP_p (fun k a b c => by
          by_cases e : k = i
          · rw [e] at c ⊢; exact fun z => hno ⟨c, z⟩
          · exact q k (by omega) b c)]
      · rw [bP_n q, bP_n (fun z => q (fun k a b c => z k (by omega) b c))]
    by_cases c1 : h i = t
    · rw [if_pos ((enc_e e5 ht).mpr c1)]
      by_cases c2 : al i = al at'
      · rw [if_pos c2, if_neg (by decide), bP_n (fun z => z i (Nat.le_refl _) hi c1 (Or.inl c2))]
      · rw [if_neg c2, if_pos rfl]
        by_cases c3 : pr i = pr at'
        · rw [if_pos c3, if_neg (by decide), bP_n (fun z => z i (Nat.le_refl _) hi c1 (Or.inr c3))]
        · rw [if_neg c3, if_pos rfl]
          exact go (fun z => z.2.elim c2 c3)
    · rw [if_neg (fun z => c1 ((enc_e e5 ht).mp z))]
      exact go (fun z => c1 z.1)
