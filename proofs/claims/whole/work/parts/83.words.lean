/-! words and numbers -/
def rl (B : Nat → Nat) (s : Nat) : Nat → List Nat
  | 0 => []
  | k + 1 => B (s + k) :: rl B s k
def rv : List Nat → Nat
  | [] => 0
  | b :: l => rv l * 256 + b
theorem rl_len {B : Nat → Nat} {s : Nat} : ∀ k, (rl B s k).length = k
  | 0 => rfl
  | k + 1 => by
    unfold rl
    rw [List.length_cons, rl_len k]
theorem rl_eq {B C : Nat → Nat} {s t : Nat} : ∀ {k : Nat}, rl B s k = rl C t k ↔ ∀ i, i < k → B (s + i) = C (t + i)
  | 0 => ⟨fun _ i hi => absurd hi (Nat.not_lt_zero _), fun _ => rfl⟩
  | k + 1 => by
    unfold rl
    rw [List.cons.injEq, rl_eq]
    constructor
    · rintro ⟨h1, h2⟩ i hi
      by_cases c : i = k
      · rw [c]; exact h1
      · exact h2 i (by omega)
    · intro h
      exact ⟨h k (by omega), fun i hi => h i (by omega)⟩
theorem rl_dig {B : Nat → Nat} {s : Nat} {P : Nat → Prop} : ∀ {k : Nat}, (∀ i, i < k → P (B (s + i))) → ∀ b, b ∈ rl B s k → P b
  | 0, _, b, hb => by cases hb
  | k + 1, h, b, hb => by
    unfold rl at hb
    rcases List.mem_cons.mp hb with rfl | hb
    · exact h k (by omega)
    · exact rl_dig (fun i hi => h i (by omega)) b hb
theorem rv_inj : ∀ {l l' : List Nat}, (∀ b, b ∈ l → 0 < b ∧ b < 256) → (∀ b, b ∈ l' → 0 < b ∧ b < 256) → rv l = rv l' → l = l'
  | [], [], _, _, _ => rfl
  | [], b :: l', _, h2, e => by
    have := h2 b (List.mem_cons_self ..)
    simp only [rv] at e
    omega
  | b :: l, [], h1, _, e => by
    have := h1 b (List.mem_cons_self ..)
    simp only [rv] at e
    omega
  | b :: l, b' :: l', h1, h2, e => by
    have g1 := h1 b (List.mem_cons_self ..)
    have g2 := h2 b' (List.mem_cons_self ..)
    simp only [rv] at e
    have e1 : b = b' := by omega
    have e2 : rv l = rv l' := by omega
    rw [e1, rv_inj (fun c hc => h1 c (List.mem_cons_of_mem _ hc)) (fun c hc => h2 c (List.mem_cons_of_mem _ hc)) e2]
theorem rv_lt : ∀ {l : List Nat}, (∀ b, b ∈ l → b < 256) → l.length ≤ 7 → rv l < 2 ^ 56 := by
  have key : ∀ (m : Nat) (l : List Nat), (∀ b, b ∈ l → b < 256) → l.length ≤ m → rv l < 256 ^ m := by
    intro m
    induction m with
    | zero =>
      intro l _ hl
      cases l with
      | nil => exact Nat.one_pos
      | cons b l => simp at hl
    | succ m ih =>
      intro l h hl
      cases l with
      | nil => exact Nat.pow_pos (by decide)
      | cons b l =>
        have h1 := ih l (fun c hc => h c (List.mem_cons_of_mem _ hc)) (by simp at hl; omega)
        have h2 := h b (List.mem_cons_self ..)
        simp only [rv]
        rw [Nat.pow_succ]
        omega
  intro l h hl
  exact key 7 l h hl
def chN (w i : Nat) : Nat := qi ((qSb.getD w []).getD i 0)
def lnW (w : Nat) : Nat := qSl.getD w 0
def wdR (w : Nat) : List Nat := rl (chN w) 0 (lnW w)
theorem chN_f : ∀ w, w < 12 → 4 ≤ lnW w ∧ lnW w ≤ 6 ∧ ∀ i, i < 6 → i < lnW w → (qSb.getD w []).getD i 0 = nI (chN w i) ∧ 97 ≤ chN w i ∧ chN w i ≤ 122 := by decide +kernel
/-- the word of the token, last letter first -/
def wR (B : Nat → Nat) (n c : Nat) : List Nat := if tkd B n c = 1 then rl B (tfr B n c) (ttl B n c - tfr B n c) else []
theorem tok_let {B : Nat → Nat} {n c j : Nat} (h : tkd B n c = 1) (h1 : tfr B n c ≤ j) (h2 : j < ttl B n c) : 97 ≤ B j ∧ B j ≤ 122 := by
  have c0 : tfr B n c < n := Classical.byContradiction fun w => by rw [tkd_0.mpr w] at h; exact absurd h (by decide)
  have c1 : ltQ B (tfr B n c) = true := Classical.byContradiction fun w => by
    unfold tkd at h
    rw [if_pos c0, if_neg w] at h
    by_cases c2 : fgQ B (tfr B n c) = true
    · rw [if_pos c2] at h
      by_cases c3 : ttl B n c - tfr B n c ≤ 5
      · rw [if_pos c3] at h; exact absurd h (by decide)
      · rw [if_neg c3] at h; exact absurd h (by decide)
    · rw [if_neg c2] at h
      by_cases c3 : B (tfr B n c) = 59
      · rw [if_pos c3] at h; exact absurd h (by decide)
      · rw [if_neg c3] at h; exact absurd h (by decide)
  have et : ttl B n c = skp (ltQ B) (n - tfr B n c) (tfr B n c) := by unfold ttl; rw [if_pos c0, if_pos c1]
  obtain ⟨-, -, s3, -⟩ := skp_sp (P := ltQ B) (n - tfr B n c) (tfr B n c)
  rw [← et] at s3
  exact ltQ_i.mpr (s3 j h1 h2)
theorem tok_fig {B : Nat → Nat} {n c j : Nat} (h : tkd B n c = 2) (h1 : tfr B n c ≤ j) (h2 : j < ttl B n c) : 48 ≤ B j ∧ B j ≤ 57 := by
  have c0 : tfr B n c < n := Classical.byContradiction fun w => by rw [tkd_0.mpr w] at h; exact absurd h (by decide)
  have c1 : ¬ ltQ B (tfr B n c) = true := fun w => by
    unfold tkd at h
    rw [if_pos c0, if_pos w] at h
    exact absurd h (by decide)
  have c2 : fgQ B (tfr B n c) = true := Classical.byContradiction fun w => by
    unfold tkd at h
    rw [if_pos c0, if_neg c1, if_neg w] at h
    by_cases c3 : B (tfr B n c) = 59
    · rw [if_pos c3] at h; exact absurd h (by decide)
    · rw [if_neg c3] at h; exact absurd h (by decide)
  have et : ttl B n c = skp (fgQ B) (n - tfr B n c) (tfr B n c) := by unfold ttl; rw [if_pos c0, if_neg c1, if_pos c2]
  obtain ⟨-, -, s3, -⟩ := skp_sp (P := fgQ B) (n - tfr B n c) (tfr B n c)
  rw [← et] at s3
  exact fgQ_i.mpr (s3 j h1 h2)
/-- the state that stands at the token read from c -/
def atC (σ : qMem) (B : Nat → Nat) (n c : Nat) : Prop := tcH σ n B ∧ c ≤ n ∧ σ 27 3 = nI (tkd B n c) ∧ σ 27 4 = nI (tfr B n c) ∧ σ 27 5 = nI (ttl B n c)
theorem spells_c {f : Nat} {σ : qMem} {B : Nat → Nat} {n c w : Nat} (h : atC σ B n c) (hw : w < 12) (hf : 1000 < f) : p_Deeds_spells f σ w = some (if wR B n c = wdR w then 1 else 0) := by
  obtain ⟨⟨hn, e1, hB⟩, hc, e3, e4, e5⟩ := h
  obtain ⟨l1, l2, hch⟩ := chN_f w hw
  have htl := ttl_b (B := B) hc
  have hk4 := tkd_4 (B := B) (n := n) (c := c)
  have hlen : p_St_length f σ w = some (nI (lnW w)) := by unfold p_St_length; rw [if_pos hw]; rfl
  unfold p_Deeds_spells wR
  rw [e3]
  by_cases c1 : tkd B n c = 1
  · rw [if_pos c1, c1, if_pos (show nI 1 = 1 from rfl), hlen, Option.bind_some, e4, e5, pk_sub htl.1]
    by_cases c2 : ttl B n c - tfr B n c = lnW w
    · rw [c2, if_pos rfl]
      have hiff : rl B (tfr B n c) (lnW w) = wdR w ↔ ∀ j, 0 ≤ j → j < lnW w → B (tfr B n c + j) = chN w j := by
        unfold wdR
        rw [rl_eq]
        exact ⟨fun a j _ hj => by have := a j hj; rw [Nat.zero_add] at this; exact this, fun a j hj => by rw [Nat.zero_add]; exact a j (Nat.zero_le _) hj⟩
      have run := up1 (F := p_Deeds_spells_l28 f σ w) (n := lnW w) (f := f) (res := fun i => @ite Int32 (∀ j, i ≤ j → j < lnW w → B (tfr B n c + j) = chN w j) (Classical.propDecidable _) 1 0) (by omega) (fun k => ?_) (fun k i hi hk => ?_)
      · rw [run]
        by_cases q : rl B (tfr B n c) (lnW w) = wdR w
        · rw [if_pos q, if_pos (hiff.mp q)]
        · rw [if_neg q, if_neg (fun z => q (hiff.mpr z))]
      · unfold p_Deeds_spells_l28
        rw [hlen, Option.bind_some, if_pos (nI_le (Nat.le_refl _) (by omega)), if_pos (fun j a b => absurd a (by omega))]
      · have hj : tfr B n c + i < ttl B n c := by omega
        obtain ⟨b1, b2⟩ := hB (tfr B n c + i) (by omega)
        have hlt := tok_let c1 (show tfr B n c ≤ tfr B n c + i by omega) hj
        have hsg := (sg_all _ b1).2.2.2.2.2 (by omega)
        obtain ⟨q1, q2, q3⟩ := hch i (by omega) hi
        have hca : p_St_charAt f σ w (nI i) = some (nI (chN w i)) := by
          unfold p_St_charAt
          rw [if_pos hw, if_pos (qin_nI (show i < qSl.getD w 0 from hi) (by have : qSl.getD w 0 ≤ 6 := l2; omega)), qi_nI (by omega), q1]
        unfold p_Deeds_spells_l28
        rw [hlen, Option.bind_some, if_neg (nI_ge hi (by omega)), e4, nI_add, if_pos (qin_nI (by omega) (by omega)), hca, Option.bind_some, qi_nI (by omega), b2, hsg, nI_1, hk]
        by_cases q : B (tfr B n c + i) = chN w i
        · rw [if_pos (by rw [q])]
          by_cases q4 : ∀ j, i + 1 ≤ j → j < lnW w → B (tfr B n c + j) = chN w j
          · rw [if_pos q4, if_pos (fun j a b => by
              by_cases e : j = i
              · rw [e]; exact q
              · exact q4 j (by omega) b)]
          · rw [if_neg q4, if_neg (fun z => q4 (fun j a b => z j (by omega) b))]
        · rw [if_neg (fun z => q ((nI_eq (by omega) (by omega)).mp z)), if_neg (fun z => q (z i (Nat.le_refl _) hi))]
    · rw [if_neg (fun z => c2 ((nI_eq (by omega) (by omega)).mp z)), if_neg (fun z => c2 (by
        have := congrArg List.length z
        unfold wdR at this
        rw [rl_len, rl_len] at this
        exact this))]
  · rw [if_neg (show ¬ nI (tkd B n c) = 1 from fun z => c1 ((nI_eq (a := tkd B n c) (b := 1) (by omega) (by omega)).mp z)), if_neg c1, if_neg (fun z => by
      have := congrArg List.length z
      unfold wdR at this
      rw [rl_len] at this
      have h0 : (0 : Nat) = lnW w := this
      omega)]
def tmF (l : List Nat) : Nat → Nat → Nat
  | 0, _ => 0
  | m + 1, t => if l = wdR (t + 1) then t else tmF l m (t + 1)
def tmW (B : Nat → Nat) (n c : Nat) : Nat := tmF (wR B n c) 10 1
theorem tmF_le {l : List Nat} : ∀ {m t : Nat}, tmF l m t = 0 ∨ (t ≤ tmF l m t ∧ tmF l m t < t + m)
  | 0, _ => Or.inl rfl
  | m + 1, t => by
    unfold tmF
    by_cases c : l = wdR (t + 1)
    · rw [if_pos c]; exact Or.inr ⟨Nat.le_refl _, by omega⟩
    · rw [if_neg c]
      rcases tmF_le (l := l) (m := m) (t := t + 1) with q | q
      · exact Or.inl q
      · exact Or.inr ⟨by omega, by omega⟩
theorem wordFor_c {f : Nat} {σ : qMem} : ∀ t, t < 11 → 1 ≤ t → p_Deeds_wordFor f σ (nI t) = some (t + 1) := by
  intro t h1 h2
  have : t = 1 ∨ t = 2 ∨ t = 3 ∨ t = 4 ∨ t = 5 ∨ t = 6 ∨ t = 7 ∨ t = 8 ∨ t = 9 ∨ t = 10 := by omega
  rcases this with rfl | rfl | rfl | rfl | rfl | rfl | rfl | rfl | rfl | rfl <;> rfl
def tmV (t : Nat) : Int32 := if t = 0 then -1000000 else nI t
theorem up1l {R : Type} {F : (Int32 → Option R) → Int32 → Option R} {n lo : Nat} {res : Nat → R} (he : ∀ k, F k (nI n) = some (res n)) (hs : ∀ k i, lo ≤ i → i < n → k (nI (i + 1)) = some (res (i + 1)) → F k (nI i) = some (res i)) : ∀ (m i e : Nat), lo ≤ i → i + m = n → qfix1 F (m + 1 + e) (nI i) = some (res i)
  | 0, i, e, _, h => by
    have hi : i = n := by omega
    subst hi
    rw [show 0 + 1 + e = e + 1 by omega, qfix1_s]
    exact he _
  | m + 1, i, e, h0, h => by
    rw [show m + 1 + 1 + e = (m + 1 + e) + 1 by omega, qfix1_s]
    exact hs _ i h0 (by omega) (up1l he hs m (i + 1) e (by omega) (by omega))
theorem tmV_n {t : Nat} (h : t ≤ 10) (h0 : t ≠ 0) : tmV t = nI t := if_neg h0
theorem term_c {f : Nat} {σ : qMem} {B : Nat → Nat} {n c : Nat} (h : atC σ B n c) (hf : 1000 < f) : p_Deeds_termSpelt f σ = some (tmV (tmW B n c)) := by
  unfold p_Deeds_termSpelt tmW
  obtain ⟨e, rfl⟩ : ∃ e, f = 10 + 1 + e := ⟨f - 11, by omega⟩
  refine up1l (F := p_Deeds_termSpelt_l2 (10 + 1 + e) σ) (n := 11) (lo := 1) (res := fun i => tmV (tmF (wR B n c) (11 - i) i)) (fun k => ?_) (fun k i h1 hi hk => ?_) 10 1 e (by omega) (by omega)
  · unfold p_Deeds_termSpelt_l2
    rw [if_pos (by decide)]
    rfl
  · unfold p_Deeds_termSpelt_l2
    rw [if_neg (show ¬ (11 : Int32) ≤ nI i from nI_ge (a := i) (b := 11) hi (by omega)), wordFor_c i hi h1, Option.bind_some, spells_c h (by omega) hf, Option.bind_some, nI_1, hk]
    have hs : tmF (wR B n c) (11 - i) i = if wR B n c = wdR (i + 1) then i else tmF (wR B n c) (11 - (i + 1)) (i + 1) := by
      rw [show 11 - i = (11 - (i + 1)) + 1 by omega]
      rfl
    show _ = some (tmV (tmF (wR B n c) (11 - i) i))
    rw [hs]
    by_cases q : wR B n c = wdR (i + 1)
    · rw [if_pos q, if_pos q, if_neg (by decide), tmV_n (by omega) (by omega)]
    · rw [if_neg q, if_neg q, if_pos rfl]
def nmF (B : Nat → Nat) (s : Nat) : Nat → Int32
  | 0 => 0
  | k + 1 => ((10 : Int32) * nmF B s k + nI (B (s + k))) - 48
def nmV (B : Nat → Nat) (n c : Nat) : Int32 := nmF B (tfr B n c) (ttl B n c - tfr B n c)
theorem num_c {f : Nat} {σ : qMem} {B : Nat → Nat} {n c : Nat} (h : atC σ B n c) (hk : tkd B n c = 2) (hf : 1000 < f) : p_Deeds_numberRead f σ = some (nmV B n c) := by
  obtain ⟨⟨hn, e1, hB⟩, hc, e3, e4, e5⟩ := h
  have htl := ttl_b (B := B) hc
  unfold p_Deeds_numberRead nmV
  rw [e4]
  refine run2x (n := ttl B n c - tfr B n c) (f := f) (fun t => nmF B (tfr B n c) t) (fun t => nI (tfr B n c + t)) (by omega) (fun k => ?_) (fun k t ht => ?_)
  · unfold p_Deeds_numberRead_l7
    rw [e5, show tfr B n c + (ttl B n c - tfr B n c) = ttl B n c by omega, if_pos (nI_le (Nat.le_refl _) (by omega))]
  · obtain ⟨b1, b2⟩ := hB (tfr B n c + t) (by omega)
    have hfg := tok_fig hk (show tfr B n c ≤ tfr B n c + t by omega) (by omega)
    have hsg := (sg_all _ b1).2.2.2.2.2 (by omega)
    unfold p_Deeds_numberRead_l7
    rw [e5, if_neg (nI_ge (by omega) (by omega)), if_pos (qin_nI (by omega) (by omega)), qi_nI (by omega), b2, hsg, nI_1]
    rfl
/-! the model's words and numbers -/
def atM (τ : qMem) (B : Nat → Nat) (n c : Nat) : Prop := tmH τ n B ∧ c ≤ n ∧ τ 104 12 = kM (tkd B n c) ∧ τ 104 13 = nI (tfr B n c) ∧ τ 104 14 = nI (ttl B n c) ∧ τ 104 11 = nI (ttl B n c)
theorem kM_f : ∀ k, k < 5 → (kM k = 2 ↔ k = 1) ∧ (kM k = 3 ↔ k = 2) ∧ (kM k = 4 ↔ k = 3) ∧ (kM k = 1 ↔ k = 0) := by decide
theorem lN_l (b : Nat) (hb : b < 256) : (nI b).toInt64 = lN b := nI_l (by omega)
theorem word_sh {v b : Nat} (hv : v < 2 ^ 48) (hb : b < 256) : (lN v <<< ((8 : Int32).toInt64 &&& 63)) ||| (nI b).toInt64 = lN (v * 256 + b) := by
  have h1 : lN v <<< ((8 : Int32).toInt64 &&& 63) = lN (v * 256) := by
    apply Int64.toBitVec_inj.1
    rw [Int64.toBitVec_shiftLeft]
    apply BitVec.eq_of_toNat_eq
    have hs : (((8 : Int32).toInt64 &&& 63).toBitVec.smod 64) = 8#64 := by decide
    rw [hs]
    have e1 : (lN v).toBitVec.toNat = v := Nat.mod_eq_of_lt (by omega)
    have e2 : (lN (v * 256)).toBitVec.toNat = v * 256 := Nat.mod_eq_of_lt (by omega)
    rw [e2, BitVec.shiftLeft_eq', BitVec.toNat_shiftLeft, e1, Nat.shiftLeft_eq]
    have : (8#64).toNat = 8 := rfl
    rw [this]
    exact Nat.mod_eq_of_lt (by omega)
  rw [h1, lN_l b hb, mk_or]
  congr 1
  have := Nat.two_pow_add_eq_or_of_lt (i := 8) (b := b) (by omega) v
  rw [show (2 : Nat) ^ 8 = 256 from rfl, Nat.mul_comm] at this
  exact this.symm
theorem word_m {f : Nat} {τ : qMem} {B : Nat → Nat} {n c : Nat} (h : atM τ B n c) (hf : 1000 < f) : p_M_word f τ = some (lN (if tkd B n c = 1 ∧ ttl B n c - tfr B n c < 8 then rv (rl B (tfr B n c) (ttl B n c - tfr B n c)) else 0)) := by
  obtain ⟨⟨hn, e1, hB⟩, hc, e3, e4, e5, e6⟩ := h
  have htl := ttl_b (B := B) hc
  have hk4 := tkd_4 (B := B) (n := n) (c := c)
  have hkm := kM_f _ (show tkd B n c < 5 by omega)
  unfold p_M_word
  rw [e4]
  by_cases c1 : tkd B n c = 1 ∧ ttl B n c - tfr B n c < 8
  · rw [if_pos c1]
    have h8 : ¬ (8 : Int32) ≤ nI (ttl B n c) - nI (tfr B n c) := by
      rw [pk_sub htl.1]
      exact nI_ge (b := 8) c1.2 (by omega)
    refine run2x (n := ttl B n c - tfr B n c) (f := f) (fun t => lN (rv (rl B (tfr B n c) t))) (fun t => nI (tfr B n c + t)) (by omega) (fun k => ?_) (fun k t ht => ?_)
    · unfold p_M_word_l7
      rw [e5, show tfr B n c + (ttl B n c - tfr B n c) = ttl B n c by omega, if_pos (nI_le (Nat.le_refl _) (by omega))]
    · obtain ⟨b1, b2⟩ := hB (tfr B n c + t) (by omega)
      have hlt : rv (rl B (tfr B n c) t) < 2 ^ 48 := by
        have key : ∀ m, m ≤ t → rv (rl B (tfr B n c) m) < 256 ^ m := by
          intro m
          induction m with
          | zero => intro _; exact Nat.one_pos
          | succ m ih =>
            intro hm
            have h1 := ih (by omega)
            have h2 := (hB (tfr B n c + m) (by omega)).1
            show rv (rl B (tfr B n c) m) * 256 + B (tfr B n c + m) < _
            rw [Nat.pow_succ]
            omega
        have h1 := key t (Nat.le_refl _)
        have h2 : 256 ^ t ≤ 256 ^ 6 := Nat.pow_le_pow_right (by decide) (by omega)
        have h3 : (256 : Nat) ^ 6 = 2 ^ 48 := by decide
        omega
      unfold p_M_word_l7
      rw [e5, if_neg (nI_ge (by omega) (by omega)), e3, if_pos (hkm.1.mpr c1.1), e4, if_neg h8, if_pos (qin_nI (by omega) (by omega)), qi_nI (by omega), b2, word_sh hlt b1, nI_1]
      rfl
  · rw [if_neg c1]
    obtain ⟨g, rfl⟩ : ∃ g, f = g + 1 := ⟨f - 1, by omega⟩
    rw [qfix2_s]
    unfold p_M_word_l7
    rw [e5, e3, e4]
    by_cases c2 : ttl B n c ≤ tfr B n c
    · rw [if_pos (nI_le c2 (by omega))]; rfl
    · rw [if_neg (nI_ge (by omega) (by omega))]
      by_cases c3 : tkd B n c = 1
      · rw [if_pos (hkm.1.mpr c3), if_pos]
        · rfl
        · rw [pk_sub htl.1]
          exact nI_le (a := 8) (Classical.byContradiction fun w => c1 ⟨c3, by omega⟩) (by omega)
      · rw [if_neg (fun w => c3 (hkm.1.mp w))]; rfl
theorem wd_pos : ∀ w, w < 12 → rv (wdR w) ≠ 0 ∧ rv (wdR w) < 2 ^ 56 := by decide +kernel
theorem word_eq {B : Nat → Nat} {n c w : Nat} (hc : c ≤ n) (hB : ∀ i, i < n → B i < 256) (hw : w < 12) : lN (if tkd B n c = 1 ∧ ttl B n c - tfr B n c < 8 then rv (rl B (tfr B n c) (ttl B n c - tfr B n c)) else 0) = lN (rv (wdR w)) ↔ wR B n c = wdR w := by
  have htl := ttl_b (B := B) hc
  obtain ⟨l1, l2, hch⟩ := chN_f w hw
  obtain ⟨w1, w2⟩ := wd_pos w hw
  have inj : ∀ {a b : Nat}, a < 2 ^ 63 → b < 2 ^ 63 → (lN a = lN b ↔ a = b) := fun ha hb => pk_lEQ ha hb
  have hwl : (wdR w).length = lnW w := rl_len _
  have hwd : ∀ b, b ∈ wdR w → 0 < b ∧ b < 256 := rl_dig (P := fun b => 0 < b ∧ b < 256) (fun i hi => by
    have := (hch i (by omega) hi).2
    rw [Nat.zero_add]
    exact ⟨by omega, by omega⟩)
  unfold wR
  by_cases c1 : tkd B n c = 1
  · have hd : ∀ b, b ∈ rl B (tfr B n c) (ttl B n c - tfr B n c) → 0 < b ∧ b < 256 := rl_dig (P := fun b => 0 < b ∧ b < 256) (fun i hi => by
      have := tok_let c1 (show tfr B n c ≤ tfr B n c + i by omega) (by omega)
      exact ⟨by omega, by omega⟩)
    rw [if_pos c1]
    by_cases c2 : ttl B n c - tfr B n c < 8
    · have hlt := rv_lt (fun b hb => (hd b hb).2) (by rw [rl_len]; omega)
      rw [if_pos ⟨c1, c2⟩, inj (by omega) (by omega)]
      exact ⟨fun e => rv_inj hd hwd e, fun e => by rw [e]⟩
    · rw [if_neg (fun z => c2 z.2), inj (by omega) (by omega)]
      refine ⟨fun e => absurd e.symm w1, fun e => ?_⟩
      have := congrArg List.length e
      rw [rl_len, hwl] at this
      omega
  · rw [if_neg (fun z => c1 z.1), if_neg c1, inj (by omega) (by omega)]
    refine ⟨fun e => absurd e.symm w1, fun e => ?_⟩
    have := congrArg List.length e
    rw [hwl] at this
    have h0 : 0 = lnW w := this
    omega
theorem wd_k : (1868720500 : Int64) = lN (rv (wdR 0)) ∧ (1835103091 : Int64) = lN (rv (wdR 1)) ∧ (1936684396 : Int64) = lN (rv (wdR 2)) ∧ (418431394162 : Int64) = lN (rv (wdR 3)) ∧ (123636696839028 : Int64) = lN (rv (wdR 4)) ∧ (1700881256 : Int64) = lN (rv (wdR 5)) ∧ (1718775661 : Int64) = lN (rv (wdR 6)) ∧ (1953066092 : Int64) = lN (rv (wdR 7)) ∧ (448546567013 : Int64) = lN (rv (wdR 8)) ∧ (1885436275 : Int64) = lN (rv (wdR 9)) ∧ (422826041700 : Int64) = lN (rv (wdR 10)) ∧ (109270115052645 : Int64) = lN (rv (wdR 11)) := by decide +kernel
theorem term_m {f : Nat} {τ : qMem} {B : Nat → Nat} {n c : Nat} (h : atM τ B n c) (hf : 1000 < f) : p_M_termOfWord f τ = some (tmV (tmW B n c)) := by
  have hw : ∀ w, w < 12 → (lN (if tkd B n c = 1 ∧ ttl B n c - tfr B n c < 8 then rv (rl B (tfr B n c) (ttl B n c - tfr B n c)) else 0) = lN (rv (wdR w)) ↔ wR B n c = wdR w) := fun w hw => word_eq h.2.1 (fun i hi => (h.1.2.2 i hi).1) hw
  obtain ⟨-, -, k2, k3, k4, k5, k6, k7, k8, k9, k10, k11⟩ := wd_k
  unfold p_M_termOfWord
  rw [word_m h hf, Option.bind_some, k2, k3, k4, k5, k6, k7, k8, k9, k10, k11]
  simp only [lg_cmp_eq, hw 2 (by omega), hw 3 (by omega), hw 4 (by omega), hw 5 (by omega), hw 6 (by omega), hw 7 (by omega), hw 8 (by omega), hw 9 (by omega), hw 10 (by omega), hw 11 (by omega)]
  unfold tmW
  simp only [tmF]
  by_cases q2 : wR B n c = wdR 2
  · rw [if_pos q2, if_pos q2]; rfl
  rw [if_neg q2, if_neg q2]
  by_cases q3 : wR B n c = wdR 3
  · rw [if_pos q3, if_pos q3]; rfl
  rw [if_neg q3, if_neg q3]
  by_cases q4 : wR B n c = wdR 4
  · rw [if_pos q4, if_pos q4]; rfl
  rw [if_neg q4, if_neg q4]
  by_cases q5 : wR B n c = wdR 5
  · rw [if_pos q5, if_pos q5]; rfl
  rw [if_neg q5, if_neg q5]
  by_cases q6 : wR B n c = wdR 6
  · rw [if_pos q6, if_pos q6]; rfl
  rw [if_neg q6, if_neg q6]
  by_cases q7 : wR B n c = wdR 7
  · rw [if_pos q7, if_pos q7]; rfl
  rw [if_neg q7, if_neg q7]
  by_cases q8 : wR B n c = wdR 8
  · rw [if_pos q8, if_pos q8]; rfl
  rw [if_neg q8, if_neg q8]
  by_cases q9 : wR B n c = wdR 9
  · rw [if_pos q9, if_pos q9]; rfl
  rw [if_neg q9, if_neg q9]
  by_cases q10 : wR B n c = wdR 10
  · rw [if_pos q10, if_pos q10]; rfl
  rw [if_neg q10, if_neg q10]
  by_cases q11 : wR B n c = wdR 11
  · rw [if_pos q11, if_pos q11]; rfl
  rw [if_neg q11, if_neg q11]; rfl
