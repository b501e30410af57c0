/-! terms -/
/-- the state at the token read from c, with the row of promise p -/
def stC (σ : qMem) (p : Nat) (r : Nat → Int32) (B : Nat → Nat) (n c : Nat) : qMem := fun a b => if a = 15 + p then r b else tk3 σ (nI (tkd B n c)) (nI (tfr B n c)) (nI (ttl B n c)) a b
theorem stC_o {σ : qMem} {p n c a b : Nat} {r : Nat → Int32} {B : Nat → Nat} (h1 : a ≠ 15 + p) (h2 : ¬ (a = 27 ∧ (b = 3 ∨ b = 4 ∨ b = 5))) : stC σ p r B n c a b = σ a b := by
  unfold stC tk3
  rw [if_neg h1, if_neg (by omega), if_neg (by omega), if_neg (by omega)]
theorem stC_tc {σ : qMem} {p n c : Nat} {r : Nat → Int32} {B : Nat → Nat} (h : tcH σ n B) (hp : p < 12) : tcH (stC σ p r B n c) n B := by
  refine ⟨h.1, ?_, fun i hi => ⟨(h.2.2 i hi).1, ?_⟩⟩
  · rw [stC_o (by omega) (by omega)]; exact h.2.1
  · rw [stC_o (by omega) (by omega)]; exact (h.2.2 i hi).2
theorem stC_at {σ : qMem} {p n c : Nat} {r : Nat → Int32} {B : Nat → Nat} (h : tcH σ n B) (hp : p < 12) (hc : c ≤ n) : atC (stC σ p r B n c) B n c := by
  refine ⟨stC_tc h hp, hc, ?_, ?_, ?_⟩ <;> unfold stC tk3 <;> rw [if_neg (by omega)] <;> repeat (first | rw [if_neg (by omega)] | rw [if_pos (by omega)])
theorem stC_nx {f : Nat} {σ : qMem} {p n c : Nat} {r : Nat → Int32} {B : Nat → Nat} (h : tcH σ n B) (hp : p < 12) (hc : c ≤ n) (hf : 1000 < f) : p_Deeds_nextToken f (stC σ p r B n c) = some (stC σ p r B n (ttl B n c)) := by
  have hat := stC_at (r := r) h hp hc
  rw [tok_c hat.1 hat.2.2.2.2 (ttl_b hc).2.1 hf]
  congr 1
  funext a b
  by_cases c1 : a = 15 + p
  · have e1 : stC σ p r B n (ttl B n c) a b = r b := if_pos c1
    have e2 : stC σ p r B n c a b = r b := if_pos c1
    rw [e1]
    unfold tk3
    rw [if_neg (by omega), if_neg (by omega), if_neg (by omega), e2]
  · have e1 : stC σ p r B n (ttl B n c) a b = tk3 σ (nI (tkd B n (ttl B n c))) (nI (tfr B n (ttl B n c))) (nI (ttl B n (ttl B n c))) a b := if_neg c1
    rw [e1]
    unfold tk3
    by_cases d1 : a = 27 ∧ b = 3
    · rw [if_pos d1, if_pos d1]
    · rw [if_neg d1, if_neg d1]
      by_cases d2 : a = 27 ∧ b = 4
      · rw [if_pos d2, if_pos d2]
      · rw [if_neg d2, if_neg d2]
        by_cases d3 : a = 27 ∧ b = 5
        · rw [if_pos d3, if_pos d3]
        · rw [if_neg d3, if_neg d3, stC_o c1 (by omega)]
theorem stC_tell {σ : qMem} {p n c t : Nat} {r : Nat → Int32} {B : Nat → Nat} {v : Int32} : qmu (stC σ p r B n c) (15 + p) t v = stC σ p (upd r t v) B n c := by
  funext a b
  unfold qmu stC
  by_cases c1 : a = 15 + p
  · by_cases c2 : b = t
    · rw [if_pos ⟨c1, c2⟩, if_pos c1, c2, upd_s]
    · rw [if_neg (fun w => c2 w.2), if_pos c1, if_pos c1, upd_n c2]
  · rw [if_neg (fun w => c1 w.1), if_neg c1, if_neg c1]
def tmOk (t : Nat) (v : Int32) : Prop := rg v (qLeast.getD t 0).toInt (qMost.getD t 0).toInt
noncomputable def rT (B : Nat → Nat) (n : Nat) (r : Nat → Int32) (c : Nat) : Nat × Nat × (Nat → Int32) := if tmW B n c = 0 then (1, c, r) else if tkd B n (ttl B n c) = 2 then (@ite (Nat × Nat × (Nat → Int32)) (tmOk (tmW B n c) (nmV B n (ttl B n c))) (Classical.propDecidable _) (0, ttl B n (ttl B n c), upd r (tmW B n c) (nmV B n (ttl B n c))) (2, ttl B n c, r)) else (1, ttl B n c, r)
theorem tmW_le {B : Nat → Nat} {n c : Nat} : tmW B n c ≤ 10 := by
  unfold tmW
  rcases tmF_le (l := wR B n c) (m := 10) (t := 1) with q | q <;> omega
theorem readTerm_c {f : Nat} {σ : qMem} {p n c : Nat} {r : Nat → Int32} {B : Nat → Nat} (h : tcH σ n B) (hp : p < 12) (hc : c ≤ n) (hf : 1000 < f) : p_Deeds_readTerm f (stC σ p r B n c) (nI p) = some (nI (rT B n r c).1, stC σ p (rT B n r c).2.2 B n (rT B n r c).2.1) := by
  have hat := stC_at (r := r) h hp hc
  have hc1 := (ttl_b (B := B) hc).2.1
  have hat1 := stC_at (r := r) h hp hc1
  have hk4 := tkd_4 (B := B) (n := n) (c := ttl B n c)
  have ht10 := tmW_le (B := B) (n := n) (c := c)
  unfold p_Deeds_readTerm rT
  rw [term_c hat hf, Option.bind_some]
  unfold tmV
  by_cases c1 : tmW B n c = 0
  · rw [if_pos c1, if_pos c1, if_pos rfl]
    rfl
  · have hq := qin_nI (k := tmW B n c) (n := 11) (by omega) (by omega)
    rw [if_neg c1, if_neg c1, if_neg (nI_nn (by omega)), stC_nx h hp hc hf, Option.bind_some, hat1.2.2.1]
    by_cases c2 : tkd B n (ttl B n c) = 2
    · rw [if_pos c2, if_pos (show nI (tkd B n (ttl B n c)) = 2 by rw [c2]; rfl), num_c hat1 c2 hf, Option.bind_some, if_pos hq, if_pos hq, qi_nI (by omega), outL, Option.bind_some]
      by_cases c3 : tmOk (tmW B n c) (nmV B n (ttl B n c))
      · have htell : p_Promises_tell f (stC σ p r B n (ttl B n c)) (nI p) (nI (tmW B n c)) (nmV B n (ttl B n c)) = some (stC σ p (upd r (tmW B n c) (nmV B n (ttl B n c))) B n (ttl B n c)) := by
          unfold p_Promises_tell
          rw [if_pos (qin_nI hp (by omega)), if_pos hq, qi_nI (by omega), qi_nI (by omega), stC_tell]
        rw [if_pos (show rg _ _ _ from c3), if_pos rfl, htell, Option.bind_some, stC_nx h hp hc1 hf, Option.bind_some, if_pos c3]
        rfl
      · rw [if_neg (show ¬ rg _ _ _ from c3), if_neg (by decide), if_neg c3]
        rfl
    · rw [if_neg c2, if_neg (show ¬ nI (tkd B n (ttl B n c)) = 2 from fun w => c2 ((nI_eq (a := tkd B n (ttl B n c)) (b := 2) (by omega) (by omega)).mp w))]
      rfl
/-! the model's term -/
def stM (τ : qMem) (p : Nat) (r : Nat → Int32) (B : Nat → Nat) (n c : Nat) : qMem := fun a b => if a = 108 ∧ 11 * p ≤ b ∧ b < 11 * p + 11 then r (b - 11 * p) else tm4 τ (kM (tkd B n c)) (nI (tfr B n c)) (nI (ttl B n c)) a b
theorem stM_o {τ : qMem} {p n c a b : Nat} {r : Nat → Int32} {B : Nat → Nat} (h1 : ¬ (a = 108 ∧ 11 * p ≤ b ∧ b < 11 * p + 11)) (h2 : ¬ (a = 104 ∧ (b = 11 ∨ b = 12 ∨ b = 13 ∨ b = 14))) : stM τ p r B n c a b = τ a b := by
  unfold stM tm4
  rw [if_neg h1, if_neg (by omega), if_neg (by omega), if_neg (by omega)]
/-- the model's state while it reads deed p without a fault -/
def bsM (τ : qMem) (B : Nat → Nat) (n p : Nat) : Prop := tmH τ n B ∧ τ 104 15 = 0 ∧ τ 104 17 = nI p
theorem stM_tm {τ : qMem} {p n c : Nat} {r : Nat → Int32} {B : Nat → Nat} (h : tmH τ n B) : tmH (stM τ p r B n c) n B := by
  refine ⟨h.1, ?_, fun i hi => ⟨(h.2.2 i hi).1, ?_⟩⟩
  · rw [stM_o (by omega) (by omega)]; exact h.2.1
  · rw [stM_o (by omega) (by omega)]; exact (h.2.2 i hi).2
theorem stM_at {τ : qMem} {p n c : Nat} {r : Nat → Int32} {B : Nat → Nat} (h : tmH τ n B) (hc : c ≤ n) : atM (stM τ p r B n c) B n c := by
  refine ⟨stM_tm h, hc, ?_, ?_, ?_, ?_⟩ <;> unfold stM tm4 <;> rw [if_neg (by omega)] <;> repeat (first | rw [if_neg (by omega)] | rw [if_pos (by omega)])
theorem stM_nx {f : Nat} {τ : qMem} {p n c : Nat} {r : Nat → Int32} {B : Nat → Nat} (h : tmH τ n B) (hc : c ≤ n) (hf : 1000 < f) : p_M_step f (stM τ p r B n c) = some (stM τ p r B n (ttl B n c)) := by
  have hat := stM_at (p := p) (r := r) h hc
  rw [tok_m hat.1 hat.2.2.2.2.2 (ttl_b hc).2.1 hf]
  congr 1
  funext a b
  by_cases c1 : a = 108 ∧ 11 * p ≤ b ∧ b < 11 * p + 11
  · have e1 : stM τ p r B n (ttl B n c) a b = r (b - 11 * p) := if_pos c1
    have e2 : stM τ p r B n c a b = r (b - 11 * p) := if_pos c1
    rw [e1]
    unfold tm4
    rw [if_neg (by omega), if_neg (by omega), if_neg (by omega), e2]
  · have e1 : stM τ p r B n (ttl B n c) a b = tm4 τ (kM (tkd B n (ttl B n c))) (nI (tfr B n (ttl B n c))) (nI (ttl B n (ttl B n c))) a b := if_neg c1
    rw [e1]
    unfold tm4
    by_cases d1 : a = 104 ∧ b = 12
    · rw [if_pos d1, if_pos d1]
    · rw [if_neg d1, if_neg d1]
      by_cases d2 : a = 104 ∧ b = 13
      · rw [if_pos d2, if_pos d2]
      · rw [if_neg d2, if_neg d2]
        by_cases d3 : a = 104 ∧ (b = 11 ∨ b = 14)
        · rw [if_pos d3, if_pos d3]
        · rw [if_neg d3, if_neg d3, stM_o c1 (by omega)]
theorem stM_tell {τ : qMem} {p n c t : Nat} {r : Nat → Int32} {B : Nat → Nat} {v : Int32} (ht : t < 11) : qmu (stM τ p r B n c) 108 (11 * p + t) v = stM τ p (upd r t v) B n c := by
  funext a b
  unfold qmu stM
  by_cases c1 : a = 108 ∧ 11 * p ≤ b ∧ b < 11 * p + 11
  · rw [if_pos c1, if_pos c1]
    by_cases c2 : b = 11 * p + t
    · rw [if_pos ⟨c1.1, c2⟩, c2, Nat.add_sub_cancel_left, upd_s]
    · rw [if_neg (fun w => c2 w.2), upd_n (by omega)]
  · rw [if_neg c1, if_neg c1, if_neg (by omega)]
/-- what a fault may leave behind in the model -/
def JK (p : Nat) (a b : Nat) : Prop := (a = 104 ∧ 10 ≤ b ∧ b ≤ 17) ∨ (a = 108 ∧ 11 * p ≤ b)
theorem stM_jk {τ : qMem} {p n c : Nat} {r : Nat → Int32} {B : Nat → Nat} : agr (JK p) τ (stM τ p r B n c) := by
  intro a b hn
  unfold JK at hn
  exact stM_o (by omega) (by omega)
def flt (τ F : qMem) (p w e : Nat) : Prop := F 104 15 = nI w ∧ F 104 16 = nI e ∧ agr (JK p) τ F
theorem bad_m {f : Nat} {S : qMem} {v : Int32} (h : S 104 15 = 0) : p_M_bad f S v = some (qmu (qmu S 104 15 v) 104 16 (S 104 13)) := by
  unfold p_M_bad
  rw [if_pos h, mu_j (by decide)]
theorem need_0 {f : Nat} {S : qMem} (h : S 104 15 = 0) : p_M_need f S 0 = some (qmu (qmu S 104 15 1) 104 16 (S 104 13)) := by
  unfold p_M_need p_M_need_b9
  rw [if_pos rfl, bad_m h, Option.bind_some, if_neg]
  rw [mu_j (by decide), mu_s]
  decide
theorem need_1 {f : Nat} {S : qMem} (h : S 104 15 = 0) : p_M_need f S 1 = p_M_step f S := by
  unfold p_M_need p_M_need_b9
  rw [if_neg (by decide), if_pos h]
  cases p_M_step f S <;> rfl
theorem need_f {f : Nat} {S : qMem} (h : ¬ S 104 15 = 0) : p_M_need f S 1 = some S := by
  unfold p_M_need p_M_need_b9
  rw [if_neg (by decide), if_neg h]
theorem rg_tab : ∀ t, t < 11 → 1 ≤ t → (qLeast.getD t 0 = if nI t = 4 then 1 else 0) ∧ (p_M_mostOf 0 (fun _ _ => 0) (nI t) = some (qMost.getD t 0)) := by decide
theorem most_m {f : Nat} {S : qMem} {t : Nat} (h1 : t < 11) (h2 : 1 ≤ t) : p_M_mostOf f S (nI t) = some (qMost.getD t 0) := (rg_tab t h1 h2).2
theorem inr {f : Nat} {S : qMem} {v a b : Int32} : p_M_in f S v.toInt64 a.toInt64 b.toInt64 = some (@ite Int32 (rg v a.toInt b.toInt) (Classical.propDecidable _) 1 0) := by
  rw [inL]
  have e : rg v a.toInt64.toInt b.toInt64.toInt ↔ rg v a.toInt b.toInt := by
    unfold rg
    rw [tl_int, tl_int]
  by_cases c : rg v a.toInt b.toInt
  · rw [if_pos c, if_pos (e.mpr c)]
  · rw [if_neg c, if_neg (fun w => c (e.mp w))]
theorem readTerm_m {f : Nat} {τ : qMem} {p n c : Nat} {r : Nat → Int32} {B : Nat → Nat} (h : bsM τ B n p) (hp : p < 12) (hc : c ≤ n) (hf : 1000 < f) : ((rT B n r c).1 = 0 → p_M_readTerm f (stM τ p r B n c) = some (stM τ p (rT B n r c).2.2 B n (rT B n r c).2.1)) ∧ ((rT B n r c).1 ≠ 0 → ∃ F, p_M_readTerm f (stM τ p r B n c) = some F ∧ flt τ F p (rT B n r c).1 (tfr B n (rT B n r c).2.1)) := by
  obtain ⟨h, h15, h17⟩ := h
  have hn := h.1
  have hat := stM_at (p := p) (r := r) h hc
  have hc1 := (ttl_b (B := B) hc).2.1
  have htl1 := ttl_b (B := B) hc1
  have hat1 := stM_at (p := p) (r := r) h hc1
  have hk4 := tkd_4 (B := B) (n := n) (c := ttl B n c)
  have hkm := kM_f _ (show tkd B n (ttl B n c) < 5 by omega)
  have ht10 := tmW_le (B := B) (n := n) (c := c)
  have s15 : ∀ c', (stM τ p r B n c') 104 15 = 0 := fun c' => by rw [stM_o (by omega) (by omega)]; exact h15
  have s17 : ∀ c', (stM τ p r B n c') 104 17 = nI p := fun c' => by rw [stM_o (by omega) (by omega)]; exact h17
  have ix : ((11 : Int32) * nI p) + nI (tmW B n c) = nI (11 * p + tmW B n c) := idx11
  have wr : ∀ (S : qMem) (v : Int32), S 104 17 = nI p → (if qin (((11 : Int32) * (S 104 17)) + nI (tmW B n c)) 132 = true then some (qmu S 108 (qi (((11 : Int32) * (S 104 17)) + nI (tmW B n c))) v) else none) = some (qmu S 108 (11 * p + tmW B n c) v) := by
    intro S v hS
    rw [hS, ix, if_pos (qin_nI (by omega) (by omega)), qi_nI (by omega)]
  unfold p_M_readTerm rT
  rw [term_m hat hf, Option.bind_some]
  unfold tmV
  by_cases c1 : tmW B n c = 0
  · rw [if_pos c1, if_pos c1, if_pos rfl]
    refine ⟨fun w => absurd (show (1 : Nat) = 0 from w) (by decide), fun _ => ⟨_, by
      unfold p_M_readTerm_b17
      rw [need_0 (s15 c), Option.bind_some, if_neg (by rw [mu_j (by decide), mu_s]; decide)], ?_, ?_, ?_⟩⟩
    · rw [mu_j (by decide), mu_s]; rfl
    · rw [mu_s, hat.2.2.2.1]
    · exact agr_mu (agr_mu stM_jk (by unfold JK; omega)) (by unfold JK; omega)
  · rw [if_neg c1, if_neg c1, if_neg (nI_nn (by omega))]
    unfold p_M_readTerm_b17
    rw [need_1 (s15 c), stM_nx h hc hf, Option.bind_some, s15 (ttl B n c), if_pos (show (0 : Int32) ≤ 0 by decide), hat1.2.2.2.1]
    by_cases c2 : tkd B n (ttl B n c) = 2
    · rw [if_pos c2]
      have e12 : (stM τ p r B n (ttl B n c)) 104 12 = 3 := by rw [hat1.2.2.1]; exact hkm.2.1.mpr c2
      have run : qfix2 (p_M_readTerm_l35 f (stM τ p r B n (ttl B n c)) (nI (tmW B n c))) f 0 (nI (tfr B n (ttl B n c))) = p_M_readTerm_b72 f (stM τ p r B n (ttl B n c)) (nI (tmW B n c)) (nmV B n (ttl B n c)) := by
        obtain ⟨e, he⟩ : ∃ e, f = (ttl B n (ttl B n c) - tfr B n (ttl B n c)) + 1 + e := ⟨f - (ttl B n (ttl B n c) - tfr B n (ttl B n c)) - 1, by omega⟩
        have key : ∀ (m t : Nat) (e : Nat), t + m = ttl B n (ttl B n c) - tfr B n (ttl B n c) → qfix2 (p_M_readTerm_l35 f (stM τ p r B n (ttl B n c)) (nI (tmW B n c))) (m + 1 + e) (nmF B (tfr B n (ttl B n c)) t) (nI (tfr B n (ttl B n c) + t)) = p_M_readTerm_b72 f (stM τ p r B n (ttl B n c)) (nI (tmW B n c)) (nmV B n (ttl B n c)) := by
          intro m
          induction m with
          | zero =>
            intro t e ht
            rw [show 0 + 1 + e = e + 1 by omega, qfix2_s]
            unfold p_M_readTerm_l35
            rw [hat1.2.2.2.2.1, show tfr B n (ttl B n c) + t = ttl B n (ttl B n c) by omega, if_pos (nI_le (Nat.le_refl _) (by omega)), show t = ttl B n (ttl B n c) - tfr B n (ttl B n c) by omega]
            rfl
          | succ m ih =>
            intro t e ht
            have hb := h.2.2 (tfr B n (ttl B n c) + t) (by omega)
            have e109 : (stM τ p r B n (ttl B n c)) 109 (tfr B n (ttl B n c) + t) = nI (B (tfr B n (ttl B n c) + t)) := by rw [stM_o (by omega) (by omega)]; exact hb.2
            rw [show m + 1 + 1 + e = (m + 1 + e) + 1 by omega, qfix2_s]
            have := ih (t + 1) e (by omega)
            generalize qfix2 (p_M_readTerm_l35 f (stM τ p r B n (ttl B n c)) (nI (tmW B n c))) (m + 1 + e) = K at this
            unfold p_M_readTerm_l35
            rw [hat1.2.2.2.2.1, if_neg (nI_ge (by omega) (by omega)), e12, if_pos rfl, if_pos (qin_nI (by omega) (by omega)), qi_nI (by omega), e109, nI_1]
            exact this
        have := key (ttl B n (ttl B n c) - tfr B n (ttl B n c)) 0 e (by omega)
        rw [← he] at this
        exact this
      rw [run]
      have tab := rg_tab (tmW B n c) (by omega) (by omega)
      have b72 : p_M_readTerm_b72 f (stM τ p r B n (ttl B n c)) (nI (tmW B n c)) (nmV B n (ttl B n c)) = p_M_readTerm_b92 f (stM τ p r B n (ttl B n c)) (nI (tmW B n c)) (nmV B n (ttl B n c)) (nmV B n (ttl B n c)).toInt64 (qLeast.getD (tmW B n c) 0).toInt64 := by
        unfold p_M_readTerm_b72
        rw [if_pos e12, tab.1]
        by_cases q : nI (tmW B n c) = 4
        · rw [if_pos q, if_pos q]; rfl
        · rw [if_neg q, if_neg q]; rfl
      rw [b72]
      unfold p_M_readTerm_b92
      rw [most_m (by omega) (by omega), Option.bind_some, inr, Option.bind_some]
      by_cases c3 : tmOk (tmW B n c) (nmV B n (ttl B n c))
      · rw [if_pos c3, if_pos (show rg _ _ _ from c3), if_neg bad_ne]
        refine ⟨fun _ => ?_, fun w => absurd rfl w⟩
        unfold p_M_readTerm_b108 p_M_readTerm_b122
        rw [if_pos e12, need_1 (s15 _), stM_nx h hc1 hf, Option.bind_some, wr _ _ (s17 _), stM_tell (by omega)]
      · rw [if_neg c3, if_neg (show ¬ rg _ _ _ from c3), if_pos rfl, bad_m (s15 _), Option.bind_some]
        refine ⟨fun w => absurd (show (2 : Nat) = 0 from w) (by decide), fun _ => ⟨_, by
          unfold p_M_readTerm_b108 p_M_readTerm_b122
          rw [if_pos (by rw [mu_j (by decide), mu_j (by decide)]; exact e12), need_f (by rw [mu_j (by decide), mu_s]; decide), Option.bind_some, wr _ _ (by rw [mu_j (by decide), mu_j (by decide)]; exact s17 _)], ?_, ?_, ?_⟩⟩
        · rw [mu_k (by decide), mu_j (by decide), mu_s]; rfl
        · rw [mu_k (by decide), mu_s, hat1.2.2.2.1]
        · exact agr_mu (agr_mu (agr_mu stM_jk (by unfold JK; omega)) (by unfold JK; omega)) (by unfold JK; omega)
    · rw [if_neg c2]
      have e12 : ¬ (stM τ p r B n (ttl B n c)) 104 12 = 3 := by rw [hat1.2.2.1]; exact fun w => c2 (hkm.2.1.mp w)
      have run : qfix2 (p_M_readTerm_l35 f (stM τ p r B n (ttl B n c)) (nI (tmW B n c))) f 0 (nI (tfr B n (ttl B n c))) = p_M_readTerm_b72 f (stM τ p r B n (ttl B n c)) (nI (tmW B n c)) 0 := by
        obtain ⟨g, he⟩ : ∃ g, f = g + 1 := ⟨f - 1, by omega⟩
        conv => lhs; rw [he, qfix2_s]
        unfold p_M_readTerm_l35
        rw [← he, hat1.2.2.2.2.1]
        by_cases q : ttl B n (ttl B n c) ≤ tfr B n (ttl B n c)
        · rw [if_pos (nI_le q (by omega))]
        · rw [if_neg (nI_ge (by omega) (by omega)), if_neg e12]
      rw [run]
      refine ⟨fun w => absurd (show (1 : Nat) = 0 from w) (by decide), fun _ => ⟨_, by
        unfold p_M_readTerm_b72 p_M_readTerm_b108 p_M_readTerm_b122
        rw [if_neg e12, if_neg e12, need_0 (s15 _), Option.bind_some, wr _ _ (by rw [mu_j (by decide), mu_j (by decide)]; exact s17 _)], ?_, ?_, ?_⟩⟩
      · rw [mu_k (by decide), mu_j (by decide), mu_s]; rfl
      · rw [mu_k (by decide), mu_s, hat1.2.2.2.1]
      · exact agr_mu (agr_mu (agr_mu stM_jk (by unfold JK; omega)) (by unfold JK; omega)) (by unfold JK; omega)
