/-! a deed -/
def r0 (g : Nat → Int32) (ob : Bool) : Nat → Int32 := fun j => if j = 0 then (if ob = true then 1 else 0) else if j = 4 then (if ob = true then 360 else 1) else if j = 6 then 9999 else if j < 11 then 0 else g j
theorem r0_ok {g : Nat → Int32} {ob : Bool} : rowOk (r0 g ob) := by
  have key : ∀ ob : Bool, ∀ j, j < 11 → (qLeast.getD j 0).toInt ≤ (r0 (fun _ => 0) ob j).toInt ∧ (r0 (fun _ => 0) ob j).toInt ≤ (qMost.getD j 0).toInt := by decide
  intro j hj
  have e : r0 g ob j = r0 (fun _ => 0) ob j := by
    unfold r0
    rw [if_pos hj, if_pos hj]
  unfold tmOk rg
  rw [e]
  exact key ob j hj
theorem begin_c {f : Nat} {σ : qMem} {p : Nat} {ob : Bool} (hp : p < 12) (hf : 100 < f) : p_Promises_begin f σ (nI p) (b01 ob) = some (fun a b => if a = 15 + p then r0 (σ (15 + p)) ob b else σ a b) := by
  have hq := qin_nI (k := p) (n := 12) hp (by omega)
  have hi : (nI p).toNatClampNeg = p := qi_nI (by omega)
  have q0 : qin (0 : Int32) 11 = true := by decide
  have q4 : qin (4 : Int32) 11 = true := by decide
  have q6 : qin (6 : Int32) 11 = true := by decide
  have i0 : (0 : Int32).toNatClampNeg = 0 := by decide
  have i4 : (4 : Int32).toNatClampNeg = 4 := by decide
  have i6 : (6 : Int32).toNatClampNeg = 6 := by decide
  unfold p_Promises_begin
  rw [if_pos hq, fill_ok (by omega) (by omega), Option.bind_some]
  cases ob
  · rw [show b01 false = 0 from rfl]
    simp only [hq, hi, q0, q4, q6, i0, i4, i6, if_true]
    congr 1
    funext a b
    unfold qmu qfl r0
    by_cases c1 : a = 15 + p
    · subst c1
      by_cases b0 : b = 0
      · subst b0; simp
      · by_cases b4 : b = 4
        · subst b4; simp
        · by_cases b6 : b = 6
          · subst b6; simp
          · simp [b0, b4, b6]
    · simp [c1]
  · rw [show b01 true = 1 from rfl]
    simp only [hq, hi, q0, q4, q6, i0, i4, i6, if_true, if_neg (show ¬ (1 : Int32) = 0 by decide)]
    congr 1
    funext a b
    unfold qmu qfl r0
    by_cases c1 : a = 15 + p
    · subst c1
      by_cases b0 : b = 0
      · subst b0; simp
      · by_cases b4 : b = 4
        · subst b4; simp
        · by_cases b6 : b = 6
          · subst b6; simp
          · simp [b0, b4, b6]
    · simp [c1]
theorem stC_id {σ : qMem} {p n c : Nat} {r : Nat → Int32} {B : Nat → Nat} (h : atC σ B n c) : (fun a b => if a = 15 + p then r b else σ a b) = stC σ p r B n c := by
  funext a b
  unfold stC
  by_cases c1 : a = 15 + p
  · rw [if_pos c1, if_pos c1]
  · rw [if_neg c1, if_neg c1]
    unfold tk3
    by_cases d1 : a = 27 ∧ b = 3
    · rw [if_pos d1, d1.1, d1.2]; exact h.2.2.1
    · rw [if_neg d1]
      by_cases d2 : a = 27 ∧ b = 4
      · rw [if_pos d2, d2.1, d2.2]; exact h.2.2.2.1
      · rw [if_neg d2]
        by_cases d3 : a = 27 ∧ b = 5
        · rw [if_pos d3, d3.1, d3.2]; exact h.2.2.2.2
        · rw [if_neg d3]
def dE (B : Nat → Nat) (n : Nat) (q : Nat × Nat × (Nat → Int32)) : Nat × Nat × (Nat → Int32) := (q.1, (if q.1 = 0 then ttl B n q.2.1 else q.2.1), q.2.2)
theorem dE_1 {B : Nat → Nat} {n : Nat} {q : Nat × Nat × (Nat → Int32)} : (dE B n q).1 = q.1 := rfl
theorem dE_3 {B : Nat → Nat} {n : Nat} {q : Nat × Nat × (Nat → Int32)} : (dE B n q).2.2 = q.2.2 := rfl
theorem dE_p {B : Nat → Nat} {n : Nat} {q : Nat × Nat × (Nat → Int32)} (h : q.1 = 0) : (dE B n q).2.1 = ttl B n q.2.1 := if_pos h
theorem dE_n {B : Nat → Nat} {n : Nat} {q : Nat × Nat × (Nat → Int32)} (h : q.1 ≠ 0) : (dE B n q).2.1 = q.2.1 := if_neg h
theorem endC_dE {σ : qMem} {p n : Nat} {B : Nat → Nat} {q : Nat × Nat × (Nat → Int32)} : endC σ p B n q = (nI (dE B n q).1, stC σ p (dE B n q).2.2 B n (dE B n q).2.1) := rfl
noncomputable def dD (B : Nat → Nat) (n : Nat) (g : Nat → Int32) (p c : Nat) : Nat × Nat × (Nat → Int32) := if wR B n c = wdR 0 ∨ wR B n c = wdR 1 then (if p < 12 then dE B n (dS B n n (r0 g (decide (wR B n c = wdR 0))) (ttl B n c)) else (3, c, g)) else (1, c, g)
theorem dS_p {B : Nat → Nat} {n k c : Nat} {r : Nat → Int32} (hc : c ≤ n) (hk : n - c ≤ k) : (dS B n k r c).1 ≤ 2 ∧ (dS B n k r c).2.1 ≤ n ∧ ((dS B n k r c).1 = 0 → c ≤ (dS B n k r c).2.1 ∧ tkd B n (dS B n k r c).2.1 = 3) ∧ (rowOk r → rowOk (dS B n k r c).2.2) := by
  have hp := rT_p (B := B) (r := r) hc
  unfold dS
  by_cases c1 : (rT B n r c).1 = 0
  · rw [if_pos c1]
    have := hp.2.2 c1
    obtain ⟨q1, q2, q3, q4, q5⟩ := tS_p (B := B) (k := k) (r := (rT B n r c).2.2) hp.2.1 (by omega)
    exact ⟨q1, q2, fun w => ⟨by omega, q4 w⟩, fun w => q5 (rT_ok w)⟩
  · rw [if_neg c1]
    exact ⟨hp.1, hp.2.1, fun w => absurd w c1, rT_ok⟩
theorem word_k {B : Nat → Nat} {n c : Nat} (h : wR B n c = wdR 0 ∨ wR B n c = wdR 1) : tkd B n c = 1 := Classical.byContradiction fun w => by
  unfold wR at h
  rw [if_neg w] at h
  exact absurd h (by decide)
theorem dD_p {B : Nat → Nat} {n p c : Nat} {g : Nat → Int32} (hc : c ≤ n) : (dD B n g p c).1 ≤ 3 ∧ (dD B n g p c).2.1 ≤ n ∧ ((dD B n g p c).1 = 0 → p < 12 ∧ c + 1 ≤ (dD B n g p c).2.1 ∧ rowOk (dD B n g p c).2.2) := by
  unfold dD
  by_cases c1 : wR B n c = wdR 0 ∨ wR B n c = wdR 1
  · rw [if_pos c1]
    by_cases c2 : p < 12
    · rw [if_pos c2]
      have h1 := ttl_b (B := B) hc
      have hz := tk_nz hc (show tkd B n c ≠ 0 by rw [word_k c1]; decide)
      obtain ⟨q1, q2, q3, q4⟩ := dS_p (B := B) (k := n) (r := r0 g (decide (wR B n c = wdR 0))) h1.2.1 (by omega)
      generalize dS B n n (r0 g (decide (wR B n c = wdR 0))) (ttl B n c) = q at q1 q2 q3 q4
      rw [dE_1, dE_3]
      refine ⟨by omega, ?_, fun w => ⟨c2, ?_, q4 r0_ok⟩⟩
      · by_cases c3 : q.1 = 0
        · rw [dE_p c3]; exact (ttl_b q2).2.1
        · rw [dE_n c3]; exact q2
      · rw [dE_p w]
        have := (q3 w).1
        have := (ttl_b (B := B) q2).1
        have := (tfr_b (B := B) q2).1
        omega
    · rw [if_neg c2]
      exact ⟨show (3 : Nat) ≤ 3 by decide, hc, fun w => absurd (show (3 : Nat) = 0 from w) (by decide)⟩
  · rw [if_neg c1]
    exact ⟨show (1 : Nat) ≤ 3 by decide, hc, fun w => absurd (show (1 : Nat) = 0 from w) (by decide)⟩
def JC (p a b : Nat) : Prop := (a = 27 ∧ 3 ≤ b ∧ b ≤ 5) ∨ (15 + p ≤ a ∧ a ≤ 26)
theorem stC_jc {σ : qMem} {p n c : Nat} {r : Nat → Int32} {B : Nat → Nat} (hp : p < 12) : agr (JC p) σ (stC σ p r B n c) := by
  intro a b hn
  unfold JC at hn
  exact stC_o (by omega) (by omega)
theorem deed_c {f : Nat} {σ : qMem} {p n c : Nat} {B : Nat → Nat} (h : atC σ B n c) (hp : p ≤ 12) (hf : 1000 < f) : ((dD B n (σ (15 + p)) p c).1 = 0 → p_Deeds_readDeed f σ (nI p) = some (0, stC σ p (dD B n (σ (15 + p)) p c).2.2 B n (dD B n (σ (15 + p)) p c).2.1)) ∧ ((dD B n (σ (15 + p)) p c).1 ≠ 0 → ∃ σ', p_Deeds_readDeed f σ (nI p) = some (nI (dD B n (σ (15 + p)) p c).1, σ') ∧ σ' 27 4 = nI (tfr B n (dD B n (σ (15 + p)) p c).2.1) ∧ agr (JC p) σ σ') := by
  have hn := h.1.1
  have hc := h.2.1
  have h1 := ttl_b (B := B) hc
  have b22 : ∀ ob : Bool, (wR B n c = wdR 0 ∨ wR B n c = wdR 1) → p < 12 → p_Deeds_readDeed_b22 f σ (nI p) (b01 ob) = some (endC σ p B n (dS B n n (r0 (σ (15 + p)) ob) (ttl B n c))) := by
    intro ob hw hp2
    have hz := tk_nz hc (show tkd B n c ≠ 0 by rw [word_k hw]; decide)
    have hp3 := rT_p (B := B) (r := r0 (σ (15 + p)) ob) h1.2.1
    unfold p_Deeds_readDeed_b22
    rw [if_pos (show nI p < 12 from nI_lt (b := 12) hp2 (by omega)), begin_c hp2 (by omega), Option.bind_some, stC_id h, stC_nx h.1 hp2 hc hf, Option.bind_some, readTerm_c h.1 hp2 h1.2.1 hf, Option.bind_some]
    unfold dS
    by_cases c2 : (rT B n (r0 (σ (15 + p)) ob) (ttl B n c)).1 = 0
    · rw [if_pos c2, c2]
      have := hp3.2.2 c2
      exact terms_c h.1 hp2 hf n _ 1 f _ hp3.2.1 (by omega) (by omega) (by omega)
    · rw [if_neg c2]
      obtain ⟨g, hg⟩ : ∃ g, f = g + 1 := ⟨f - 1, by omega⟩
      have := l51_w (f := f) (fu := g) (x := 1) (r := (rT B n (r0 (σ (15 + p)) ob) (ttl B n c)).2.2) h.1 hp2 hp3.2.1 (show (rT B n (r0 (σ (15 + p)) ob) (ttl B n c)).1 ≤ 9 by omega) c2 hf
      rw [← hg] at this
      exact this
  have main : p_Deeds_readDeed f σ (nI p) = if wR B n c = wdR 0 ∨ wR B n c = wdR 1 then p_Deeds_readDeed_b22 f σ (nI p) (b01 (decide (wR B n c = wdR 0))) else some (1, σ) := by
    unfold p_Deeds_readDeed
    rw [spells_c h (by omega) hf, Option.bind_some, spells_c h (by omega) hf, Option.bind_some]
    by_cases q0 : wR B n c = wdR 0
    · rw [if_pos q0, if_pos (Or.inl q0), if_neg (by decide), decide_eq_true q0]; rfl
    · rw [if_neg q0, if_pos rfl, decide_eq_false q0]
      by_cases q1 : wR B n c = wdR 1
      · rw [if_pos q1, if_pos (Or.inr q1), if_neg (by decide)]; rfl
      · rw [if_neg q1, if_pos rfl, if_neg (show ¬ (wR B n c = wdR 0 ∨ wR B n c = wdR 1) from fun w => w.elim q0 q1)]
  rw [main]
  unfold dD
  by_cases c1 : wR B n c = wdR 0 ∨ wR B n c = wdR 1
  · rw [if_pos c1, if_pos c1]
    by_cases c2 : p < 12
    · rw [if_pos c2, b22 _ c1 c2, endC_dE]
      have q2 := (dS_p (B := B) (k := n) (r := r0 (σ (15 + p)) (decide (wR B n c = wdR 0))) h1.2.1 (by omega)).2.1
      generalize dS B n n (r0 (σ (15 + p)) (decide (wR B n c = wdR 0))) (ttl B n c) = q at q2
      refine ⟨fun w => ?_, fun w => ⟨_, rfl, ?_, stC_jc c2⟩⟩
      · rw [w]; rfl
      · rw [dE_1] at w
        rw [dE_n w]
        exact (stC_at h.1 c2 q2).2.2.2.1
    · rw [if_neg c2]
      refine ⟨fun w => absurd (show (3 : Nat) = 0 from w) (by decide), fun _ => ⟨σ, ?_, h.2.2.2.1, agr_rf⟩⟩
      unfold p_Deeds_readDeed_b22
      rw [if_neg (show ¬ nI p < 12 from nI_nlt (b := 12) (by omega) (by omega))]
      rfl
  · rw [if_neg c1, if_neg c1]
    exact ⟨fun w => absurd (show (1 : Nat) = 0 from w) (by decide), fun _ => ⟨σ, rfl, h.2.2.2.1, agr_rf⟩⟩
/-! the model's deed -/
theorem stM_id {τ : qMem} {p n c : Nat} {B : Nat → Nat} (h : atM τ B n c) : stM τ p (fun j => τ 108 (11 * p + j)) B n c = τ := by
  funext a b
  unfold stM
  by_cases c1 : a = 108 ∧ 11 * p ≤ b ∧ b < 11 * p + 11
  · rw [if_pos c1, c1.1]
    show τ 108 (11 * p + (b - 11 * p)) = τ 108 b
    rw [show 11 * p + (b - 11 * p) = b by omega]
  · rw [if_neg c1]
    unfold tm4
    by_cases d1 : a = 104 ∧ b = 12
    · rw [if_pos d1, d1.1, d1.2]; exact h.2.2.1.symm
    · rw [if_neg d1]
      by_cases d2 : a = 104 ∧ b = 13
      · rw [if_pos d2, d2.1, d2.2]; exact h.2.2.2.1.symm
      · rw [if_neg d2]
        by_cases d3 : a = 104 ∧ (b = 11 ∨ b = 14)
        · rw [if_pos d3, d3.1]
          rcases d3.2 with e | e
          · rw [e]; exact h.2.2.2.2.2.symm
          · rw [e]; exact h.2.2.2.2.1.symm
        · rw [if_neg d3]
theorem stM_cg {τ : qMem} {p n c : Nat} {r r' : Nat → Int32} {B : Nat → Nat} (h : ∀ j, j < 11 → r j = r' j) : stM τ p r B n c = stM τ p r' B n c := by
  funext a b
  unfold stM
  by_cases c1 : a = 108 ∧ 11 * p ≤ b ∧ b < 11 * p + 11
  · rw [if_pos c1, if_pos c1, h _ (by omega)]
  · rw [if_neg c1, if_neg c1]
theorem rT_cg {B : Nat → Nat} {n c : Nat} {r r' : Nat → Int32} : (rT B n r c).1 = (rT B n r' c).1 ∧ (rT B n r c).2.1 = (rT B n r' c).2.1 ∧ ((∀ j, j < 11 → r j = r' j) → ∀ j, j < 11 → (rT B n r c).2.2 j = (rT B n r' c).2.2 j) := by
  unfold rT
  by_cases c1 : tmW B n c = 0
  · rw [if_pos c1, if_pos c1]; exact ⟨rfl, rfl, fun w => w⟩
  · rw [if_neg c1, if_neg c1]
    by_cases c2 : tkd B n (ttl B n c) = 2
    · rw [if_pos c2, if_pos c2]
      by_cases c3 : tmOk (tmW B n c) (nmV B n (ttl B n c))
      · rw [if_pos c3, if_pos c3]
        refine ⟨rfl, rfl, fun w j hj => ?_⟩
        show upd r _ _ j = upd r' _ _ j
        by_cases q : j = tmW B n c
        · rw [q, upd_s, upd_s]
        · rw [upd_n q, upd_n q]; exact w j hj
      · rw [if_neg c3, if_neg c3]; exact ⟨rfl, rfl, fun w => w⟩
    · rw [if_neg c2, if_neg c2]; exact ⟨rfl, rfl, fun w => w⟩
theorem l70_run {f : Nat} {τ : qMem} {p n c : Nat} {B : Nat → Nat} {ob : Bool} {x1 : Int64} {g : Nat → Int32} (hp : p < 12) (hx : lg_cmp x1 1868720500 = 0 ↔ ob = true) (hf : 1000 < f) : qfix2 (p_M_readDeed_l70 f x1 (nI (11 * p))) f (stM τ p g B n c) 0 = qfix2 (p_M_readDeed_l154 f) f (stM τ p (r0 g ob) B n c) 1 := by
  have h0 : stM τ p g B n c = stM τ p (fun j => if j < 0 then 0 else g j) B n c := stM_cg (fun j _ => by rw [if_neg (by omega)])
  conv => lhs; rw [h0]
  refine run2o (n := 11) (f := f) (fun k => stM τ p (fun j => if j < k then 0 else g j) B n c) (by omega) (fun k => ?_) (fun k i hi => ?_)
  · have q0 : qin (nI (11 * p)) 132 = true := qin_nI (by omega) (by omega)
    have q4 : qin (nI (11 * p) + 4) 132 = true := by rw [show (4 : Int32) = nI 4 from rfl, nI_add]; exact qin_nI (by omega) (by omega)
    have q6 : qin (nI (11 * p) + 6) 132 = true := by rw [show (6 : Int32) = nI 6 from rfl, nI_add]; exact qin_nI (by omega) (by omega)
    have i0 : qi (nI (11 * p)) = 11 * p + 0 := qi_nI (by omega)
    have i4 : qi (nI (11 * p) + 4) = 11 * p + 4 := by rw [show (4 : Int32) = nI 4 from rfl, nI_add]; exact qi_nI (by omega)
    have i6 : qi (nI (11 * p) + 6) = 11 * p + 6 := by rw [show (6 : Int32) = nI 6 from rfl, nI_add]; exact qi_nI (by omega)
    have fin : ∀ u v : Int32, stM τ p (upd (upd (upd (fun j => if j < 11 then 0 else g j) 0 u) 4 v) 6 9999) B n c = stM τ p (fun j => if j = 0 then u else if j = 4 then v else if j = 6 then 9999 else if j < 11 then 0 else g j) B n c := by
      intro u v
      refine stM_cg (fun j _ => ?_)
      unfold upd
      by_cases b6 : j = 6
      · subst b6; simp
      · by_cases b4 : j = 4
        · subst b4; simp
        · by_cases b0 : j = 0
          · subst b0; simp
          · simp [b0, b4, b6]
    unfold p_M_readDeed_l70 p_M_readDeed_b113 p_M_readDeed_b137
    rw [if_pos (by decide)]
    cases ob
    · have hno : ¬ lg_cmp x1 1868720500 = 0 := fun w => absurd (hx.mp w) (by decide)
      rw [if_neg hno, if_pos q0, if_neg hno, if_pos q4, if_pos q6, i0, i4, i6, stM_tell (by omega), stM_tell (by omega), stM_tell (by omega), fin]
      rfl
    · have hyes : lg_cmp x1 1868720500 = 0 := hx.mpr rfl
      rw [if_pos hyes, if_pos q0, if_pos hyes, if_pos q4, if_pos q6, i0, i4, i6, stM_tell (by omega), stM_tell (by omega), stM_tell (by omega), fin]
      rfl
  · unfold p_M_readDeed_l70
    rw [if_neg (show ¬ (11 : Int32) ≤ nI i from nI_ge (b := 11) hi (by omega)), nI_add, if_pos (qin_nI (by omega) (by omega)), qi_nI (by omega), stM_tell hi, nI_1]
    congr 1
    refine stM_cg (fun j _ => ?_)
    show (if j = i then 0 else if j < i then 0 else g j) = if j < i + 1 then 0 else g j
    by_cases c1 : j = i
    · rw [if_pos c1, if_pos (by omega)]
    · rw [if_neg c1]
      by_cases c2 : j < i
      · rw [if_pos c2, if_pos (by omega)]
      · rw [if_neg c2, if_neg (by omega)]
theorem deed_m {f : Nat} {τ : qMem} {p n c : Nat} {B : Nat → Nat} {g : Nat → Int32} (hb : bsM τ B n p) (h : atM τ B n c) (hp : p ≤ 12) (hf : 1000 < f) : ((dD B n g p c).1 = 0 → ∃ r', (∀ j, j < 11 → r' j = (dD B n g p c).2.2 j) ∧ p_M_readDeed f τ = some (qmu (stM τ p r' B n (dD B n g p c).2.1) 104 17 (nI (p + 1)))) ∧ ((dD B n g p c).1 ≠ 0 → ∃ F, p_M_readDeed f τ = some F ∧ flt τ F p (dD B n g p c).1 (tfr B n (dD B n g p c).2.1)) := by
  have hn := h.1.1
  have hc := h.2.1
  have h1 := ttl_b (B := B) hc
  obtain ⟨k0, k1, -⟩ := wd_k
  have hw : ∀ w, w < 12 → (lN (if tkd B n c = 1 ∧ ttl B n c - tfr B n c < 8 then rv (rl B (tfr B n c) (ttl B n c - tfr B n c)) else 0) = lN (rv (wdR w)) ↔ wR B n c = wdR w) := fun w hw => word_eq hc (fun i hi => (h.1.2.2 i hi).1) hw
  have main : p_M_readDeed f τ = if wR B n c = wdR 0 ∨ wR B n c = wdR 1 then p_M_readDeed_b26 f τ (lN (if tkd B n c = 1 ∧ ttl B n c - tfr B n c < 8 then rv (rl B (tfr B n c) (ttl B n c - tfr B n c)) else 0)) 1 else p_M_readDeed_b26 f τ (lN (if tkd B n c = 1 ∧ ttl B n c - tfr B n c < 8 then rv (rl B (tfr B n c) (ttl B n c - tfr B n c)) else 0)) 0 := by
    unfold p_M_readDeed
    rw [word_m h hf, Option.bind_some, k0, k1]
    have e0 := hw 0 (by omega)
    have e1 := hw 1 (by omega)
    rw [← lg_cmp_eq] at e0 e1
    by_cases q1 : wR B n c = wdR 1
    · rw [if_pos (e1.mpr q1), if_pos (Or.inr q1)]
    · rw [if_neg (fun w => q1 (e1.mp w))]
      by_cases q0 : wR B n c = wdR 0
      · rw [if_pos (e0.mpr q0), if_pos (Or.inl q0)]
      · rw [if_neg (fun w => q0 (e0.mp w)), if_neg (show ¬ (wR B n c = wdR 0 ∨ wR B n c = wdR 1) from fun w => w.elim q0 q1)]
  rw [main]
  unfold dD p_M_readDeed_b26
  by_cases c1 : wR B n c = wdR 0 ∨ wR B n c = wdR 1
  · rw [if_pos c1, if_pos c1, if_neg (show ¬ (1 : Int32) = 0 by decide), hb.2.2]
    by_cases c2 : p < 12
    · rw [if_pos c2, if_neg (show ¬ nI p = 12 from fun w => by have := (nI_eq (a := p) (b := 12) (by omega) (by omega)).mp w; omega)]
      have hx : lg_cmp (lN (if tkd B n c = 1 ∧ ttl B n c - tfr B n c < 8 then rv (rl B (tfr B n c) (ttl B n c - tfr B n c)) else 0)) 1868720500 = 0 ↔ decide (wR B n c = wdR 0) = true := by
        rw [lg_cmp_eq, k0, hw 0 (by omega), decide_eq_true_eq]
      have e15 : ∀ r c', (stM τ p r B n c') 104 15 = 0 := fun r c' => by rw [stM_o (by omega) (by omega)]; exact hb.2.1
      have e17 : ∀ r c', (stM τ p r B n c') 104 17 = nI p := fun r c' => by rw [stM_o (by omega) (by omega)]; exact hb.2.2
      have b45 : p_M_readDeed_b45 f τ (lN (if tkd B n c = 1 ∧ ttl B n c - tfr B n c < 8 then rv (rl B (tfr B n c) (ttl B n c - tfr B n c)) else 0)) 1 = qfix2 (p_M_readDeed_l154 f) f (stM τ p (r0 (fun j => τ 108 (11 * p + j)) (decide (wR B n c = wdR 0))) B n (ttl B n c)) 1 := by
        unfold p_M_readDeed_b45
        have hst : p_M_step f τ = some (stM τ p (fun j => τ 108 (11 * p + j)) B n (ttl B n c)) := by
          have := stM_nx (f := f) (p := p) (r := fun j => τ 108 (11 * p + j)) h.1 hc hf
          rw [stM_id h] at this
          exact this
        rw [need_1 hb.2.1, hst, Option.bind_some, e15, if_pos (show (0 : Int32) ≤ 0 by decide), e17, show (11 : Int32) * nI p = nI (11 * p) by rw [show (11 : Int32) = nI 11 from rfl, nI_mul]]
        exact l70_run c2 hx hf
      rw [b45]
      have hr0 : stM τ p (r0 (fun j => τ 108 (11 * p + j)) (decide (wR B n c = wdR 0))) B n (ttl B n c) = stM τ p (r0 g (decide (wR B n c = wdR 0))) B n (ttl B n c) := stM_cg (fun j hj => by unfold r0; rw [if_pos hj, if_pos hj])
      rw [hr0]
      have ht := terms_m (f := f) hb c2 hf n (ttl B n c) f (r0 g (decide (wR B n c = wdR 0))) h1.2.1 (by omega) (by omega)
      generalize dS B n n (r0 g (decide (wR B n c = wdR 0))) (ttl B n c) = q at ht
      refine ⟨fun w => ⟨q.2.2, fun _ _ => rfl, ?_⟩, fun w => ?_⟩
      · rw [dE_1] at w
        rw [ht.1 w, dE_p w]
      · rw [dE_1] at w
        obtain ⟨F, e, hF⟩ := ht.2 w
        rw [dE_1, dE_n w]
        exact ⟨F, e, hF⟩
    · rw [if_neg c2, if_pos (show nI p = 12 by rw [show p = 12 by omega]; rfl), bad_m hb.2.1, Option.bind_some]
      refine ⟨fun w => absurd (show (3 : Nat) = 0 from w) (by decide), fun _ => ⟨_, by
        unfold p_M_readDeed_b45
        rw [need_f (by rw [mu_j (by decide), mu_s]; decide), Option.bind_some, if_neg (by rw [mu_j (by decide), mu_s]; decide)], ?_, ?_, ?_⟩⟩
      · rw [mu_j (by decide), mu_s]; rfl
      · rw [mu_s, h.2.2.2.1]
      · exact agr_mu (agr_mu agr_rf (by unfold JK; omega)) (by unfold JK; omega)
  · rw [if_neg c1, if_neg c1, if_pos (show (0 : Int32) = 0 from rfl)]
    refine ⟨fun w => absurd (show (1 : Nat) = 0 from w) (by decide), fun _ => ⟨_, by
      unfold p_M_readDeed_b45
      rw [need_0 hb.2.1, Option.bind_some, if_neg (by rw [mu_j (by decide), mu_s]; decide)], ?_, ?_, ?_⟩⟩
    · rw [mu_j (by decide), mu_s]; rfl
    · rw [mu_s, h.2.2.2.1]
    · exact agr_mu (agr_mu agr_rf (by unfold JK; omega)) (by unfold JK; omega)
