/-! a deed's terms -/
theorem tmW_k {B : Nat → Nat} {n c : Nat} (h : tmW B n c ≠ 0) : tkd B n c = 1 := Classical.byContradiction fun w => h (by
  unfold tmW wR
  rw [if_neg w]
  decide)
theorem tk_nz {B : Nat → Nat} {n c : Nat} (hc : c ≤ n) (h : tkd B n c ≠ 0) : c + 1 ≤ ttl B n c := by
  have c0 : tfr B n c < n := Classical.byContradiction fun w => h (tkd_0.mpr w)
  have h1 := tfr_b (B := B) hc
  have h2 := ttl_b (B := B) hc
  have := h2.2.2 c0
  omega
theorem rT_0 {B : Nat → Nat} {n c : Nat} {r : Nat → Int32} (h : tmW B n c = 0) : rT B n r c = (1, c, r) := if_pos h
theorem rT_p {B : Nat → Nat} {n c : Nat} {r : Nat → Int32} (hc : c ≤ n) : (rT B n r c).1 ≤ 2 ∧ (rT B n r c).2.1 ≤ n ∧ ((rT B n r c).1 = 0 → c + 2 ≤ (rT B n r c).2.1) := by
  have h1 := ttl_b (B := B) hc
  have h2 := ttl_b (B := B) h1.2.1
  unfold rT
  by_cases c1 : tmW B n c = 0
  · rw [if_pos c1]
    exact ⟨show (1 : Nat) ≤ 2 by decide, hc, fun w => absurd (show (1 : Nat) = 0 from w) (by decide)⟩
  · rw [if_neg c1]
    have g1 := tk_nz hc (show tkd B n c ≠ 0 by rw [tmW_k c1]; decide)
    by_cases c2 : tkd B n (ttl B n c) = 2
    · rw [if_pos c2]
      have g2 := tk_nz h1.2.1 (show tkd B n (ttl B n c) ≠ 0 by rw [c2]; decide)
      by_cases c3 : tmOk (tmW B n c) (nmV B n (ttl B n c))
      · rw [if_pos c3]
        exact ⟨show (0 : Nat) ≤ 2 by decide, h2.2.1, fun _ => by show c + 2 ≤ ttl B n (ttl B n c); omega⟩
      · rw [if_neg c3]
        exact ⟨show (2 : Nat) ≤ 2 by decide, h1.2.1, fun w => absurd (show (2 : Nat) = 0 from w) (by decide)⟩
    · rw [if_neg c2]
      exact ⟨show (1 : Nat) ≤ 2 by decide, h1.2.1, fun w => absurd (show (1 : Nat) = 0 from w) (by decide)⟩
def rowOk (r : Nat → Int32) : Prop := ∀ j, j < 11 → tmOk j (r j)
theorem rT_ok {B : Nat → Nat} {n c : Nat} {r : Nat → Int32} (h : rowOk r) : rowOk (rT B n r c).2.2 := by
  unfold rT
  by_cases c1 : tmW B n c = 0
  · rw [if_pos c1]; exact h
  · rw [if_neg c1]
    by_cases c2 : tkd B n (ttl B n c) = 2
    · rw [if_pos c2]
      by_cases c3 : tmOk (tmW B n c) (nmV B n (ttl B n c))
      · rw [if_pos c3]
        intro j hj
        show tmOk j (upd r _ _ j)
        by_cases q : j = tmW B n c
        · rw [q, upd_s]; exact c3
        · rw [upd_n q]; exact h j hj
      · rw [if_neg c3]; exact h
    · rw [if_neg c2]; exact h
noncomputable def tS (B : Nat → Nat) (n : Nat) : Nat → (Nat → Int32) → Nat → Nat × Nat × (Nat → Int32)
  | 0, r, c => (9, c, r)
  | k + 1, r, c => if tkd B n c = 3 then (0, c, r) else if (rT B n r c).1 = 0 then tS B n k (rT B n r c).2.2 (rT B n r c).2.1 else rT B n r c
noncomputable def dS (B : Nat → Nat) (n k : Nat) (r : Nat → Int32) (c : Nat) : Nat × Nat × (Nat → Int32) := if (rT B n r c).1 = 0 then tS B n k (rT B n r c).2.2 (rT B n r c).2.1 else rT B n r c
theorem tS_s {B : Nat → Nat} {n k c : Nat} {r : Nat → Int32} : tS B n (k + 1) r c = if tkd B n c = 3 then (0, c, r) else dS B n k r c := rfl
theorem tS_p {B : Nat → Nat} {n : Nat} : ∀ {k c : Nat} {r : Nat → Int32}, c ≤ n → n - c < k → (tS B n k r c).1 ≤ 2 ∧ (tS B n k r c).2.1 ≤ n ∧ c ≤ (tS B n k r c).2.1 ∧ ((tS B n k r c).1 = 0 → tkd B n (tS B n k r c).2.1 = 3) ∧ (rowOk r → rowOk (tS B n k r c).2.2)
  | 0, c, r, hc, h => absurd h (Nat.not_lt_zero _)
  | k + 1, c, r, hc, h => by
    rw [tS_s]
    by_cases c1 : tkd B n c = 3
    · rw [if_pos c1]
      exact ⟨show (0 : Nat) ≤ 2 by decide, hc, Nat.le_refl _, fun _ => c1, fun w => w⟩
    · rw [if_neg c1]
      have hp := rT_p (B := B) (r := r) hc
      unfold dS
      by_cases c2 : (rT B n r c).1 = 0
      · rw [if_pos c2]
        have := hp.2.2 c2
        obtain ⟨q1, q2, q3, q4, q5⟩ := tS_p (B := B) (k := k) (r := (rT B n r c).2.2) hp.2.1 (by omega)
        exact ⟨q1, q2, by omega, q4, fun w => q5 (rT_ok w)⟩
      · rw [if_neg c2]
        refine ⟨hp.1, hp.2.1, ?_, fun w => absurd w c2, rT_ok⟩
        unfold rT
        have h1 := ttl_b (B := B) hc
        have h2 := tfr_b (B := B) hc
        by_cases d1 : tmW B n c = 0
        · rw [if_pos d1]; exact Nat.le_refl _
        · rw [if_neg d1]
          by_cases d2 : tkd B n (ttl B n c) = 2
          · rw [if_pos d2]
            have h3 := ttl_b (B := B) h1.2.1
            have h4 := tfr_b (B := B) h1.2.1
            by_cases d3 : tmOk (tmW B n c) (nmV B n (ttl B n c))
            · rw [if_pos d3]; show c ≤ ttl B n (ttl B n c); omega
            · rw [if_neg d3]; show c ≤ ttl B n c; omega
          · rw [if_neg d2]; show c ≤ ttl B n c; omega
def endC (σ : qMem) (p : Nat) (B : Nat → Nat) (n : Nat) (q : Nat × Nat × (Nat → Int32)) : Int32 × qMem := (nI q.1, stC σ p q.2.2 B n (if q.1 = 0 then ttl B n q.2.1 else q.2.1))
theorem b86_c {f : Nat} {σ : qMem} {p n c w : Nat} {r : Nat → Int32} {B : Nat → Nat} (h : tcH σ n B) (hp : p < 12) (hc : c ≤ n) (hw : w ≤ 9) (hf : 1000 < f) : p_Deeds_readDeed_b86 f (stC σ p r B n c) (nI w) = some (endC σ p B n (w, c, r)) := by
  unfold p_Deeds_readDeed_b86 endC
  by_cases c1 : w = 0
  · rw [c1, if_pos (show nI 0 = 0 from rfl), stC_nx h hp hc hf, Option.bind_some, if_pos rfl]
  · rw [if_neg (show ¬ nI w = 0 from nI_ne0 (by omega) (by omega)), if_neg c1]
theorem l51_w {f fu : Nat} {σ : qMem} {p n c w : Nat} {r : Nat → Int32} {B : Nat → Nat} {x : Int32} (h : tcH σ n B) (hp : p < 12) (hc : c ≤ n) (hw : w ≤ 9) (hw0 : w ≠ 0) (hf : 1000 < f) : qfix3 (p_Deeds_readDeed_l51 f (nI p)) (fu + 1) (stC σ p r B n c) (nI w) x = some (endC σ p B n (w, c, r)) := by
  rw [qfix3_s]
  unfold p_Deeds_readDeed_l51
  rw [b86_c h hp hc hw hf, if_neg (show ¬ nI w = 0 from nI_ne0 (by omega) (by omega))]
  by_cases q : (500 : Int32) < x
  · rw [if_pos q]
  · rw [if_neg q]
theorem terms_c {f : Nat} {σ : qMem} {p n : Nat} {B : Nat → Nat} (h : tcH σ n B) (hp : p < 12) (hf : 1000 < f) : ∀ (k c j fu : Nat) (r : Nat → Int32), c ≤ n → n - c < k → j ≤ c → k + 2 ≤ fu → qfix3 (p_Deeds_readDeed_l51 f (nI p)) fu (stC σ p r B n c) 0 (nI j) = some (endC σ p B n (tS B n k r c))
  | 0, c, j, fu, r, hc, hk, hj, hfu => absurd hk (Nat.not_lt_zero _)
  | k + 1, c, j, fu, r, hc, hk, hj, hfu => by
    have hn := h.1
    have hk4 := tkd_4 (B := B) (n := n) (c := c)
    obtain ⟨fu', rfl⟩ : ∃ fu', fu = fu' + 1 + 1 := ⟨fu - 2, by omega⟩
    have hp3 := rT_p (B := B) (r := r) hc
    have hat := stC_at (r := r) h hp hc
    have hr := readTerm_c (f := f) (r := r) h hp hc hf
    have b0 := b86_c (f := f) (w := 0) (r := r) h hp hc (by omega) hf
    rw [show nI 0 = 0 from rfl] at b0
    rw [qfix3_s]
    have hw := fun (w : Nat) (c' : Nat) (r' : Nat → Int32) (hc' : c' ≤ n) (hw : w ≤ 9) (hw0 : w ≠ 0) (x : Int32) => l51_w (f := f) (fu := fu') (x := x) (r := r') h hp hc' hw hw0 hf
    have hi := fun (c' j' : Nat) (r' : Nat → Int32) (a1 : c' ≤ n) (a2 : n - c' < k) (a3 : j' ≤ c') => terms_c h hp hf k c' j' (fu' + 1) r' a1 a2 a3 (by omega)
    generalize qfix3 (p_Deeds_readDeed_l51 f (nI p)) (fu' + 1) = K at hw hi
    unfold p_Deeds_readDeed_l51
    rw [if_neg (show ¬ (500 : Int32) < nI j from nI_nlt (a := 500) (by omega) (by omega)), if_pos rfl, hat.2.2.1, tS_s]
    by_cases c1 : tkd B n c = 3
    · rw [if_pos c1, c1, if_pos (show nI 3 = 3 from rfl), b0]
    · rw [if_neg c1, if_neg (show ¬ nI (tkd B n c) = 3 from fun w => c1 ((nI_eq (a := tkd B n c) (b := 3) (by omega) (by omega)).mp w)), hr, Option.bind_some, nI_1]
      unfold dS
      by_cases c2 : (rT B n r c).1 = 0
      · have := hp3.2.2 c2
        rw [if_pos c2, c2]
        exact hi _ _ _ hp3.2.1 (by omega) (by omega)
      · rw [if_neg c2]
        exact hw _ _ _ hp3.2.1 (by omega) c2 _
/-! the model's loop of terms -/
theorem terms_m {f : Nat} {τ : qMem} {p n : Nat} {B : Nat → Nat} (h : bsM τ B n p) (hp : p < 12) (hf : 1000 < f) : ∀ (k c fu : Nat) (r : Nat → Int32), c ≤ n → n - c ≤ k → k + 3 ≤ fu → ((dS B n k r c).1 = 0 → qfix2 (p_M_readDeed_l154 f) fu (stM τ p r B n c) 1 = some (qmu (stM τ p (dS B n k r c).2.2 B n (ttl B n (dS B n k r c).2.1)) 104 17 (nI (p + 1)))) ∧ ((dS B n k r c).1 ≠ 0 → ∃ F, qfix2 (p_M_readDeed_l154 f) fu (stM τ p r B n c) 1 = some F ∧ flt τ F p (dS B n k r c).1 (tfr B n (dS B n k r c).2.1)) := by
  intro k
  induction k with
  | zero =>
    intro c fu r hc hk hfu
    have hcn : c = n := by omega
    have hp3 := rT_p (B := B) (r := r) hc
    have hne : (rT B n r c).1 ≠ 0 := fun w => by have := hp3.2.2 w; omega
    have hd : dS B n 0 r c = rT B n r c := by unfold dS; rw [if_neg hne]
    obtain ⟨F, e, hF⟩ := (readTerm_m (f := f) (r := r) h hp hc hf).2 hne
    rw [hd]
    refine ⟨fun w => absurd w hne, fun _ => ⟨qmu F 104 17 (F 104 17 + 1), ?_, ?_, ?_, ?_⟩⟩
    · obtain ⟨fu', rfl⟩ : ∃ fu', fu = fu' + 1 + 1 := ⟨fu - 2, by omega⟩
      have hF15 : ¬ F 104 15 = 0 := by rw [hF.1]; exact nI_ne0 (by omega) (by omega)
      have h2 : qfix2 (p_M_readDeed_l154 f) (fu' + 1) F 0 = some (qmu F 104 17 (F 104 17 + 1)) := by
        rw [qfix2_s]
        unfold p_M_readDeed_l154
        rw [if_pos rfl, if_neg hF15]
      rw [qfix2_s]
      generalize qfix2 (p_M_readDeed_l154 f) (fu' + 1) = K at h2
      unfold p_M_readDeed_l154
      rw [if_neg (by decide), e, Option.bind_some, if_neg hF15, h2]
    · rw [mu_j (by decide)]; exact hF.1
    · rw [mu_j (by decide)]; exact hF.2.1
    · exact agr_mu hF.2.2 (by unfold JK; omega)
  | succ k ih =>
    intro c fu r hc hk hfu
    have hp3 := rT_p (B := B) (r := r) hc
    obtain ⟨fu', rfl⟩ : ∃ fu', fu = fu' + 1 + 1 := ⟨fu - 2, by omega⟩
    have hr := readTerm_m (f := f) (r := r) h hp hc hf
    by_cases hw : (rT B n r c).1 = 0
    · have hge := hp3.2.2 hw
      have e := hr.1 hw
      have hat := stM_at (p := p) (r := (rT B n r c).2.2) h.1 hp3.2.1
      have s15 : (stM τ p (rT B n r c).2.2 B n (rT B n r c).2.1) 104 15 = 0 := by rw [stM_o (by omega) (by omega)]; exact h.2.1
      have s17 : ∀ c', (stM τ p (rT B n r c).2.2 B n c') 104 17 = nI p := fun c' => by rw [stM_o (by omega) (by omega)]; exact h.2.2
      have hk4 := tkd_4 (B := B) (n := n) (c := (rT B n r c).2.1)
      have hkm := kM_f _ (show tkd B n (rT B n r c).2.1 < 5 by omega)
      have hd : dS B n (k + 1) r c = if tkd B n (rT B n r c).2.1 = 3 then (0, (rT B n r c).2.1, (rT B n r c).2.2) else dS B n k (rT B n r c).2.2 (rT B n r c).2.1 := by
        unfold dS
        rw [if_pos hw, tS_s]
        rfl
      have hih := ih (rT B n r c).2.1 (fu' + 1) (rT B n r c).2.2 hp3.2.1 (by omega) (by omega)
      have h1 : ∀ K : qMem → Int32 → Option qMem, p_M_readDeed_l154 f K (stM τ p r B n c) 1 = if tmW B n (rT B n r c).2.1 = 0 then K (stM τ p (rT B n r c).2.2 B n (rT B n r c).2.1) 0 else K (stM τ p (rT B n r c).2.2 B n (rT B n r c).2.1) 1 := by
        intro K
        unfold p_M_readDeed_l154
        rw [if_neg (by decide), e, Option.bind_some, if_pos s15, term_m hat hf, Option.bind_some]
        unfold tmV
        have ht10 := tmW_le (B := B) (n := n) (c := (rT B n r c).2.1)
        by_cases q : tmW B n (rT B n r c).2.1 = 0
        · rw [if_pos q, if_pos q, if_pos rfl]
        · rw [if_neg q, if_neg q, if_neg (nI_nn (by omega))]
      rw [qfix2_s, h1, hd]
      by_cases q : tmW B n (rT B n r c).2.1 = 0
      · rw [if_pos q, qfix2_s]
        by_cases c3 : tkd B n (rT B n r c).2.1 = 3
        · rw [if_pos c3]
          refine ⟨fun _ => ?_, fun w => absurd rfl w⟩
          unfold p_M_readDeed_l154 p_M_readDeed_b210
          rw [if_pos rfl, if_pos s15, hat.2.2.1, if_pos (hkm.2.2.1.mpr c3), need_1 s15, stM_nx h.1 hp3.2.1 hf, Option.bind_some, s17, nI_1]
        · rw [if_neg c3]
          have hdd : dS B n k (rT B n r c).2.2 (rT B n r c).2.1 = (1, (rT B n r c).2.1, (rT B n r c).2.2) := by
            unfold dS
            rw [rT_0 q, if_neg (show ¬ (1 : Nat) = 0 by decide)]
          rw [hdd]
          refine ⟨fun w => absurd (show (1 : Nat) = 0 from w) (by decide), fun _ => ⟨_, by
            unfold p_M_readDeed_l154 p_M_readDeed_b210
            rw [if_pos rfl, if_pos s15, hat.2.2.1, if_neg (fun w => c3 (hkm.2.2.1.mp w)), need_0 s15, Option.bind_some], ?_, ?_, ?_⟩⟩
          · rw [mu_j (by decide), mu_j (by decide), mu_s]; rfl
          · rw [mu_j (by decide), mu_s, hat.2.2.2.1]
          · exact agr_mu (agr_mu (agr_mu stM_jk (by unfold JK; omega)) (by unfold JK; omega)) (by unfold JK; omega)
      · rw [if_neg q, if_neg (show ¬ tkd B n (rT B n r c).2.1 = 3 by rw [tmW_k q]; decide)]
        exact hih
    · have hd : dS B n (k + 1) r c = rT B n r c := by unfold dS; rw [if_neg hw]
      obtain ⟨F, e, hF⟩ := hr.2 hw
      rw [hd]
      refine ⟨fun w => absurd w hw, fun _ => ⟨qmu F 104 17 (F 104 17 + 1), ?_, ?_, ?_, ?_⟩⟩
      · have hF15 : ¬ F 104 15 = 0 := by rw [hF.1]; exact nI_ne0 (by omega) (by omega)
        have h2 : qfix2 (p_M_readDeed_l154 f) (fu' + 1) F 0 = some (qmu F 104 17 (F 104 17 + 1)) := by
          rw [qfix2_s]
          unfold p_M_readDeed_l154
          rw [if_pos rfl, if_neg hF15]
        rw [qfix2_s]
        generalize qfix2 (p_M_readDeed_l154 f) (fu' + 1) = K at h2
        unfold p_M_readDeed_l154
        rw [if_neg (by decide), e, Option.bind_some, if_neg hF15, h2]
      · rw [mu_j (by decide)]; exact hF.1
      · rw [mu_j (by decide)]; exact hF.2.1
      · exact agr_mu hF.2.2 (by unfold JK; omega)
