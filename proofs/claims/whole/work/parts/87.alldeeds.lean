/-! all deeds of a tape -/
noncomputable def dL (B : Nat → Nat) (n : Nat) : Nat → Nat → Nat → (Nat → Nat → Int32) → Nat × Nat × Nat × (Nat → Nat → Int32)
  | 0, c, p, R => (9, c, p, R)
  | k + 1, c, p, R => if tkd B n c = 0 then (0, c, p, R) else if (dD B n (R p) p c).1 = 0 then dL B n k (dD B n (R p) p c).2.1 (p + 1) (fun q => if q = p then (dD B n (R p) p c).2.2 else R q) else ((dD B n (R p) p c).1, (dD B n (R p) p c).2.1, p, R)
theorem dL_s {B : Nat → Nat} {n k c p : Nat} {R : Nat → Nat → Int32} : dL B n (k + 1) c p R = if tkd B n c = 0 then (0, c, p, R) else if (dD B n (R p) p c).1 = 0 then dL B n k (dD B n (R p) p c).2.1 (p + 1) (fun q => if q = p then (dD B n (R p) p c).2.2 else R q) else ((dD B n (R p) p c).1, (dD B n (R p) p c).2.1, p, R) := rfl
theorem dL_lt {B : Nat → Nat} {n : Nat} : ∀ {k c p : Nat} {R : Nat → Nat → Int32} {q : Nat}, q < p → (dL B n k c p R).2.2.2 q = R q
  | 0, _, _, _, _, _ => rfl
  | k + 1, c, p, R, q, hq => by
    rw [dL_s]
    by_cases c1 : tkd B n c = 0
    · rw [if_pos c1]
    · rw [if_neg c1]
      by_cases c2 : (dD B n (R p) p c).1 = 0
      · rw [if_pos c2, dL_lt (show q < p + 1 by omega), if_neg (by omega)]
      · rw [if_neg c2]
theorem l19_w {f fu : Nat} {σ : qMem} {w : Nat} {x y : Int32} (hw : w ≤ 9) (hw0 : w ≠ 0) : qfix4 (p_Deeds_read_l19 f) (fu + 1) σ x (nI w) y = some (-1000100 - σ 27 4, qmu (qmu σ 27 1 0) 27 2 (nI w)) := by
  rw [qfix4_s]
  unfold p_Deeds_read_l19 p_Deeds_read_b54
  have hne : ¬ nI w = 0 := nI_ne0 (by omega) (by omega)
  rw [if_neg hne, if_neg hne, mu_j (by decide), mu_j (by decide)]
  by_cases q : (500 : Int32) < y
  · rw [if_pos q]
  · rw [if_neg q]
theorem read_c {f : Nat} {n : Nat} {B : Nat → Nat} (hn : n ≤ 500) (hf : 1000 < f) : ∀ (k c p j fu : Nat) (σ : qMem) (R : Nat → Nat → Int32), atC σ B n c → p ≤ 12 → n - c < k → j ≤ c → k + 2 ≤ fu → (∀ q, p ≤ q → q < 12 → R q = σ (15 + q)) → ((dL B n k c p R).1 = 0 → (dL B n k c p R).2.2.1 ≤ 12 ∧ p ≤ (dL B n k c p R).2.2.1 ∧ ∃ σ', qfix4 (p_Deeds_read_l19 f) fu σ (nI p) 0 (nI j) = some (nI (dL B n k c p R).2.2.1, qmu (qmu σ' 27 1 0) 13 1 (nI (dL B n k c p R).2.2.1)) ∧ agr (JC p) σ σ' ∧ ∀ q, p ≤ q → q < (dL B n k c p R).2.2.1 → σ' (15 + q) = (dL B n k c p R).2.2.2 q ∧ rowOk ((dL B n k c p R).2.2.2 q)) ∧ ((dL B n k c p R).1 ≠ 0 → (dL B n k c p R).1 ≤ 3 ∧ ∃ σ', qfix4 (p_Deeds_read_l19 f) fu σ (nI p) 0 (nI j) = some (-1000100 - nI (tfr B n (dL B n k c p R).2.1), qmu (qmu σ' 27 1 0) 27 2 (nI (dL B n k c p R).1)) ∧ agr (JC p) σ σ')
  | 0, c, p, j, fu, σ, R, h, hp, hk, hj, hfu, hR => absurd hk (Nat.not_lt_zero _)
  | k + 1, c, p, j, fu, σ, R, h, hp, hk, hj, hfu, hR => by
    have hc := h.2.1
    have hk4 := tkd_4 (B := B) (n := n) (c := c)
    obtain ⟨fu', rfl⟩ : ∃ fu', fu = fu' + 1 + 1 := ⟨fu - 2, by omega⟩
    rw [dL_s]
    by_cases c1 : tkd B n c = 0
    · rw [if_pos c1]
      refine ⟨fun _ => ⟨hp, Nat.le_refl _, σ, ?_, agr_rf, fun q a b => absurd b (by show ¬ q < p; omega)⟩, fun w => absurd rfl w⟩
      rw [qfix4_s]
      unfold p_Deeds_read_l19 p_Deeds_read_b54 p_Promises_keep
      rw [if_neg (show ¬ (500 : Int32) < nI j from nI_nlt (a := 500) (by omega) (by omega)), if_pos rfl, h.2.2.1, c1, if_pos (show nI 0 = 0 from rfl), if_pos rfl, Option.bind_some, if_neg (show ¬ (12 : Int32) < nI p from nI_nlt (a := 12) (by omega) (by omega))]
    · rw [if_neg c1]
      have hRp : p < 12 → R p = σ (15 + p) := fun w => hR p (Nat.le_refl _) w
      have hdd : dD B n (R p) p c = dD B n (σ (15 + p)) p c ∨ ¬ p < 12 := by
        by_cases w : p < 12
        · left; rw [hRp w]
        · exact Or.inr w
      have hd := deed_c (f := f) h hp hf
      have hdp := dD_p (B := B) (p := p) (g := R p) hc
      have hne : ¬ nI (tkd B n c) = 0 := nI_ne0 (by omega) (by omega)
      have h1 : ∀ (K : qMem → Int32 → Int32 → Int32 → Option (Int32 × qMem)), p_Deeds_read_l19 f K σ (nI p) 0 (nI j) = (p_Deeds_readDeed f σ (nI p)).bind fun u3 => K u3.2 (nI (p + 1)) u3.1 (nI (j + 1)) := by
        intro K
        unfold p_Deeds_read_l19
        rw [if_neg (show ¬ (500 : Int32) < nI j from nI_nlt (a := 500) (by omega) (by omega)), if_pos rfl, h.2.2.1, if_neg hne, nI_1, nI_1]
      have hsame : (dD B n (R p) p c).1 = (dD B n (σ (15 + p)) p c).1 ∧ (dD B n (R p) p c).2.1 = (dD B n (σ (15 + p)) p c).2.1 := by
        rcases hdd with e | e
        · rw [e]; exact ⟨rfl, rfl⟩
        · unfold dD
          rw [if_neg e, if_neg e]
          by_cases w : wR B n c = wdR 0 ∨ wR B n c = wdR 1
          · rw [if_pos w, if_pos w]; exact ⟨rfl, rfl⟩
          · rw [if_neg w, if_neg w]; exact ⟨rfl, rfl⟩
      by_cases c2 : (dD B n (R p) p c).1 = 0
      · obtain ⟨p12, cge, rok⟩ := hdp.2.2 c2
        have hdd' : dD B n (R p) p c = dD B n (σ (15 + p)) p c := hdd.resolve_right (fun w => w p12)
        rw [if_pos c2]
        have e := hd.1 (by rw [← hdd']; exact c2)
        rw [← hdd'] at e
        have hat : atC (stC σ p (dD B n (R p) p c).2.2 B n (dD B n (R p) p c).2.1) B n (dD B n (R p) p c).2.1 := stC_at h.1 p12 hdp.2.1
        have hR1 : ∀ q, p + 1 ≤ q → q < 12 → (fun q => if q = p then (dD B n (R p) p c).2.2 else R q) q = stC σ p (dD B n (R p) p c).2.2 B n (dD B n (R p) p c).2.1 (15 + q) := by
          intro q a b
          show (if q = p then (dD B n (R p) p c).2.2 else R q) = _
          rw [if_neg (by omega), hR q (by omega) b]
          funext x
          rw [stC_o (by omega) (by omega)]
        have ih := read_c hn hf k (dD B n (R p) p c).2.1 (p + 1) (j + 1) (fu' + 1) _ (fun q => if q = p then (dD B n (R p) p c).2.2 else R q) hat (by omega) (by omega) (by omega) (by omega) hR1
        have hlt := dL_lt (B := B) (n := n) (k := k) (c := (dD B n (R p) p c).2.1) (p := p + 1) (R := fun q => if q = p then (dD B n (R p) p c).2.2 else R q) (q := p) (by omega)
        rw [if_pos rfl] at hlt
        rw [qfix4_s, h1, e, Option.bind_some]
        have hjm : ∀ a b, JC (p + 1) a b → JC p a b := fun a b w => by unfold JC at w ⊢; omega
        refine ⟨fun w => ?_, fun w => ?_⟩
        · obtain ⟨a1, a2, σ', a3, a4, a5⟩ := ih.1 w
          refine ⟨a1, by omega, σ', a3, agr_tr (stC_jc p12) (agr_mono a4 hjm), fun q b1 b2 => ?_⟩
          by_cases eq : q = p
          · subst eq
            rw [hlt]
            refine ⟨?_, rok⟩
            funext x
            rw [a4 (15 + q) x (by unfold JC; omega)]
            exact if_pos rfl
          · exact a5 q (by omega) b2
        · obtain ⟨a1, σ', a3, a4⟩ := ih.2 w
          exact ⟨a1, σ', a3, agr_tr (stC_jc p12) (agr_mono a4 hjm)⟩
      · rw [if_neg c2]
        refine ⟨fun w => absurd w c2, fun _ => ⟨hdp.1, ?_⟩⟩
        obtain ⟨σ', e, e4, ag⟩ := hd.2 (by rw [← hsame.1]; exact c2)
        rw [← hsame.1, ← hsame.2] at *
        refine ⟨σ', ?_, ag⟩
        rw [qfix4_s, h1, e, Option.bind_some]
        have := l19_w (f := f) (fu := fu') (σ := σ') (w := (dD B n (R p) p c).1) (x := nI (p + 1)) (y := nI (j + 1)) (by omega) c2
        rw [e4] at this
        exact this
theorem read_m {f : Nat} {n : Nat} {B : Nat → Nat} (hf : 1000 < f) : ∀ (k c p fu : Nat) (τ : qMem) (R : Nat → Nat → Int32), bsM τ B n p → atM τ B n c → p ≤ 12 → n - c < k → k + 2 ≤ fu → ((dL B n k c p R).1 = 0 → ∃ τ', qfix1 (p_M_deeds_l40 f) fu τ = p_M_deeds_b62 f τ' ∧ τ' 104 15 = 0 ∧ τ' 104 17 = nI (dL B n k c p R).2.2.1 ∧ agr (JK p) τ τ' ∧ ∀ q, p ≤ q → q < (dL B n k c p R).2.2.1 → ∀ j, j < 11 → τ' 108 (11 * q + j) = (dL B n k c p R).2.2.2 q j) ∧ ((dL B n k c p R).1 ≠ 0 → ∃ F, qfix1 (p_M_deeds_l40 f) fu τ = some (-1000100 - nI (tfr B n (dL B n k c p R).2.1), qmu F 104 9 (nI (dL B n k c p R).1)) ∧ agr (JK p) τ F)
  | 0, c, p, fu, τ, R, hb, h, hp, hk, hfu => absurd hk (Nat.not_lt_zero _)
  | k + 1, c, p, fu, τ, R, hb, h, hp, hk, hfu => by
    have hc := h.2.1
    have hk4 := tkd_4 (B := B) (n := n) (c := c)
    have hkm := kM_f _ (show tkd B n c < 5 by omega)
    obtain ⟨fu', rfl⟩ : ∃ fu', fu = fu' + 1 + 1 := ⟨fu - 2, by omega⟩
    rw [dL_s]
    by_cases c1 : tkd B n c = 0
    · rw [if_pos c1]
      refine ⟨fun _ => ⟨τ, ?_, hb.2.1, hb.2.2, agr_rf, fun q a b => absurd b (by show ¬ q < p; omega)⟩, fun w => absurd rfl w⟩
      rw [qfix1_s]
      unfold p_M_deeds_l40
      rw [if_pos hb.2.1, h.2.2.1, if_pos (hkm.2.2.2.mpr c1)]
    · rw [if_neg c1]
      have hd := deed_m (f := f) (g := R p) hb h hp hf
      have hdp := dD_p (B := B) (p := p) (g := R p) hc
      have h1 : ∀ (K : qMem → Option (Int32 × qMem)), p_M_deeds_l40 f K τ = (p_M_readDeed f τ).bind fun u2 => K u2 := by
        intro K
        unfold p_M_deeds_l40
        rw [if_pos hb.2.1, h.2.2.1, if_neg (fun w => c1 (hkm.2.2.2.mp w))]
      by_cases c2 : (dD B n (R p) p c).1 = 0
      · obtain ⟨p12, cge, rok⟩ := hdp.2.2 c2
        rw [if_pos c2]
        obtain ⟨r', er, e⟩ := hd.1 c2
        have hs := stM_at (p := p) (r := r') h.1 hdp.2.1
        have k17 : ∀ a b, ¬ (a = 104 ∧ b = 17) → (qmu (stM τ p r' B n (dD B n (R p) p c).2.1) 104 17 (nI (p + 1))) a b = stM τ p r' B n (dD B n (R p) p c).2.1 a b := fun a b hne => if_neg hne
        have hat : atM (qmu (stM τ p r' B n (dD B n (R p) p c).2.1) 104 17 (nI (p + 1))) B n (dD B n (R p) p c).2.1 := by
          refine ⟨⟨hs.1.1, by rw [k17 _ _ (by omega)]; exact hs.1.2.1, fun i hi => ⟨(hs.1.2.2 i hi).1, by rw [k17 _ _ (by omega)]; exact (hs.1.2.2 i hi).2⟩⟩, hs.2.1, ?_, ?_, ?_, ?_⟩
          · rw [k17 _ _ (by omega)]; exact hs.2.2.1
          · rw [k17 _ _ (by omega)]; exact hs.2.2.2.1
          · rw [k17 _ _ (by omega)]; exact hs.2.2.2.2.1
          · rw [k17 _ _ (by omega)]; exact hs.2.2.2.2.2
        have hbs : bsM (qmu (stM τ p r' B n (dD B n (R p) p c).2.1) 104 17 (nI (p + 1))) B n (p + 1) := by
          refine ⟨hat.1, ?_, mu_s⟩
          rw [k17 _ _ (by omega), stM_o (by omega) (by omega)]; exact hb.2.1
        have ih := read_m hf k (dD B n (R p) p c).2.1 (p + 1) (fu' + 1) _ (fun q => if q = p then (dD B n (R p) p c).2.2 else R q) hbs hat (by omega) (by omega) (by omega)
        have hlt := dL_lt (B := B) (n := n) (k := k) (c := (dD B n (R p) p c).2.1) (p := p + 1) (R := fun q => if q = p then (dD B n (R p) p c).2.2 else R q) (q := p) (by omega)
        rw [if_pos rfl] at hlt
        rw [qfix1_s, h1, e, Option.bind_some]
        have hjm : ∀ a b, JK (p + 1) a b → JK p a b := fun a b w => by unfold JK at w ⊢; omega
        have ag1 : agr (JK p) τ (qmu (stM τ p r' B n (dD B n (R p) p c).2.1) 104 17 (nI (p + 1))) := agr_mu stM_jk (by unfold JK; omega)
        refine ⟨fun w => ?_, fun w => ?_⟩
        · obtain ⟨τ', a1, a2, a3, a4, a5⟩ := ih.1 w
          refine ⟨τ', a1, a2, a3, agr_tr ag1 (agr_mono a4 hjm), fun q b1 b2 j hj => ?_⟩
          by_cases eq : q = p
          · subst eq
            rw [hlt, a4 108 (11 * q + j) (by unfold JK; omega), k17 _ _ (by omega), ← er j hj]
            unfold stM
            rw [if_pos (by omega), Nat.add_sub_cancel_left]
          · exact a5 q (by omega) b2 j hj
        · obtain ⟨F, a1, a2⟩ := ih.2 w
          exact ⟨F, a1, agr_tr ag1 (agr_mono a2 hjm)⟩
      · rw [if_neg c2]
        refine ⟨fun w => absurd w c2, fun _ => ?_⟩
        obtain ⟨F, e, hF⟩ := hd.2 c2
        refine ⟨F, ?_, hF.2.2⟩
        rw [qfix1_s, h1, e, Option.bind_some, qfix1_s]
        unfold p_M_deeds_l40 p_M_deeds_b62
        have hw := hdp.1
        have hne : ¬ F 104 15 = 0 := by rw [hF.1]; exact nI_ne0 (by omega) (by omega)
        rw [if_neg hne, hF.1, if_neg (nI_nle (by omega) (by omega)), mu_j (by decide), hF.2.1]
