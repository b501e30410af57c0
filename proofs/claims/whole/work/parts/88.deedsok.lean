/-! deeds: what stands after them -/
theorem stands_cr {σ σ' : qMem} {n np nA nS : Nat} {ord : Nat → Nat} {g : Nat → Int32} (h9 : lnOk σ n np) (hnp : np ≤ 12) (ho : ∀ i, i < n → ord i < n) (hr : ∀ p, p < np → σ' (15 + p) = σ (15 + p)) (c : ∀ k, ((43 ≤ k ∧ k ≤ 45) ∨ (34 ≤ k ∧ k ≤ 36) ∨ (38 ≤ k ∧ k ≤ 41) ∨ k = 32) → σ' k = σ k) {i : Nat} (hi : i < n) : stands σ' g ord nA nS i ↔ stands σ g ord nA nS i := by
  have c43 := c 43 (by omega)
  have c44 := c 44 (by omega)
  have c45 := c 45 (by omega)
  have hlp : ∀ l, lp σ' l = lp σ l := fun l => by unfold lp; rw [c43]
  have hlt : ∀ l, l < n → lp σ l < np := fun l hl => by
    obtain ⟨⟨p, hp, e⟩, -⟩ := h9 l hl
    unfold lp
    rw [e, qi_nI (by omega)]
    omega
  have hrow : ∀ l, l < n → σ' (15 + lp σ l) = σ (15 + lp σ l) := fun l hl => hr _ (hlt l hl)
  have hpr : ∀ l, l < n → lpr σ' l = lpr σ l := fun l hl => by unfold lpr; rw [hlp, hrow l hl]
  have hal : ∀ l, l < n → lal σ' l = lal σ l := fun l hl => by unfold lal; rw [hlp, hrow l hl]
  have hcnt : ∀ l, l < n → ∀ i, i ≤ n → cntG σ' g ord l i = cntG σ g ord l i := by
    intro l hl i
    induction i with
    | zero => intro _; rfl
    | succ i ih =>
      intro hi
      unfold cntG
      rw [ih (by omega), c44, hpr _ (ho i (by omega)), hpr l hl]
  have hoi := ho i hi
  unfold stands stB clashG endP tkBy
  rw [hcnt _ hoi i (by omega), hpr _ hoi, hal _ hoi, hlp, hrow _ hoi, c44, c45, c 32 (by omega), tkN_cg (hrow _ hoi) (c 38 (by omega)) (c 39 (by omega)) (c 40 (by omega)) (c 41 (by omega))]
  have hs : ∀ x d, anyI (sickB σ' x d) nS 0 = anyI (sickB σ x d) nS 0 := fun x d => anyI_cg nS 0 (fun j _ _ => by unfold sickB; rw [c 34 (by omega), c 35 (by omega), c 36 (by omega)])
  rw [hs]
  have hcl : (∃ j, j < i ∧ g (ord j) = 1 ∧ σ 44 (ord j) = σ 44 (ord i) ∧ σ 45 (ord j) = σ 45 (ord i) ∧ (lpr σ' (ord j) = lpr σ (ord i) ∨ lal σ' (ord j) = lal σ (ord i))) ↔ ∃ j, j < i ∧ g (ord j) = 1 ∧ σ 44 (ord j) = σ 44 (ord i) ∧ σ 45 (ord j) = σ 45 (ord i) ∧ (lpr σ (ord j) = lpr σ (ord i) ∨ lal σ (ord j) = lal σ (ord i)) := by
    constructor
    · rintro ⟨j, a1, a2⟩
      rw [hpr _ (ho j (by omega)), hal _ (ho j (by omega))] at a2
      exact ⟨j, a1, a2⟩
    · rintro ⟨j, a1, a2⟩
      refine ⟨j, a1, ?_⟩
      rw [hpr _ (ho j (by omega)), hal _ (ho j (by omega))]
      exact a2
  rw [hcl]
def PD (np a b : Nat) : Prop := a = 27 ∨ (15 + np ≤ a ∧ a ≤ 26) ∨ (a = 13 ∧ b = 1) ∨ (a = 104 ∧ (b = 0 ∨ b = 5 ∨ b = 8 ∨ b = 9 ∨ (10 ≤ b ∧ b ≤ 17))) ∨ (a = 108 ∧ 11 * np ≤ b) ∨ (a = 133 ∧ np ≤ b)
theorem deeds_inv {σ F : qMem} (h : Inv σ) {np p' : Nat} (hnp : np ≤ 12) (e13 : σ 13 1 = nI np) (hp1 : np ≤ p') (hp2 : p' ≤ 12) (ha : agr (PD np) σ F) (f1 : F 27 1 = 0) (f2 : F 104 8 = 0) (f3 : F 27 2 = F 104 9) (f4 : F 13 1 = nI p') (f5 : F 104 5 = nI p') (f6 : ∀ q, np ≤ q → q < p' → ∀ j, j < 11 → F (15 + q) j = F 108 (11 * q + j) ∧ tmOk j (F (15 + q) j)) (f7 : ∀ q, np ≤ q → q < p' → F 133 q = -1000000) : Inv F := by
  have ck : ∀ k, ((k < 13 ∨ k = 14 ∨ (28 ≤ k ∧ k ≤ 103) ∨ (105 ≤ k ∧ k ≤ 146)) ∧ k ≠ 108 ∧ k ≠ 133) → F k = σ k := fun k hk => funext fun j => ha k j (by unfold PD; omega)
  have crow : ∀ p, p < np → F (15 + p) = σ (15 + p) := fun p hp => funext fun j => ha _ j (by unfold PD; omega)
  refine ⟨h.tr.fr ha ?_, h.dy.fr ha ?_, h.fi.fr ha ?_, f3, h.sh.fr ha ?_, ?_, ?_, h.vo.fr ha ?_, h.si.fr ha ?_, h.ac.fr ha ?_, h.ho.fr ha ?_, h.re.fr ha ?_, h.em.fr ha ?_, h.bi.fr ha ?_, h.pc.fr ha ?_, ?_, h.fe.fr ha ?_, ?_, ?_⟩
  · intro k j; unfold PD; omega
  · intro k j; unfold PD; omega
  · intro k j; unfold PD; omega
  · intro k j; unfold PD; omega
  · refine ⟨p', hp2, f4, f5, fun p hp j hj => ?_⟩
    by_cases c : p < np
    · obtain ⟨m, m1, m2, m3, m4⟩ := h.pr
      have : m = np := (nI_eq (by omega) (by omega)).mp (m2.symm.trans e13)
      subst this
      rw [crow p c, ha 108 (11 * p + j) (by unfold PD; omega)]
      exact m4 p c j hj
    · exact f6 p (by omega) hp j hj
  · refine ⟨⟨0, by omega, f1, f2⟩, ?_⟩
    rw [ck 28 (by omega), ck 109 (by omega)]
    exact h.tp.2
  · intro k j; unfold PD; omega
  · intro k j; unfold PD; omega
  · intro k j; unfold PD; omega
  · intro k j; unfold PD; omega
  · intro k j; unfold PD; omega
  · intro k j; unfold PD; omega
  · intro k j; unfold PD; omega
  · intro k j; unfold PD; omega
  · obtain ⟨a1, a2, m, m1, m2, m3⟩ := h.na
    have : m = np := (nI_eq (by omega) (by omega)).mp (m2.symm.trans e13)
    subst this
    refine ⟨by rw [ck 69 (by omega), ck 134 (by omega)]; exact a1, fun p i hp hi => ?_, p', hp2, f4, fun p hp => ?_⟩
    · rw [ck (71 + p) (by omega), ck (84 + p) (by omega), ck 135 (by omega)]
      exact a2 p i hp hi
    · obtain ⟨b1, b2, b3⟩ := m3 p hp
      rw [ck 68 (by omega), ck 69 (by omega), ck (84 + p) (by omega)]
      refine ⟨fun w => ?_, ?_, b3⟩
      · by_cases c : p < m
        · rw [ha 133 p (by unfold PD; omega)]
          exact b1 c
        · rw [f7 p (by omega) w]
          rcases b2 with ⟨d, d1, -⟩ | d
          · exact absurd d1 c
          · exact d
      · rcases b2 with ⟨d, d1, d2, d3⟩ | d
        · exact Or.inl ⟨d, by omega, d2, d3⟩
        · exact Or.inr d
  · intro k j; unfold PD; omega
  · obtain ⟨e1, e2, e3, n, m, m1, m2, m3, m4, m5, m6, m7⟩ := h.jo
    have : m = np := (nI_eq (by omega) (by omega)).mp (m5.symm.trans e13)
    subst this
    unfold g_jo
    rw [ck 49 (by omega), ck 50 (by omega), ck 51 (by omega), ck 52 (by omega), ck 120 (by omega), ck 121 (by omega), ck 122 (by omega), ck 123 (by omega), ck 48 (by omega), ha 104 31 (by unfold PD; omega), f4]
    refine ⟨e1, e2, e3, n, p', m1, m2, m3, hp2, rfl, fun i hi => ?_, m7⟩
    obtain ⟨⟨a, b, a1, a2, a3⟩, a4⟩ := m6 i hi
    exact ⟨⟨a, b, by omega, by omega, a3⟩, a4⟩
  · obtain ⟨h1, h2, h3, n, m, nA, nS, ord, k1, k2, k3, k4, k5, k6, k7, k8, k9, k10, k11, k12⟩ := h.li
    have : m = np := (nI_eq (by omega) (by omega)).mp (k5.symm.trans e13)
    subst this
    have hln : lnOk F n p' := by
      unfold lnOk
      rw [ck 43 (by omega), ck 44 (by omega), ck 45 (by omega)]
      intro i hi
      obtain ⟨⟨p, hp, e⟩, r⟩ := k10 i hi
      exact ⟨⟨p, by omega, e⟩, r⟩
    have hor : ordOk F ord n := by
      unfold ordOk lkey
      rw [ck 47 (by omega), ck 44 (by omega), ck 45 (by omega)]
      exact k11
    refine ⟨by rw [ck 43 (by omega), ck 112 (by omega)]; exact h1, by rw [ck 44 (by omega), ck 113 (by omega)]; exact h2, by rw [ck 45 (by omega), ck 114 (by omega)]; exact h3, n, p', nA, nS, ord, k1, by rw [ck 42 (by omega)]; exact k2, by rw [ha 104 21 (by unfold PD; omega)]; exact k3, hp2, f4, k6, by rw [ck 37 (by omega)]; exact k7, k8, by rw [ck 33 (by omega)]; exact k9, hln, hor, fun i hi => ?_⟩
    rw [ck 46 (by omega), stands_cr (σ := σ) k10 hnp (fun i hi => (k11.1 i hi).1) crow (fun k hk => ck k (by omega)) hi]
    exact k12 i hi
def vrM (τ : qMem) (np p' : Nat) : qMem := fun a b => if a = 133 ∧ np ≤ b ∧ b < p' then -1000000 else τ a b
theorem vrM_o {τ : qMem} {np p' a b : Nat} (h : ¬ (a = 133 ∧ np ≤ b ∧ b < p')) : vrM τ np p' a b = τ a b := if_neg h
theorem vrM_s {τ : qMem} {np p' b : Nat} (h1 : np ≤ b) (h2 : b < p') : vrM τ np p' 133 b = -1000000 := if_pos ⟨rfl, h1, h2⟩
theorem l91_run {f : Nat} {τ : qMem} {np p' : Nat} (h17 : τ 104 17 = nI p') (hp1 : np ≤ p') (hp2 : p' ≤ 12) (hf : 100 < f) : qfix2 (p_M_deeds_l91 f) f τ (nI np) = some (nI p', qmu (vrM τ np p') 104 5 (nI p')) := by
  have h0 : τ = vrM τ np (np + 0) := by
    funext a b
    rw [vrM_o (by omega)]
  conv => lhs; rw [h0]
  refine run2x (n := p' - np) (f := f) (fun t => vrM τ np (np + t)) (fun t => nI (np + t)) (by omega) (fun k => ?_) (fun k t ht => ?_)
  · unfold p_M_deeds_l91
    rw [show np + (p' - np) = p' by omega, vrM_o (by omega), h17, if_pos (nI_le (Nat.le_refl _) (by omega)), mu_s]
  · unfold p_M_deeds_l91
    rw [vrM_o (by omega), h17, if_neg (nI_ge (by omega) (by omega)), if_pos (qin_nI (by omega) (by omega)), qi_nI (by omega), nI_1, Nat.add_assoc]
    congr 1
    funext a b
    unfold qmu
    by_cases c1 : a = 133 ∧ b = np + t
    · rw [if_pos c1, c1.1, vrM_s (by omega) (by omega)]
    · rw [if_neg c1]
      by_cases c2 : a = 133 ∧ np ≤ b ∧ b < np + t
      · rw [c2.1, vrM_s (by omega) (by omega), vrM_s (by omega) (by omega)]
      · rw [vrM_o c2, vrM_o (by omega)]
def iniM (σ : qMem) (n np : Nat) : qMem := qmu (qmu (qmu (qmu (qmu (qmu σ 104 0 0) 104 10 (nI n)) 104 8 0) 104 11 0) 104 15 0) 104 17 (nI np)
theorem iniM_o {σ : qMem} {n np a b : Nat} (h : ¬ (a = 104 ∧ (b = 0 ∨ b = 8 ∨ b = 10 ∨ b = 11 ∨ b = 15 ∨ b = 17))) : iniM σ n np a b = σ a b := by
  unfold iniM qmu
  rw [if_neg (by omega), if_neg (by omega), if_neg (by omega), if_neg (by omega), if_neg (by omega), if_neg (by omega)]
theorem deeds_ok {f : Nat} {σ : qMem} (h : Inv σ) (hf : 1000 < f) : PairW (p_C_deeds f σ) (fun s => p_M_deeds f s) := by
  obtain ⟨np, hnp, e13, e5⟩ := h.pn
  obtain ⟨⟨n, hn, t1, t2⟩, hby⟩ := h.tp
  have hB : ∀ i, i < 500 → (fun i => qi (σ 109 i)) i < 256 ∧ σ 109 i = nI ((fun i => qi (σ 109 i)) i) ∧ σ 28 i = sgB ((fun i => qi (σ 109 i)) i) := by
    intro i hi
    obtain ⟨b1, b2⟩ := hby i hi
    obtain ⟨v, hv, e⟩ := rg_nat (b := 255) b2
    show qi (σ 109 i) < 256 ∧ σ 109 i = nI (qi (σ 109 i)) ∧ σ 28 i = sgB (qi (σ 109 i))
    rw [b1, e, qi_nI (by omega)]
    exact ⟨by omega, rfl, rfl⟩
  generalize hBd : (fun i => qi (σ 109 i)) = B at hB
  -- the first token
  have tc : tcH (qmu σ 27 5 0) n B := ⟨hn, by rw [mu_j (by decide)]; exact t1, fun i hi => ⟨(hB i (by omega)).1, by rw [mu_k (by decide)]; exact (hB i (by omega)).2.2⟩⟩
  have tok := tok_c (f := f) (c := 0) tc (by rw [mu_s]; rfl) (Nat.zero_le _) hf
  have at0 : atC (tk3 (qmu σ 27 5 0) (nI (tkd B n 0)) (nI (tfr B n 0)) (nI (ttl B n 0))) B n 0 := by
    refine ⟨⟨hn, ?_, fun i hi => ⟨(hB i (by omega)).1, ?_⟩⟩, Nat.zero_le _, ?_, ?_, ?_⟩
    · unfold tk3; rw [if_neg (by omega), if_neg (by omega), if_neg (by omega)]; exact tc.2.1
    · unfold tk3; rw [if_neg (by omega), if_neg (by omega), if_neg (by omega)]; exact (tc.2.2 i hi).2
    · unfold tk3; rw [if_pos ⟨rfl, rfl⟩]
    · unfold tk3; rw [if_neg (by omega), if_pos ⟨rfl, rfl⟩]
    · unfold tk3; rw [if_neg (by omega), if_neg (by omega), if_pos ⟨rfl, rfl⟩]
  have k0 : ∀ a b, a ≠ 27 → tk3 (qmu σ 27 5 0) (nI (tkd B n 0)) (nI (tfr B n 0)) (nI (ttl B n 0)) a b = σ a b := fun a b ha => by
    unfold tk3
    rw [if_neg (by omega), if_neg (by omega), if_neg (by omega), mu_k ha]
  have k027 : ∀ b, b < 3 → tk3 (qmu σ 27 5 0) (nI (tkd B n 0)) (nI (tfr B n 0)) (nI (ttl B n 0)) 27 b = σ 27 b := fun b hb => by
    unfold tk3
    rw [if_neg (by omega), if_neg (by omega), if_neg (by omega), mu_j (by omega)]
  have rc := read_c (f := f) (B := B) hn hf (n + 1) 0 np 0 f _ (fun q => σ (15 + q)) at0 hnp (by omega) (Nat.le_refl _) (by omega) (fun q a b => funext fun x => (k0 (15 + q) x (by omega)).symm)
  have HC : p_C_deeds f σ = qfix4 (p_Deeds_read_l19 f) f (tk3 (qmu σ 27 5 0) (nI (tkd B n 0)) (nI (tfr B n 0)) (nI (ttl B n 0))) (nI np) 0 0 := by
    unfold p_C_deeds p_Deeds_read p_Promises_size
    rw [Option.bind_some, tok, Option.bind_some, e13, bind_eta]
  -- the model, over any state that holds the tape and the number of promises
  have HM : ∀ s : qMem, s 104 8 = nI n → s 104 5 = nI np → s 109 = σ 109 → ∃ τ0, p_M_deeds f s = qfix1 (p_M_deeds_l40 f) f τ0 ∧ bsM τ0 B n np ∧ atM τ0 B n 0 ∧ agr (fun a b => a = 104 ∧ (b = 0 ∨ b = 8 ∨ (10 ≤ b ∧ b ≤ 17))) s τ0 ∧ τ0 104 8 = 0 := by
    intro s s8 s5 s109
    have hini : p_M_deeds f s = (p_M_step f (iniM s n np)).bind fun u4 => qfix1 (p_M_deeds_l40 f) f u4 := by
      unfold p_M_deeds iniM
      rw [mu_j (show (8 : Nat) ≠ 0 by decide), s8, mu_j (show (5 : Nat) ≠ 15 by decide), mu_j (show (5 : Nat) ≠ 11 by decide), mu_j (show (5 : Nat) ≠ 8 by decide), mu_j (show (5 : Nat) ≠ 10 by decide), mu_j (show (5 : Nat) ≠ 0 by decide), s5]
    have tm : tmH (iniM s n np) n B := by
      refine ⟨hn, ?_, fun i hi => ⟨(hB i (by omega)).1, ?_⟩⟩
      · unfold iniM; rw [mu_j (by decide), mu_j (by decide), mu_j (by decide), mu_j (by decide), mu_s]
      · rw [iniM_o (by omega), s109]; exact (hB i (by omega)).2.1
    have tok2 := tok_m (f := f) (c := 0) tm (by unfold iniM; rw [mu_j (by decide), mu_j (by decide), mu_s]; rfl) (Nat.zero_le _) hf
    have t4 : ∀ a b, ¬ (a = 104 ∧ (b = 11 ∨ b = 12 ∨ b = 13 ∨ b = 14)) → tm4 (iniM s n np) (kM (tkd B n 0)) (nI (tfr B n 0)) (nI (ttl B n 0)) a b = iniM s n np a b := fun a b hab => by
      unfold tm4
      rw [if_neg (by omega), if_neg (by omega), if_neg (by omega)]
    refine ⟨_, by rw [hini, tok2, Option.bind_some], ⟨⟨hn, ?_, fun i hi => ⟨(hB i (by omega)).1, ?_⟩⟩, ?_, ?_⟩, ⟨⟨hn, ?_, fun i hi => ⟨(hB i (by omega)).1, ?_⟩⟩, Nat.zero_le _, ?_, ?_, ?_, ?_⟩, ?_, ?_⟩
    · rw [t4 _ _ (by omega)]; exact tm.2.1
    · rw [t4 _ _ (by omega)]; exact (tm.2.2 i hi).2
    · rw [t4 _ _ (by omega)]; unfold iniM; rw [mu_j (by decide), mu_s]
    · rw [t4 _ _ (by omega)]; exact mu_s
    · rw [t4 _ _ (by omega)]; exact tm.2.1
    · rw [t4 _ _ (by omega)]; exact (tm.2.2 i hi).2
    · unfold tm4; rw [if_pos ⟨rfl, rfl⟩]
    · unfold tm4; rw [if_neg (by omega), if_pos ⟨rfl, rfl⟩]
    · unfold tm4; rw [if_neg (by omega), if_neg (by omega), if_pos (by omega)]
    · unfold tm4; rw [if_neg (by omega), if_neg (by omega), if_pos (by omega)]
    · intro a b hab
      rw [t4 a b (by omega), iniM_o (by omega)]
    · rw [t4 _ _ (by omega)]; unfold iniM; rw [mu_j (by decide), mu_j (by decide), mu_j (by decide), mu_s]
  by_cases w : (dL B n (n + 1) 0 np (fun q => σ (15 + q))).1 = 0
  · obtain ⟨q1, q2, σ', q3, q4, q5⟩ := rc.1 w
    have mk : ∀ a b, a ≠ 27 → ¬ (15 + np ≤ a ∧ a ≤ 26) → ¬ (a = 13 ∧ b = 1) → (qmu (qmu σ' 27 1 0) 13 1 (nI (dL B n (n + 1) 0 np (fun q => σ (15 + q))).2.2.1)) a b = σ a b := fun a b h1 h2 h3 => by
      have : ∀ (ρ : qMem) (v : Int32), qmu ρ 13 1 v a b = ρ a b := fun ρ v => if_neg h3
      rw [this, mu_k h1, q4 a b (by unfold JC; omega), k0 a b h1]
    obtain ⟨τ0, m1, m2, m3, m4, m5⟩ := HM (qmu (qmu σ' 27 1 0) 13 1 (nI (dL B n (n + 1) 0 np (fun q => σ (15 + q))).2.2.1)) (by rw [mk _ _ (by omega) (by omega) (by omega)]; exact t2) (by rw [mk _ _ (by omega) (by omega) (by omega)]; exact e5) (funext fun x => mk _ _ (by omega) (by omega) (by omega))
    obtain ⟨τ', r1, r2, r3, r4, r5⟩ := (read_m (f := f) hf (n + 1) 0 np f τ0 (fun q => σ (15 + q)) m2 m3 hnp (by omega) (by omega)).1 w
    have tp5 : τ' 104 5 = nI np := by rw [r4 104 5 (by unfold JK; omega), m4 104 5 (by omega), mk _ _ (by omega) (by omega) (by omega)]; exact e5
    have l91 := l91_run (f := f) r3 q2 q1 (by omega)
    generalize hp' : (dL B n (n + 1) 0 np (fun q => σ (15 + q))).2.2.1 = p' at *
    generalize (dL B n (n + 1) 0 np (fun q => σ (15 + q))).2.2.2 = R' at *
    refine ⟨nI p', qmu (qmu σ' 27 1 0) 13 1 (nI p'), qmu (vrM τ' np p') 104 5 (nI p'), ?_, ?_, ?_⟩
    · rw [HC]; exact q3
    · show p_M_deeds f _ = _
      rw [m1, r1]
      unfold p_M_deeds_b62
      rw [r2, if_pos (show (0 : Int32) ≤ 0 by decide), tp5]
      exact l91
    · have F0 : ∀ a b, ¬ (a = 104 ∧ b = 5) → ¬ (a = 133 ∧ np ≤ b ∧ b < p') → (qmu (vrM τ' np p') 104 5 (nI p')) a b = τ' a b := fun a b h1 h2 => by
        unfold qmu
        rw [if_neg h1, vrM_o h2]
      have F1 : ∀ a b, ¬ (a = 104 ∧ (b = 0 ∨ b = 5 ∨ b = 8 ∨ (10 ≤ b ∧ b ≤ 17))) → ¬ (a = 133 ∧ np ≤ b ∧ b < p') → ¬ (a = 108 ∧ 11 * np ≤ b) → (qmu (vrM τ' np p') 104 5 (nI p')) a b = (qmu (qmu σ' 27 1 0) 13 1 (nI p')) a b := fun a b h1 h2 h3 => by
        rw [F0 a b (by omega) h2, r4 a b (by unfold JK; omega), m4 a b (by omega)]
      refine deeds_inv h hnp e13 q2 q1 (fun a b hab => ?_) ?_ ?_ ?_ ?_ ?_ (fun q a b j hj => ?_) (fun q a b => ?_)
      · unfold PD at hab
        rw [F1 a b (by omega) (by omega) (by omega), mk a b (by omega) (by omega) (by omega)]
      · rw [F1 27 1 (by omega) (by omega) (by omega), mu_k (by decide), mu_s]
      · rw [F0 104 8 (by omega) (by omega), r4 104 8 (by unfold JK; omega)]; exact m5
      · rw [F1 27 2 (by omega) (by omega) (by omega), F1 104 9 (by omega) (by omega) (by omega), mk 104 9 (by omega) (by omega) (by omega), mu_k (by decide), mu_j (by decide), q4 27 2 (by unfold JC; omega), k027 2 (by omega)]
        exact h.2.2.2.1
      · rw [F1 13 1 (by omega) (by omega) (by omega), mu_s]
      · exact mu_s
      · obtain ⟨d1, d2⟩ := q5 q a b
        have eL : (qmu (vrM τ' np p') 104 5 (nI p')) (15 + q) j = R' q j := by
          rw [F1 (15 + q) j (by omega) (by omega) (by omega), mu_k (by omega), mu_k (by omega), d1]
        rw [eL, F0 108 (11 * q + j) (by omega) (by omega), r5 q a b j hj]
        exact ⟨rfl, d2 j hj⟩
      · unfold qmu
        rw [if_neg (by omega), vrM_s a b]
  · obtain ⟨w3, σ', q3, q4⟩ := rc.2 w
    have mk : ∀ a b, a ≠ 27 → ¬ (15 + np ≤ a ∧ a ≤ 26) → (qmu (qmu σ' 27 1 0) 27 2 (nI (dL B n (n + 1) 0 np (fun q => σ (15 + q))).1)) a b = σ a b := fun a b h1 h2 => by
      rw [mu_k h1, mu_k h1, q4 a b (by unfold JC; omega), k0 a b h1]
    obtain ⟨τ0, m1, m2, m3, m4, m5⟩ := HM (qmu (qmu σ' 27 1 0) 27 2 (nI (dL B n (n + 1) 0 np (fun q => σ (15 + q))).1)) (by rw [mk _ _ (by omega) (by omega)]; exact t2) (by rw [mk _ _ (by omega) (by omega)]; exact e5) (funext fun x => mk _ _ (by omega) (by omega))
    obtain ⟨F, r1, r4⟩ := (read_m (f := f) hf (n + 1) 0 np f τ0 (fun q => σ (15 + q)) m2 m3 hnp (by omega) (by omega)).2 w
    generalize hw' : (dL B n (n + 1) 0 np (fun q => σ (15 + q))).1 = w' at *
    generalize (dL B n (n + 1) 0 np (fun q => σ (15 + q))).2.1 = c' at *
    refine ⟨-1000100 - nI (tfr B n c'), qmu (qmu σ' 27 1 0) 27 2 (nI w'), qmu F 104 9 (nI w'), ?_, ?_, ?_⟩
    · rw [HC]; exact q3
    · show p_M_deeds f _ = _
      rw [m1, r1]
    · have F0 : ∀ a b, ¬ (a = 104 ∧ b = 9) → (qmu F 104 9 (nI w')) a b = F a b := fun a b h1 => if_neg h1
      have F1 : ∀ a b, ¬ (a = 104 ∧ (b = 0 ∨ b = 8 ∨ b = 9 ∨ (10 ≤ b ∧ b ≤ 17))) → ¬ (a = 108 ∧ 11 * np ≤ b) → (qmu F 104 9 (nI w')) a b = (qmu (qmu σ' 27 1 0) 27 2 (nI w')) a b := fun a b h1 h3 => by
        rw [F0 a b (by omega), r4 a b (by unfold JK; omega), m4 a b (by omega)]
      refine deeds_inv h hnp e13 (Nat.le_refl _) hnp (fun a b hab => ?_) ?_ ?_ ?_ ?_ ?_ (fun q a b j hj => by omega) (fun q a b => by omega)
      · unfold PD at hab
        rw [F1 a b (by omega) (by omega), mk a b (by omega) (by omega)]
      · rw [F1 27 1 (by omega) (by omega), mu_j (by decide), mu_s]
      · rw [F0 104 8 (by omega), r4 104 8 (by unfold JK; omega)]; exact m5
      · rw [F1 27 2 (by omega) (by omega), mu_s, mu_s]
      · rw [F1 13 1 (by omega) (by omega), mk 13 1 (by omega) (by omega)]; exact e13
      · rw [F1 104 5 (by omega) (by omega), mk 104 5 (by omega) (by omega)]; exact e5
