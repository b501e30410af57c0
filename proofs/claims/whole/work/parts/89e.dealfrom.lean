/-! dealFrom -/
def gdC (al pr : Nat → Nat) (s : Nat) (Lg : Nat → Prop) (g : Nat → Nat) : Prop := (∀ i, i < s → g i ≤ 5) ∧ (∀ i, i < s → g i < 5 → frP al pr g i (g i)) ∧ Lg (mkM (fun i => decide (g i < 5)) s)
/-- what dealFrom must do from place n on -/
def dqP (s : Nat) (w al pr : Nat → Nat) (sk : Nat → Bool) (v : Nat → Nat) (Lg : Nat → Prop) (rec_ : qMem → Int32 → Int32 → Option (Int32 × qMem)) (n : Nat) : Prop := ∀ (σ : qMem) (h : Nat → Nat), dwC σ s w al pr sk v → (∀ m, m < 2 ^ s → σ 100 m = bP (Lg m)) → (∀ i, i < n → h i ≤ 5 ∧ σ 98 i = enc (h i)) → (∀ i, i < n → h i < 5 → frP al pr h i (h i)) → (n = s → Lg (mkM (fun i => decide (h i < 5)) s)) → ∃ r σ', rec_ σ (nI n) (nI (mkM (fun i => decide (h i < 5)) n)) = some (r, σ') ∧ (∀ a b, ¬ (a = 98 ∧ n ≤ b) → σ' a b = σ a b) ∧ ((r = 1 ∧ ∃ g, (∀ i, i < n → g i = h i) ∧ gdC al pr s Lg g ∧ (∀ i, i < s → σ' 98 i = enc (g i)) ∧ ∀ g', (∀ i, i < n → g' i = h i) → gdC al pr s Lg g' → ¬ lexlt s g' g) ∨ (r = 0 ∧ ∀ g', (∀ i, i < n → g' i = h i) → ¬ gdC al pr s Lg g'))
theorem ld_full {s d : Nat} {Lg : Nat → Prop} {E : Nat → Bool} (h : ldP s Lg (mkM E d) d) (hd : d = s) : Lg (mkM E s) := by
  subst hd
  obtain ⟨L, l1, l2, l3⟩ := h
  have := mk_eq l1 (mk_low.mp l3)
  rw [← this]; exact l2
theorem ld_of {al pr : Nat → Nat} {s d : Nat} {Lg : Nat → Prop} {g : Nat → Nat} {E : Nat → Bool} (hg : gdC al pr s Lg g) (hd : d ≤ s) (hE : ∀ i, i < d → decide (g i < 5) = E i) : ldP s Lg (mkM E d) d := by
  refine ⟨mkM (fun i => decide (g i < 5)) s, mkM_lt s, hg.2.2, mk_low.mpr (fun i hi => ?_)⟩
  rw [mkM_b, decide_eq_true (show i < s by omega), Bool.true_and]
  exact hE i hi
def updN (h : Nat → Nat) (n t : Nat) : Nat → Nat := fun i => if i = n then t else h i
theorem updN_s {h : Nat → Nat} {n t : Nat} : updN h n t n = t := if_pos rfl
theorem updN_n {h : Nat → Nat} {n t i : Nat} (hi : i ≠ n) : updN h n t i = h i := if_neg hi
theorem fr_upd {al pr h : Nat → Nat} {n t : Nat} (hp : ∀ i, i < n → h i < 5 → frP al pr h i (h i)) (hn : t < 5 → frP al pr h n t) : ∀ i, i < n + 1 → updN h n t i < 5 → frP al pr (updN h n t) i (updN h n t i) := by
  intro i hi h5 k hk e
  by_cases c : i = n
  · subst c
    rw [updN_s] at h5 e
    rw [updN_n (by omega)] at e
    exact hn h5 k hk e
  · rw [updN_n c] at h5 e
    rw [updN_n (by omega)] at e
    exact hp i (by omega) h5 k hk e
theorem mk_upd {h : Nat → Nat} {n t : Nat} : mkM (fun i => decide (updN h n t i < 5)) (n + 1) = if t < 5 then mkM (fun i => decide (h i < 5)) n ||| 2 ^ n else mkM (fun i => decide (h i < 5)) n := by
  have e : mkM (fun i => decide (updN h n t i < 5)) n = mkM (fun i => decide (h i < 5)) n := mkM_cg (fun i hi => by rw [updN_n (by omega)])
  show (if decide (updN h n t n < 5) = true then mkM (fun i => decide (updN h n t i < 5)) n ||| 2 ^ n else mkM (fun i => decide (updN h n t i < 5)) n) = _
  rw [e, updN_s]
  by_cases c : t < 5
  · rw [if_pos (decide_eq_true c), if_pos c]
  · rw [if_neg (by simp [c]), if_neg c]
section
variable {f s n : Nat} {w al pr : Nat → Nat} {sk : Nat → Bool} {v : Nat → Nat} {Lg : Nat → Prop} {rec_ : qMem → Int32 → Int32 → Option (Int32 × qMem)}
theorem b73_d (hq : dqP s w al pr sk v Lg rec_ (n + 1)) (hn : n < s) (hf : 1000 < f) {σ : qMem} {h : Nat → Nat} (hd : dwC σ s w al pr sk v) (h100 : ∀ m, m < 2 ^ s → σ 100 m = bP (Lg m)) (h98 : ∀ i, i < n → h i ≤ 5 ∧ σ 98 i = enc (h i)) (hfr : ∀ i, i < n → h i < 5 → frP al pr h i (h i)) (hno : ∀ g', (∀ i, i < n → g' i = h i) → g' n < 5 → ¬ gdC al pr s Lg g') : ∃ r σ', p_Dawn_dealFrom_b73 f rec_ σ (nI n) (nI (mkM (fun i => decide (h i < 5)) n)) = some (r, σ') ∧ (∀ a b, ¬ (a = 98 ∧ n ≤ b) → σ' a b = σ a b) ∧ ((r = 1 ∧ ∃ g, (∀ i, i < n → g i = h i) ∧ gdC al pr s Lg g ∧ (∀ i, i < s → σ' 98 i = enc (g i)) ∧ ∀ g', (∀ i, i < n → g' i = h i) → gdC al pr s Lg g' → ¬ lexlt s g' g) ∨ (r = 0 ∧ ∀ g', (∀ i, i < n → g' i = h i) → ¬ gdC al pr s Lg g')) := by
  have hs : s ≤ 8 := hd.1
  have hlt : mkM (fun i => decide (h i < 5)) n < 2 ^ n := mkM_lt n
  have h2n : (2 : Nat) ^ n ≤ 2 ^ 8 := Nat.pow_le_pow_right (by decide) (by omega)
  have hkk : ∀ a b, ¬ (a = 98 ∧ b = n) → (qmu σ 98 n (-1000000)) a b = σ a b := fun a b hab => if_neg hab
  have hd1 : dwC (qmu σ 98 n (-1000000)) s w al pr sk v := hd.cg (fun a b hab => hkk a b (by omega))
  have h1001 : ∀ m, m < 2 ^ s → (qmu σ 98 n (-1000000)) 100 m = bP (Lg m) := fun m hm => by rw [hkk _ _ (by omega)]; exact h100 m hm
  have ld := leads_c (f := f) (ch := mkM (fun i => decide (h i < 5)) n) (d := n + 1) hs hd1.2.1 h1001 (by omega) (by omega) hf
  have mku : mkM (fun i => decide (updN h n 5 i < 5)) (n + 1) = mkM (fun i => decide (h i < 5)) n := by rw [mk_upd, if_neg (by decide)]
  unfold p_Dawn_dealFrom_b73
  rw [if_pos (qin_nI (by omega) (by omega)), qi_nI (by omega), nI_1, ld, Option.bind_some]
  by_cases c : ldP s Lg (mkM (fun i => decide (h i < 5)) n) (n + 1)
  · rw [bP_p c, if_neg (by decide)]
    rw [← mku] at c
    obtain ⟨r, σ', e, ag, hr⟩ := hq (qmu σ 98 n (-1000000)) (updN h n 5) hd1 h1001 (fun i hi => by
      by_cases q : i = n
      · rw [q, updN_s, mu_s]; exact ⟨Nat.le_refl _, rfl⟩
      · rw [updN_n q, hkk _ _ (by omega)]; exact h98 i (by omega)) (fr_upd hfr (fun w0 => absurd w0 (by decide))) (fun e => ld_full c e)
    rw [mku] at e
    rw [e, Option.bind_some]
    have conv : ∀ g', (∀ i, i < n → g' i = h i) → gdC al pr s Lg g' → ∀ i, i < n + 1 → g' i = updN h n 5 i := by
      intro g' a1 a2 i hi
      by_cases q : i = n
      · rw [q, updN_s]
        have := a2.1 n hn
        exact Classical.byContradiction fun z => hno g' a1 (by omega) a2
      · rw [updN_n q]; exact a1 i (by omega)
    rcases hr with ⟨rfl, g, g1, g2, g3, g4⟩ | ⟨rfl, g1⟩
    · refine ⟨1, σ', by rw [if_neg (show ¬ (1 : Int32) = 0 by decide)], fun a b hab => by rw [ag a b (by omega)]; exact hkk a b (by omega), Or.inl ⟨rfl, g, fun i hi => by rw [g1 i (by omega), updN_n (by omega)], g2, g3, fun g' a1 a2 => g4 g' (conv g' a1 a2) a2⟩⟩
    · refine ⟨0, σ', by rw [if_pos rfl], fun a b hab => by rw [ag a b (by omega)]; exact hkk a b (by omega), Or.inr ⟨rfl, fun g' a1 a2 => g1 g' (conv g' a1 a2) a2⟩⟩
  · rw [bP_n c, if_pos rfl]
    refine ⟨0, _, rfl, fun a b hab => hkk a b (by omega), Or.inr ⟨rfl, fun g' a1 a2 => ?_⟩⟩
    by_cases q : g' n < 5
    · exact hno g' a1 q a2
    · refine c ?_
      have := ld_of (d := n + 1) (E := fun i => decide (updN h n 5 i < 5)) a2 (by omega) (fun i hi => by
        by_cases z : i = n
        · subst z
          rw [updN_s]
          simp [q]
        · rw [updN_n z, a1 i (by omega)])
      rw [mku] at this
      exact this
theorem l30_d (hq : dqP s w al pr sk v Lg rec_ (n + 1)) (hn : n < s) (hf : 1000 < f) {h : Nat → Nat} {σ0 : qMem} (hd0 : dwC σ0 s w al pr sk v) (h1000 : ∀ m, m < 2 ^ s → σ0 100 m = bP (Lg m)) (h980 : ∀ i, i < n → h i ≤ 5 ∧ σ0 98 i = enc (h i)) (hfr : ∀ i, i < n → h i < 5 → frP al pr h i (h i)) (hld : ldP s Lg (mkM (fun i => decide (h i < 5)) n ||| 2 ^ n) (n + 1)) : ∃ r σ', qfix2 (p_Dawn_dealFrom_l30 f rec_ (nI n) (nI (mkM (fun i => decide (h i < 5)) n)) (nI (mkM (fun i => decide (h i < 5)) n ||| 2 ^ n))) f σ0 0 = some (r, σ') ∧ (∀ a b, ¬ (a = 98 ∧ n ≤ b) → σ' a b = σ0 a b) ∧ ((r = 1 ∧ ∃ g, (∀ i, i < n → g i = h i) ∧ gdC al pr s Lg g ∧ (∀ i, i < s → σ' 98 i = enc (g i)) ∧ ∀ g', (∀ i, i < n → g' i = h i) → gdC al pr s Lg g' → ¬ lexlt s g' g) ∨ (r = 0 ∧ ∀ g', (∀ i, i < n → g' i = h i) → ¬ gdC al pr s Lg g')) := by
  have hs : s ≤ 8 := hd0.1
  have key := wf2 (F := p_Dawn_dealFrom_l30 f rec_ (nI n) (nI (mkM (fun i => decide (h i < 5)) n)) (nI (mkM (fun i => decide (h i < 5)) n ||| 2 ^ n))) (fun σ x => ∃ t : Nat, t ≤ 5 ∧ x = nI t ∧ (∀ a b, ¬ (a = 98 ∧ n ≤ b) → σ a b = σ0 a b) ∧ ∀ g', (∀ i, i < n → g' i = h i) → g' n < t → ¬ gdC al pr s Lg g') (fun _ x => 100 - qi x) (fun _ _ q => (∀ a b, ¬ (a = 98 ∧ n ≤ b) → q.2 a b = σ0 a b) ∧ ((q.1 = 1 ∧ ∃ g, (∀ i, i < n → g i = h i) ∧ gdC al pr s Lg g ∧ (∀ i, i < s → q.2 98 i = enc (g i)) ∧ ∀ g', (∀ i, i < n → g' i = h i) → gdC al pr s Lg g' → ¬ lexlt s g' g) ∨ (q.1 = 0 ∧ ∀ g', (∀ i, i < n → g' i = h i) → ¬ gdC al pr s Lg g'))) ?_ f σ0 0 ⟨0, by omega, rfl, fun _ _ _ => rfl, fun g' _ w0 => absurd w0 (Nat.not_lt_zero _)⟩ (by show 100 - _ < f; omega)
  · obtain ⟨q, e, q1, q2⟩ := key
    exact ⟨q.1, q.2, e, q1, q2⟩
  · rintro k σ x ⟨t, ht, rfl, ag, hno⟩ ih
    have hd : dwC σ s w al pr sk v := hd0.cg (fun a b hab => ag a b (by omega))
    have h100 : ∀ m, m < 2 ^ s → σ 100 m = bP (Lg m) := fun m hm => by rw [ag _ _ (by omega)]; exact h1000 m hm
    have h98 : ∀ i, i < n → h i ≤ 5 ∧ σ 98 i = enc (h i) := fun i hi => by rw [ag _ _ (by omega)]; exact h980 i hi
    unfold p_Dawn_dealFrom_l30
    by_cases c : t = 5
    · subst c
      rw [if_pos (by decide)]
      obtain ⟨r, σ', e, ag', hr⟩ := b73_d (f := f) hq hn hf hd h100 h98 hfr hno
      exact ⟨(r, σ'), e, fun a b hab => (ag' a b hab).trans (ag a b hab), hr⟩
    · have ht5 : t < 5 := by omega
      have hmu : 100 - qi (nI (t + 1)) < 100 - qi (nI t) := by rw [qi_nI (by omega), qi_nI (by omega)]; omega
      rw [if_neg (show ¬ (5 : Int32) ≤ nI t from nI_ge (b := 5) ht5 (by omega)), isFree_c hd hn ht5 h98 (by omega), Option.bind_some, nI_1]
      by_cases c1 : frP al pr h n t
      · have mku : mkM (fun i => decide (updN h n t i < 5)) (n + 1) = mkM (fun i => decide (h i < 5)) n ||| 2 ^ n := by rw [mk_upd, if_pos ht5]
        have hkk : ∀ a b, ¬ (a = 98 ∧ b = n) → (qmu σ 98 n (nI t)) a b = σ a b := fun a b hab => if_neg hab
        have hld' := hld
        rw [← mku] at hld'
        obtain ⟨r, σ', e, ag', hr⟩ := hq (qmu σ 98 n (nI t)) (updN h n t) (hd.cg (fun a b hab => hkk a b (by omega))) (fun m hm => by rw [hkk _ _ (by omega)]; exact h100 m hm) (fun i hi => by
          by_cases q : i = n
          · rw [q, updN_s, mu_s]
            refine ⟨by omega, ?_⟩
            unfold enc
            rw [if_neg (by omega)]
          · rw [updN_n q, hkk _ _ (by omega)]; exact h98 i (by omega)) (fr_upd hfr (fun _ => c1)) (fun e => ld_full hld' e)
        rw [mku] at e
        rw [bP_p c1, if_neg (by decide), if_pos (qin_nI (by omega) (by omega)), qi_nI (by omega), nI_1, e, Option.bind_some]
        have ag2 : ∀ a b, ¬ (a = 98 ∧ n ≤ b) → σ' a b = σ0 a b := fun a b hab => by rw [ag' a b (by omega), hkk a b (by omega)]; exact ag a b hab
        rcases hr with ⟨rfl, g, g1, g2, g3, g4⟩ | ⟨rfl, g1⟩
        · refine ⟨(1, σ'), by rw [if_neg (show ¬ (1 : Int32) = 0 by decide)], ag2, Or.inl ⟨rfl, g, fun i hi => by rw [g1 i (by omega), updN_n (by omega)], g2, g3, fun g' a1 a2 w0 => ?_⟩⟩
          have gn : g n = t := by rw [g1 n (by omega), updN_s]
          obtain ⟨i, i1, i2, i3⟩ := w0
          rcases Nat.lt_trichotomy i n with z | z | z
          · have := a1 i z
            have := g1 i (by omega)
            rw [updN_n (by omega)] at this
            omega
          · subst z
            exact hno g' a1 (by omega) a2
          · refine g4 g' (fun j hj => ?_) a2 ⟨i, i1, i2, i3⟩
            by_cases q : j = n
            · rw [q, updN_s, i2 n z, gn]
            · rw [updN_n q]; exact a1 j (by omega)
        · rw [if_pos rfl]
          refine ih _ _ ⟨t + 1, by omega, rfl, ag2, fun g' a1 a2 a3 => ?_⟩ hmu
          by_cases q : g' n = t
          · exact g1 g' (fun j hj => by
              by_cases q2 : j = n
              · rw [q2, updN_s]; exact q
              · rw [updN_n q2]; exact a1 j (by omega)) a3
          · exact hno g' a1 (by omega) a3
      · rw [bP_n c1, if_pos rfl]
        refine ih _ _ ⟨t + 1, by omega, rfl, ag, fun g' a1 a2 a3 => ?_⟩ hmu
        by_cases q : g' n = t
        · refine c1 (fun k hk e => ?_)
          have := a3.2.1 n hn (by omega) k hk (by rw [a1 k hk, e, q])
          exact this
        · exact hno g' a1 (by omega) a3
end
theorem deal_c {f s : Nat} {w al pr : Nat → Nat} {sk : Nat → Bool} {v : Nat → Nat} {Lg : Nat → Prop} (hf : 1000 < f) : ∀ (r n k : Nat), n + r = s → r < k → dqP s w al pr sk v Lg (p_Dawn_dealFrom f k) n
  | r, n, 0, _, hk => absurd hk (Nat.not_lt_zero _)
  | 0, n, k + 1, hn, _ => by
    intro σ h hd h100 h98 hfr hL
    have hs : s ≤ 8 := hd.1
    have hns : n = s := by omega
    refine ⟨1, σ, ?_, fun _ _ _ => rfl, Or.inl ⟨rfl, h, fun _ _ => rfl, ⟨fun i hi => (h98 i (by omega)).1, fun i hi => hfr i (by omega), hL hns⟩, fun i hi => (h98 i (by omega)).2, fun g' a1 a2 w0 => ?_⟩⟩
    · show p_Dawn_dealFrom_body f (p_Dawn_dealFrom f k) σ _ _ = _
      unfold p_Dawn_dealFrom_body
      rw [hd.2.1, if_neg (nI_nlt (by omega) (by omega))]
    · obtain ⟨i, i1, i2, i3⟩ := w0
      have := a1 i (by omega)
      omega
  | r + 1, n, k + 1, hn, hk => by
    intro σ h hd h100 h98 hfr hL
    have hs : s ≤ 8 := hd.1
    have ih := deal_c (s := s) (w := w) (al := al) (pr := pr) (sk := sk) (v := v) (Lg := Lg) hf r (n + 1) k (by omega) (by omega)
    have hns : n < s := by omega
    have hlt : mkM (fun i => decide (h i < 5)) n < 2 ^ n := mkM_lt n
    have h2n : (2 : Nat) ^ n ≤ 2 ^ 7 := Nat.pow_le_pow_right (by decide) (by omega)
    have hor : mkM (fun i => decide (h i < 5)) n ||| 2 ^ n < 256 := Nat.or_lt_two_pow (n := 8) (by omega) (by omega)
    have ld := leads_c (f := f) (ch := mkM (fun i => decide (h i < 5)) n ||| 2 ^ n) (d := n + 1) hs hd.2.1 h100 hor (by omega) hf
    show ∃ r σ', p_Dawn_dealFrom_body f (p_Dawn_dealFrom f k) σ _ _ = _ ∧ _
    unfold p_Dawn_dealFrom_body
    rw [hd.2.1, if_pos (nI_lt hns (by omega)), (i_pw n (by omega)).1, i_or, nI_1, ld, Option.bind_some]
    by_cases c : ldP s Lg (mkM (fun i => decide (h i < 5)) n ||| 2 ^ n) (n + 1)
    · rw [bP_p c, if_neg (by decide)]
      exact l30_d ih hns hf hd h100 h98 hfr c
    · rw [bP_n c, if_pos rfl]
      refine b73_d ih hns hf hd h100 h98 hfr (fun g' a1 a2 a3 => c ?_)
      have mku : mkM (fun i => decide (updN h n 0 i < 5)) (n + 1) = mkM (fun i => decide (h i < 5)) n ||| 2 ^ n := by rw [mk_upd, if_pos (by decide)]
      rw [← mku]
      refine ld_of a3 (by omega) (fun i hi => ?_)
      by_cases z : i = n
      · subst z
        rw [updN_s]
        simp [a2]
      · rw [updN_n z, a1 i (by omega)]
