/-! pension, sold -/
theorem tkN_q {σ τ : qMem} (ha : agr Pq σ τ) {p n i : Nat} {b : Int32} (hp : p < 12) : tkN τ p n i b = tkN σ p n i b := tkN_cg (σ := σ) (σ' := τ) (agr_c ha _ (by omega)) (agr_c ha _ (by omega)) (agr_c ha _ (by omega)) (agr_c ha _ (by omega)) (agr_c ha _ (by omega)) _ _ _
theorem tkBy_q {σ τ : qMem} (ha : agr Pq σ τ) {p n : Nat} {d : Int32} (hp : p < 12) : tkBy τ p n d ↔ tkBy σ p n d := by
  unfold tkBy
  rw [tkN_q ha hp]
theorem pension_ok {f : Nat} {σ : qMem} (h : Inv σ) (hf : 1000 < f) (x y : Int32) : PairR (p_C_pension f σ x y) (p_M_pension f σ x y) := by
  obtain ⟨np, nA, nJ, hc⟩ := h.q0.cn
  have e5 := h.np hc.1 hc.2.1
  have hnp := hc.1
  obtain ⟨W, w1, w2⟩ := comes_cm (f := f) h hc hf
  by_cases c1 : rg x 0 7
  · by_cases c2 : rg y 0 9999
    · have hq := h.q (agq0 (v := 0))
      have hct := hc.q (agq0 (v := 0))
      have hTk : ∀ p, p < np → tkBy σ p nA y → ∃ t : Nat, t ≤ 9999 ∧ tkN σ p nA 0 (-1000000) = nI t := fun p hp w => by
        obtain ⟨-, -, -, -, n, hn, d1, -, d3⟩ := h.ac
        have hnn : n = nA := (nI_eq (by omega) (by have := hc.2.2.1; omega)).mp (d1.symm.trans hc.2.2.2.1)
        subst hnn
        rcases tkN_rg (σ := σ) (p := p) d3 n 0 (-1000000) (by omega) (Or.inl rfl) with q | q
        · exact absurd q w.1
        · obtain ⟨t, ht, e⟩ := rg_nat (b := 9999) q
          exact ⟨t, ht, e⟩
      have step : ∃ S : Nat → Int32 → Int32, (∀ (k : Int32 → Int32 → Option Int32) i a, i < np → p_C_pension_l25 f σ x y k a (nI i) = k (S i a) (nI (i + 1))) ∧ ∀ (k : Int32 → Int32 → Option (Int32 × qMem)) i a, i < np → p_M_pension_l27 f (qmu σ 104 0 0) x y k a (nI i) = k (S i a) (nI (i + 1)) := by
        refine ⟨fun i a => @ite Int32 (σ (15 + i) 3 = x ∧ tkBy σ i nA y) (Classical.propDecidable _) (a + W i (qi (tkN σ i nA 0 (-1000000)) / 360 - 1) / 2) a, fun k i a hi => ?_, fun k i a hi => ?_⟩
        · have o3 : p_Promises_of f σ (nI i) 3 = some (σ (15 + i) 3) := of_c (j := 3) (by omega) (by omega)
          have hb := tkBy_c (f := f) (σ := σ) (p := i) (n := nA) (d := y) (by omega) hc.2.2.2.1 hc.2.2.1 (by omega)
          unfold p_C_pension_l25 p_Promises_size
          rw [Option.bind_some, hc.2.1, if_neg (nI_ge hi (by omega)), o3, Option.bind_some, nI_1]
          show _ = k (@ite Int32 _ (Classical.propDecidable _) _ _) _
          by_cases q1 : σ (15 + i) 3 = x
          · rw [if_pos q1]
            by_cases q2 : tkBy σ i nA y
            · obtain ⟨t, ht, et⟩ := hTk i hi q2
              have hmx : (if (0 : Int32) < nI t / 360 - 1 then nI t / 360 - 1 else 0) = nI (t / 360 - 1) := by
                rw [show nI t / 360 = nI (t / 360) from pk_div (a := t) (d := 360) (by omega) (by omega) (by omega)]
                by_cases z : t / 360 = 0
                · rw [z, if_neg (by decide)]; rfl
                · obtain ⟨u, hu⟩ : ∃ u, t / 360 = u + 1 := ⟨t / 360 - 1, by omega⟩
                  rw [hu, nI_pred, Nat.add_sub_cancel]
                  by_cases z2 : u = 0
                  · rw [z2, if_neg (by decide)]; rfl
                  · rw [if_pos (show (0 : Int32) < nI u from nI_lt (a := 0) (b := u) (by omega) (by omega))]
              rw [hb.1 q2, Option.bind_some, if_neg (by decide), dayT_c (by omega) hc.2.2.2.1 hc.2.2.1 (by omega), Option.bind_some, if_pos (show σ (15 + i) 3 = x ∧ tkBy σ i nA y from ⟨q1, q2⟩), et, hmx, w1 σ agr_rf i (t / 360 - 1) hi (by omega), Option.bind_some, qi_nI (by omega)]
            · rw [hb.2 q2, Option.bind_some, if_pos rfl, if_neg (fun w => q2 w.2)]
          · rw [if_neg q1, if_neg (fun w => q1 w.1)]
        · have hrow := hq.pr.row hct.2.1 hc.1 hi
          have crow := agr_c (agq0 (σ := σ) (v := 0)) (15 + i) (by omega)
          have m3 : p_M_of f (qmu σ 104 0 0) (nI i) 3 = some (σ (15 + i) 3) := by rw [← crow]; exact of_r (j := 3) hrow (by omega) (by omega)
          have hb := tkBy_m (f := f) (σ := qmu σ 104 0 0) (p := i) (n := nA) (d := y) hq.ac hrow (by omega) hct.2.2.2.1 hct.2.2.1 (by omega)
          rw [tkBy_q agq0 (show i < 12 by omega)] at hb
          have hd := dayT_m (f := f) (σ := qmu σ 104 0 0) (p := i) (n := nA) hq.ac hrow (by omega) hct.2.2.2.1 hct.2.2.1 (by omega)
          rw [tkN_q agq0 (show i < 12 by omega)] at hd
          unfold p_M_pension_l27 p_M_pension_b86
          rw [thr_pr e5, if_neg (nI_ge hi (by omega)), m3, Option.bind_some, nI_1]
          show _ = k (@ite Int32 _ (Classical.propDecidable _) _ _) _
          by_cases q1 : σ (15 + i) 3 = x
          · rw [if_pos q1]
            by_cases q2 : tkBy σ i nA y
            · obtain ⟨t, ht, et⟩ := hTk i hi q2
              rw [hb.1 q2, Option.bind_some, if_neg (by decide), hd, Option.bind_some, if_pos (show σ (15 + i) 3 = x ∧ tkBy σ i nA y from ⟨q1, q2⟩), et, show nI t / 360 = nI (t / 360) from pk_div (a := t) (d := 360) (by omega) (by omega) (by omega), qi_nI (by omega)]
              by_cases z : t / 360 = 0
              · rw [z, if_pos (by decide)]
                have : p_M_comesTo f (qmu σ 104 0 0) (nI i) 0 = some (W i 0) := w2 (qmu σ 104 0 0) agq0 i 0 hi (by omega)
                rw [this, Option.bind_some]
              · obtain ⟨u, hu⟩ : ∃ u, t / 360 = u + 1 := ⟨t / 360 - 1, by omega⟩
                have := w2 (qmu σ 104 0 0) agq0 i u hi (by omega)
                rw [hu, if_neg (nI_ne0 (by omega) (by omega)), nI_pred, this, Option.bind_some, Nat.add_sub_cancel]
            · rw [hb.2 q2, Option.bind_some, if_pos rfl, if_neg (fun w => q2 w.2)]
          · rw [if_neg q1, if_neg (fun w => q1 w.1)]
      obtain ⟨S, s1, s2⟩ := step
      refine badR (r := if (Nat.rec (motive := fun _ => Int32) 0 S np) ≤ 200 then (Nat.rec (motive := fun _ => Int32) 0 S np) else 200) h ?_ ?_
      · unfold p_C_pension
        rw [outL, Option.bind_some, if_pos (show rg x (0 : Int32).toInt (7 : Int32).toInt from c1), if_pos rfl, noDayL, Option.bind_some, if_pos c2, if_pos rfl]
        refine run2 (n := np) (f := f) (fun k => Nat.rec (motive := fun _ => Int32) 0 S k) (by omega) (fun k => ?_) (fun k i hi => s1 k i _ hi)
        unfold p_C_pension_l25 p_Promises_size
        rw [Option.bind_some, hc.2.1, if_pos (nI_le (Nat.le_refl _) (by omega))]
        by_cases q : (Nat.rec (motive := fun _ => Int32) 0 S np : Int32) ≤ 200
        · rw [if_pos q, if_neg (Int32.not_lt.mpr q)]
        · rw [if_neg q, if_pos (Int32.not_le.mp q)]
      · unfold p_M_pension
        rw [isPriestL, Option.bind_some, if_pos c1, if_neg bad_ne, isDayL, Option.bind_some, if_pos c2, if_neg bad_ne]
        refine run2 (n := np) (f := f) (fun k => Nat.rec (motive := fun _ => Int32) 0 S k) (by omega) (fun k => ?_) (fun k i hi => s2 k i _ hi)
        unfold p_M_pension_l27
        rw [thr_pr e5, if_pos (nI_le (Nat.le_refl _) (by omega))]
        by_cases q : (Nat.rec (motive := fun _ => Int32) 0 S np : Int32) ≤ 200
        · rw [if_pos q, if_pos q]
        · rw [if_neg q, if_neg q]
    · refine badR (r := -1000001) h ?_ ?_
      · simp [p_C_pension, outL, c1, noDayL, c2]
      · simp [p_M_pension, isPriestL, c1, isDayL, c2]
  · refine badR (r := -1000001) h ?_ ?_
    · simp [p_C_pension, outL, c1]
    · simp [p_M_pension, isPriestL, c1]
/-! sold -/
def hsB (σ : qMem) (x : Int32) (p : Nat) : Bool := decide (σ (15 + p) 7 = x)
noncomputable def tkD (σ : qMem) (nA : Nat) (y : Int32) (p : Nat) : Bool := @decide (tkBy σ p nA y) (Classical.propDecidable _)
def smF (A : Nat → Bool) : Nat → Bool
  | 0 => false
  | k + 1 => smF A k || A k
def alF (A B : Nat → Bool) : Nat → Bool
  | 0 => true
  | k + 1 => alF A B k && (!A k || B k)
theorem alF_f {A B : Nat → Bool} {i : Nat} (h : alF A B i = false) : ∀ n, i ≤ n → alF A B n = false
  | 0, hn => by
    have : i = 0 := by omega
    rw [← this]; exact h
  | n + 1, hn => by
    by_cases c : i = n + 1
    · rw [← c]; exact h
    · unfold alF
      rw [alF_f h n (by omega)]
      rfl
def b01 (b : Bool) : Int32 := if b = true then 1 else 0
theorem whole_c {f : Nat} {σ : qMem} {np nA nJ : Nat} {x y : Int32} (hc : cnts σ np nA nJ) (hf : 100 < f) : p_Acts_wholeHouseTakenBy f σ x y = some (b01 (smF (hsB σ x) np && alF (hsB σ x) (tkD σ nA y) np)) := by
  have hnp := hc.1
  unfold p_Acts_wholeHouseTakenBy
  have key := wf2 (F := p_Acts_wholeHouseTakenBy_l5 f σ x y) (fun a z => ∃ i : Nat, i ≤ np ∧ z = nI i ∧ a = b01 (smF (hsB σ x) i) ∧ alF (hsB σ x) (tkD σ nA y) i = true) (fun _ z => 100 - qi z) (fun _ _ r => r = b01 (smF (hsB σ x) np && alF (hsB σ x) (tkD σ nA y) np)) ?_ f 0 0 ⟨0, by omega, rfl, rfl, rfl⟩ (by show 100 - _ < f; omega)
  · obtain ⟨r, e, rfl⟩ := key
    exact e
  · rintro k a z ⟨i, hi, rfl, rfl, hal⟩ ih
    unfold p_Acts_wholeHouseTakenBy_l5 p_Promises_size
    rw [Option.bind_some, hc.2.1]
    by_cases c : i = np
    · subst c
      rw [if_pos (nI_le (Nat.le_refl _) (by omega))]
      refine ⟨_, rfl, ?_⟩
      rw [hal, Bool.and_true]
      unfold b01
      exact zn_ite
    · have hin : i < np := by omega
      have o7 : p_Promises_of f σ (nI i) 7 = some (σ (15 + i) 7) := of_c (j := 7) (by omega) (by omega)
      have hb := tkBy_c (f := f) (σ := σ) (p := i) (n := nA) (d := y) (by omega) hc.2.2.2.1 hc.2.2.1 (by omega)
      have hm : 100 - qi (nI (i + 1)) < 100 - qi (nI i) := by rw [qi_nI (by omega), qi_nI (by omega)]; omega
      rw [if_neg (nI_ge hin (by omega)), o7, Option.bind_some, nI_1]
      by_cases q1 : σ (15 + i) 7 = x
      · have hA : hsB σ x i = true := by unfold hsB; simp [q1]
        rw [if_pos q1]
        by_cases q2 : tkBy σ i nA y
        · have hB : tkD σ nA y i = true := by unfold tkD; simp [q2]
          rw [hb.1 q2, Option.bind_some, if_neg (by decide)]
          refine ih _ _ ⟨i + 1, by omega, rfl, ?_, ?_⟩ hm
          · show _ = b01 (smF (hsB σ x) i || hsB σ x i)
            rw [hA, Bool.or_true]; rfl
          · show (alF (hsB σ x) (tkD σ nA y) i && (!hsB σ x i || tkD σ nA y i)) = true
            rw [hal, hA, hB]; rfl
        · have hB : tkD σ nA y i = false := by unfold tkD; simp [q2]
          rw [hb.2 q2, Option.bind_some, if_pos rfl]
          refine ⟨_, rfl, ?_⟩
          have : alF (hsB σ x) (tkD σ nA y) np = false := alF_f (i := i + 1) (by show (alF (hsB σ x) (tkD σ nA y) i && (!hsB σ x i || tkD σ nA y i)) = false; rw [hA, hB]; simp) np (by omega)
          rw [this, Bool.and_false]
          rfl
      · have hA : hsB σ x i = false := by unfold hsB; simp [q1]
        rw [if_neg q1]
        refine ih _ _ ⟨i + 1, by omega, rfl, ?_, ?_⟩ hm
        · show _ = b01 (smF (hsB σ x) i || hsB σ x i)
          rw [hA, Bool.or_false]
        · show (alF (hsB σ x) (tkD σ nA y) i && (!hsB σ x i || tkD σ nA y i)) = true
          rw [hal, hA]; rfl
def bbF (σ : qMem) (x : Int32) : Nat → Option Nat
  | 0 => none
  | k + 1 => if σ 63 k = x then (match bbF σ x k with | none => some k | some b => if σ 65 k ≤ σ 65 b then some b else some k) else bbF σ x k
theorem bbF_lt {σ : qMem} {x : Int32} : ∀ {k b : Nat}, bbF σ x k = some b → b < k
  | 0, b, h => by cases h
  | k + 1, b, h => by
    unfold bbF at h
    by_cases c : σ 63 k = x
    · rw [if_pos c] at h
      cases q : bbF σ x k with
      | none => rw [q] at h; simp at h; omega
      | some d =>
        rw [q] at h
        have hd := bbF_lt q
        simp only [] at h
        by_cases c2 : σ 65 k ≤ σ 65 d
        · rw [if_pos c2] at h; cases h; omega
        · rw [if_neg c2] at h; cases h; omega
    · rw [if_neg c] at h
      have := bbF_lt h
      omega
def bdV (σ : qMem) (o : Option Nat) : Int32 := match o with | none => -1000000 | some b => σ 64 b
def bsV (σ : qMem) (o : Option Nat) : Int32 := match o with | none => 0 | some b => σ 65 b
def biV (o : Option Nat) : Int32 := match o with | none => -1000000 | some b => nI b
theorem bidder_c {f : Nat} {σ : qMem} {n : Nat} {x : Int32} (hn : σ 53 10 = nI n) (hn2 : n ≤ 20) (hr : ∀ i, i < n → rg (σ 65 i) 1 100000) (hf : 100 < f) : p_Houses_greatestBidder f σ x = some (bdV σ (bbF σ x n)) := by
  unfold p_Houses_greatestBidder
  refine run3o (n := n) (f := f) (fun k => bdV σ (bbF σ x k)) (fun k => bsV σ (bbF σ x k)) (by omega) (fun k => ?_) (fun k i hi => ?_)
  · unfold p_Houses_greatestBidder_l8
    rw [hn, if_pos (nI_le (Nat.le_refl _) (by omega))]
  · have hq := qin_nI (k := i) (n := 20) (by omega) (by omega)
    have hqi : qi (nI i) = i := qi_nI (by omega)
    unfold p_Houses_greatestBidder_l8
    rw [hn, if_neg (nI_ge hi (by omega)), if_pos hq, if_pos hq, if_pos hq, if_pos hq, hqi, nI_1, show bbF σ x (i + 1) = if σ 63 i = x then (match bbF σ x i with | none => some i | some b => if σ 65 i ≤ σ 65 b then some b else some i) else bbF σ x i from rfl]
    by_cases c : σ 63 i = x
    · rw [if_pos c, if_pos c]
      cases q : bbF σ x i with
      | none =>
        have h1 : ¬ σ 65 i ≤ bsV σ none := by
          have := (hr i hi).1
          show ¬ σ 65 i ≤ 0
          rw [i32_le]
          have h0 : (0 : Int32).toInt = 0 := rfl
          omega
        rw [if_neg h1]
        rfl
      | some b =>
        show (if σ 65 i ≤ σ 65 b then _ else _) = _
        by_cases c2 : σ 65 i ≤ σ 65 b
        · simp only [if_pos c2]
        · simp only [if_neg c2]
          rfl
    · rw [if_neg c, if_neg c]
theorem bidder_m {f : Nat} {σ : qMem} {n : Nat} {x : Int32} (e1 : σ 63 = σ 140) (e2 : σ 64 = σ 141) (e3 : σ 65 = σ 142) (hn : σ 104 55 = nI n) (hn2 : n ≤ 20) (hf : 100 < f) : qfix2 (p_M_sold_l108 f σ x 1 1) f (-1000000) 0 = some (bdV σ (bbF σ x n), σ) := by
  refine run2 (n := n) (f := f) (fun k => biV (bbF σ x k)) (by omega) (fun k => ?_) (fun k i hi => ?_)
  · unfold p_M_sold_l108 p_M_sold_b176
    rw [hn, if_pos (nI_le (Nat.le_refl _) (by omega))]
    cases q : bbF σ x n with
    | none => rfl
    | some b =>
      have := bbF_lt q
      show (if nI b = -1000000 then _ else _) = _
      rw [if_neg (nI_nn (by omega))]
      show (if qin (nI b) 20 = true then some (σ 141 (qi (nI b)), σ) else none) = _
      rw [if_pos (qin_nI (by omega) (by omega)), qi_nI (by omega), ← e2]
      rfl
  · have hq := qin_nI (k := i) (n := 20) (by omega) (by omega)
    have hqi : qi (nI i) = i := qi_nI (by omega)
    unfold p_M_sold_l108
    rw [hn, if_neg (nI_ge hi (by omega)), if_neg (by decide), if_neg (by decide), if_pos hq, if_pos hq, hqi, nI_1, ← e1, ← e3, show bbF σ x (i + 1) = if σ 63 i = x then (match bbF σ x i with | none => some i | some b => if σ 65 i ≤ σ 65 b then some b else some i) else bbF σ x i from rfl]
    by_cases c : σ 63 i = x
    · rw [if_pos c, if_pos c]
      cases q : bbF σ x i with
      | none => rfl
      | some b =>
        have := bbF_lt q
        show (if nI b = -1000000 then _ else _) = _
        rw [if_neg (nI_nn (by omega))]
        show (if qin (nI b) 20 = true then (if σ 65 i ≤ σ 65 (qi (nI b)) then k (nI b) (nI (i + 1)) else k (nI i) (nI (i + 1))) else none) = _
        rw [if_pos (qin_nI (by omega) (by omega)), qi_nI (by omega)]
        by_cases c2 : σ 65 i ≤ σ 65 b
        · simp only [if_pos c2]
          rfl
        · simp only [if_neg c2]
          rfl
    · rw [if_neg c, if_neg c]
theorem bidder_n {f : Nat} {σ : qMem} {x a b : Int32} (hab : a = 0 ∨ b = 0) (hf : 100 < f) : qfix2 (p_M_sold_l108 f σ x a b) f (-1000000) 0 = some (-1000000, σ) := by
  obtain ⟨g, rfl⟩ : ∃ g, f = g + 1 := ⟨f - 1, by omega⟩
  rw [qfix2_s]
  unfold p_M_sold_l108 p_M_sold_b176
  rw [if_pos rfl]
  by_cases c : σ 104 55 ≤ 0
  · rw [if_pos c]
  · rw [if_neg c]
    by_cases ca : a = 0
    · rw [if_pos ca]
    · rw [if_neg ca, if_pos (hab.resolve_left ca)]
theorem b01_v (b : Bool) : b01 b = 0 ∨ b01 b = 1 := by
  cases b
  · exact Or.inl rfl
  · exact Or.inr rfl
theorem sold_ok {f : Nat} {σ : qMem} (h : Inv σ) (hf : 100 < f) (x y : Int32) : PairR (p_C_sold f σ x y) (p_M_sold f σ x y) := by
  obtain ⟨np, nA, nJ, hc⟩ := h.q0.cn
  have e5 := h.np hc.1 hc.2.1
  have hnp := hc.1
  by_cases c1 : rg x 0 5
  · by_cases c2 : rg y 0 9999
    · have hq := h.q (agq0 (v := 0))
      have hct := hc.q (agq0 (v := 0))
      obtain ⟨b1, b2, b3, n, hn, d1, d2, d3⟩ := hq.bi
      have k53 : σ 53 10 = nI n := by rw [mu_k (by decide)] at d1; exact d1
      have k65 : (qmu σ 104 0 0) 65 = σ 65 := funext fun j => mu_k (by decide)
      have k64 : (qmu σ 104 0 0) 64 = σ 64 := funext fun j => mu_k (by decide)
      have k63 : (qmu σ 104 0 0) 63 = σ 63 := funext fun j => mu_k (by decide)
      have hbb : ∀ m, bbF (qmu σ 104 0 0) x m = bbF σ x m := by
        intro m
        induction m with
        | zero => rfl
        | succ m ih =>
          unfold bbF
          rw [ih, k63, k65]
      have hbd : ∀ o, bdV (qmu σ 104 0 0) o = bdV σ o := fun o => by
        unfold bdV
        rw [k64]
      have hcl : p_C_sold f σ x y = some (if (smF (hsB σ x) np && alF (hsB σ x) (tkD σ nA y) np) = true then bdV σ (bbF σ x n) else -1000000) := by
        unfold p_C_sold
        rw [noHouseL, Option.bind_some, if_pos c1, if_pos rfl, noDayL, Option.bind_some, if_pos c2, if_pos rfl, whole_c hc hf, Option.bind_some, bidder_c k53 hn (fun i hi => by have := (d3 i hi).1; rw [k65] at this; exact this) hf, Option.bind_some]
        unfold b01
        by_cases q : (smF (hsB σ x) np && alF (hsB σ x) (tkD σ nA y) np) = true
        · rw [if_pos q, if_pos q, if_neg (by decide)]
        · rw [if_neg q, if_neg q, if_pos rfl]
      have hmo : p_M_sold f σ x y = some (if (smF (hsB σ x) np && alF (hsB σ x) (tkD σ nA y) np) = true then bdV σ (bbF σ x n) else -1000000, qmu σ 104 0 0) := by
        unfold p_M_sold
        rw [isHouseL, Option.bind_some, if_pos c1, if_neg bad_ne, isDayL, Option.bind_some, if_pos c2, if_neg bad_ne]
        refine run3o (n := np) (f := f) (fun k => b01 (smF (hsB σ x) k)) (fun k => b01 (alF (hsB σ x) (tkD σ nA y) k)) (by omega) (fun k => ?_) (fun k i hi => ?_)
        · unfold p_M_sold_l30
          rw [thr_pr e5, if_pos (nI_le (Nat.le_refl _) (by omega))]
          cases q1 : smF (hsB σ x) np
          · rw [show b01 false = 0 from rfl, bidder_n (Or.inl rfl) hf]; rfl
          · cases q2 : alF (hsB σ x) (tkD σ nA y) np
            · rw [show b01 false = 0 from rfl, bidder_n (Or.inr rfl) hf]; rfl
            · have := bidder_m (f := f) (σ := qmu σ 104 0 0) (x := x) b1 b2 b3 d2 hn hf
              rw [hbb, hbd] at this
              exact this
        · have hrow := hq.pr.row hct.2.1 hc.1 hi
          have crow := agr_c (agq0 (σ := σ) (v := 0)) (15 + i) (by omega)
          have m7 : p_M_of f (qmu σ 104 0 0) (nI i) 7 = some (σ (15 + i) 7) := by rw [← crow]; exact of_r (j := 7) hrow (by omega) (by omega)
          have hb := tkBy_m (f := f) (σ := qmu σ 104 0 0) (p := i) (n := nA) (d := y) hq.ac hrow (by omega) hct.2.2.2.1 hct.2.2.1 (by omega)
          rw [tkBy_q agq0 (show i < 12 by omega)] at hb
          have b60 : ∀ s0 : Int32, p_M_sold_b60 f k (qmu σ 104 0 0) x y (b01 (alF (hsB σ x) (tkD σ nA y) i)) (nI i) s0 = k s0 (b01 (alF (hsB σ x) (tkD σ nA y) (i + 1))) (nI (i + 1)) := by
            intro s0
            unfold p_M_sold_b60
            rw [m7, Option.bind_some, nI_1, show alF (hsB σ x) (tkD σ nA y) (i + 1) = (alF (hsB σ x) (tkD σ nA y) i && (!hsB σ x i || tkD σ nA y i)) from rfl]
            cases q0 : alF (hsB σ x) (tkD σ nA y) i
            · rfl
            · rw [if_neg (by decide), Bool.true_and]
              by_cases q1 : σ (15 + i) 7 = x
              · have hA : hsB σ x i = true := by unfold hsB; simp [q1]
                rw [if_pos q1, hA]
                by_cases q2 : tkBy σ i nA y
                · have hB : tkD σ nA y i = true := by unfold tkD; simp [q2]
                  rw [hb.1 q2, hB]; rfl
                · have hB : tkD σ nA y i = false := by unfold tkD; simp [q2]
                  rw [hb.2 q2, hB]; rfl
              · have hA : hsB σ x i = false := by unfold hsB; simp [q1]
                rw [if_neg q1, hA]; rfl
          unfold p_M_sold_l30
          rw [thr_pr e5, if_neg (nI_ge hi (by omega)), m7, Option.bind_some, b60, b60, show smF (hsB σ x) (i + 1) = (smF (hsB σ x) i || hsB σ x i) from rfl]
          cases q0 : smF (hsB σ x) i
          · rw [if_pos (by decide), Bool.false_or]
            by_cases q1 : σ (15 + i) 7 = x
            · have hA : hsB σ x i = true := by unfold hsB; simp [q1]
              rw [if_pos q1, hA]; rfl
            · have hA : hsB σ x i = false := by unfold hsB; simp [q1]
              rw [if_neg q1, hA]; rfl
          · rw [if_neg (by decide), Bool.true_or]; rfl
      rw [hcl, hmo]
      exact badR h rfl rfl
    · refine badR (r := -1000001) h ?_ ?_
      · simp [p_C_sold, noHouseL, c1, noDayL, c2]
      · simp [p_M_sold, isHouseL, c1, isDayL, c2]
  · refine badR (r := -1000001) h ?_ ?_
    · simp [p_C_sold, noHouseL, c1]
    · simp [p_M_sold, isHouseL, c1]
