/-! feast -/
theorem run1c {B R : Type} {F : (B → Option R) → B → Option R} {n : Nat} {ix : Nat → B} {r : Option R} (he : ∀ k, F k (ix n) = r) (hs : ∀ k i, i < n → F k (ix i) = k (ix (i + 1))) : ∀ (m i e : Nat), i + m = n → qfix1 F (m + 1 + e) (ix i) = r
  | 0, i, e, h => by
    have hi : i = n := by omega
    subst hi
    rw [show 0 + 1 + e = e + 1 by omega, qfix1_s]
    exact he _
  | m + 1, i, e, h => by
    rw [show m + 1 + 1 + e = (m + 1 + e) + 1 by omega, qfix1_s, hs _ i (by omega)]
    exact run1c he hs m (i + 1) e (by omega)
theorem run1 {B R : Type} {F : (B → Option R) → B → Option R} {n f : Nat} (ix : Nat → B) {r : Option R} (hf : n < f) (he : ∀ k, F k (ix n) = r) (hs : ∀ k i, i < n → F k (ix i) = k (ix (i + 1))) : qfix1 F f (ix 0) = r := by
  obtain ⟨e, rfl⟩ : ∃ e, f = n + 1 + e := ⟨f - n - 1, by omega⟩
  exact run1c he hs n 0 e (by omega)
theorem pos_ex (D : Nat → Int32) (d : Int32) : ∀ m : Nat, ∃ p, p ≤ m ∧ (∀ i, i < p → D i < d) ∧ (p < m → d ≤ D p)
  | 0 => ⟨0, Nat.le_refl _, fun i h => absurd h (Nat.not_lt_zero _), fun h => absurd h (Nat.lt_irrefl _)⟩
  | m + 1 => by
    obtain ⟨p, h1, h2, h3⟩ := pos_ex D d m
    by_cases c : p < m
    · exact ⟨p, by omega, h2, fun _ => h3 c⟩
    · have hp : p = m := by omega
      subst hp
      by_cases c2 : D p < d
      · refine ⟨p + 1, Nat.le_refl _, fun i hi => ?_, fun h => absurd h (Nat.lt_irrefl _)⟩
        by_cases e : i = p
        · rw [e]; exact c2
        · exact h2 i (by omega)
      · exact ⟨p, by omega, h2, fun _ => Int32.not_lt.mp c2⟩
def insF (g : Nat → Int32) (m p : Nat) (v : Int32) : Nat → Int32 := fun b => if b = p then v else if p < b ∧ b ≤ m then g (b - 1) else g b
def shM (σ : qMem) (m t : Nat) : qMem := fun a b => if (a = 30 ∨ a = 31) ∧ m - t < b ∧ b ≤ m then σ a (b - 1) else σ a b
def insM (σ : qMem) (m p : Nat) (d r : Int32) : qMem := fun a b => if a = 30 then insF (σ 30) m p d b else if a = 31 then insF (σ 31) m p r b else if a = 29 ∧ b = 2 then nI (m + 1) else σ a b
theorem bind_eta (o : Option (Int32 × qMem)) : (o.bind fun u => some (u.1, u.2)) = o := by
  cases o <;> rfl
theorem ins30 {σ : qMem} {m p : Nat} {d r : Int32} : insM σ m p d r 30 = insF (σ 30) m p d := by
  funext b
  simp [insM]
theorem ins31 {σ : qMem} {m p : Nat} {d r : Int32} : insM σ m p d r 31 = insF (σ 31) m p r := by
  funext b
  simp [insM]
theorem ins_k {σ : qMem} {m p a : Nat} {d r : Int32} (h1 : a ≠ 30) (h2 : a ≠ 31) (h3 : a ≠ 29) : insM σ m p d r a = σ a := by
  funext b
  simp [insM, h1, h2, h3]
theorem insert_c {f : Nat} {σ : qMem} {m p : Nat} {d r : Int32} (hm : σ 29 2 = nI m) (hm2 : m < 30) (hp : p ≤ m) (hf : 100 < f) : p_Feasts_insert f σ (nI p) d r = some (insM σ m p d r) := by
  unfold p_Feasts_insert
  rw [hm]
  have hh := run2x (F := p_Feasts_insert_l6 f (nI p) d r) (n := m - p) (f := f) (fun t => shM σ m t) (fun t => nI (m - t)) (r := insM σ m p d r) (by omega) ?_ ?_
  · refine Eq.trans ?_ hh
    congr 1
    funext a b
    unfold shM
    rw [if_neg (by omega)]
  · intro k
    unfold p_Feasts_insert_l6
    rw [show m - (m - p) = p by omega, if_pos (nI_le (Nat.le_refl _) (by omega)), if_pos (qin_nI (by omega) (by omega)), if_pos (qin_nI (by omega) (by omega)), qi_nI (by omega)]
    congr 1
    funext a b
    simp only [qmu, shM, insM, insF]
    by_cases a30 : a = 30
    · subst a30
      by_cases e1 : b = p
      · subst e1; simp
      · by_cases e2 : p < b ∧ b ≤ m
        · simp [e1, e2, show m - (m - p) < b by omega]
        · simp [e1, e2, show ¬ (m - (m - p) < b ∧ b ≤ m) by omega]
    · by_cases a31 : a = 31
      · subst a31
        by_cases e1 : b = p
        · subst e1; simp
        · by_cases e2 : p < b ∧ b ≤ m
          · simp [e1, e2, show m - (m - p) < b by omega]
          · simp [e1, e2, show ¬ (m - (m - p) < b ∧ b ≤ m) by omega]
      · by_cases a29 : a = 29 ∧ b = 2
        · simp [a29, hm, nI_1]
        · simp [a29, a30, a31]
  · intro k t ht
    unfold p_Feasts_insert_l6
    have e1 : nI (m - t) - 1 = nI (m - t - 1) := by rw [show (1 : Int32) = nI 1 from rfl, pk_sub (by omega)]
    have e2 : nI (m - t) + (-1) = nI (m - (t + 1)) := by
      have := pk_m1 (m - (t + 1))
      rw [show m - (t + 1) + 1 = m - t by omega] at this
      exact this
    rw [if_neg (nI_ge (by omega) (by omega)), e1, if_pos (qin_nI (by omega) (by omega)), if_pos (qin_nI (by omega) (by omega)), if_pos (qin_nI (by omega) (by omega)), if_pos (qin_nI (by omega) (by omega)), e2, qi_nI (by omega), qi_nI (by omega)]
    congr 1
    funext a b
    simp only [qmu, shM]
    by_cases a31 : a = 31
    · subst a31
      by_cases e1 : b = m - t
      · subst e1
        simp [show m - (t + 1) < m - t by omega, show ¬ m - t < m - t - 1 by omega]
      · by_cases c : m - t < b ∧ b ≤ m
        · simp [e1, c, show m - (t + 1) < b by omega]
        · simp [e1, c, show ¬ (m - (t + 1) < b ∧ b ≤ m) by omega]
    · by_cases a30 : a = 30
      · subst a30
        by_cases e1 : b = m - t
        · subst e1
          simp [show m - (t + 1) < m - t by omega, show ¬ m - t < m - t - 1 by omega]
        · by_cases c : m - t < b ∧ b ≤ m
          · simp [e1, c, show m - (t + 1) < b by omega]
          · simp [e1, c, show ¬ (m - (t + 1) < b ∧ b ≤ m) by omega]
      · simp [a30, a31]
def feOk (n m : Nat) (D R d r : Nat → Int32) : Prop := (∀ i, i < m → rg (D i) 0 9999 ∧ rg (R i) 1 2) ∧ (∀ i j, i < j → j < m → D i < D j) ∧ (∀ i, i < n → rg (d i) 0 9999 ∧ rg (r i) 1 2) ∧ (∀ i, i < m → ∃ k, k < n ∧ d k = D i ∧ r k = R i) ∧ ∀ k, k < n → ∃ i, i < m ∧ D i = d k ∧ r k ≤ R i
theorem feOk_old {n m : Nat} {D R d r : Nat → Int32} {x y : Int32} (h4 : ∀ i, i < m → ∃ k, k < n ∧ d k = D i ∧ r k = R i) (i : Nat) (hi : i < m) : ∃ k, k < n + 1 ∧ upd d n x k = D i ∧ upd r n y k = R i := by
  obtain ⟨k, q1, q2, q3⟩ := h4 i hi
  exact ⟨k, by omega, by rw [upd_n (by omega)]; exact q2, by rw [upd_n (by omega)]; exact q3⟩
theorem feOk_rg {n : Nat} {d r : Nat → Int32} {x y : Int32} (hx : rg x 0 9999) (hy : rg y 1 2) (h3 : ∀ i, i < n → rg (d i) 0 9999 ∧ rg (r i) 1 2) : ∀ i, i < n + 1 → rg (upd d n x i) 0 9999 ∧ rg (upd r n y i) 1 2 := by
  intro i hi
  by_cases e : i = n
  · subst e; rw [upd_s, upd_s]; exact ⟨hx, hy⟩
  · rw [upd_n e, upd_n e]; exact h3 i (by omega)
theorem feOk_upd {n m p : Nat} {D R d r : Nat → Int32} {x y : Int32} (h : feOk n m D R d r) (hx : rg x 0 9999) (hy : rg y 1 2) (hp : p < m) (hD : D p = x) : feOk (n + 1) m D (upd R p (if R p < y then y else R p)) (upd d n x) (upd r n y) := by
  obtain ⟨h1, h2, h3, h4, h5⟩ := h
  refine ⟨fun i hi => ?_, h2, feOk_rg hx hy h3, fun i hi => ?_, fun k hk => ?_⟩
  · refine ⟨(h1 i hi).1, ?_⟩
    by_cases e : i = p
    · subst e
      rw [upd_s]
      by_cases c : R i < y
      · rw [if_pos c]; exact hy
      · rw [if_neg c]; exact (h1 i hi).2
    · rw [upd_n e]; exact (h1 i hi).2
  · by_cases e : i = p
    · subst e
      rw [upd_s]
      by_cases c : R i < y
      · rw [if_pos c]
        exact ⟨n, by omega, by rw [upd_s, hD], by rw [upd_s]⟩
      · rw [if_neg c]
        exact feOk_old h4 i hi
    · rw [upd_n e]
      exact feOk_old h4 i hi
  · by_cases e : k = n
    · subst e
      rw [upd_s, upd_s]
      refine ⟨p, hp, hD, ?_⟩
      rw [upd_s]
      by_cases c : R p < y
      · rw [if_pos c]; exact Int32.le_refl _
      · rw [if_neg c]; exact Int32.not_lt.mp c
    · obtain ⟨i, q1, q2, q3⟩ := h5 k (by omega)
      rw [upd_n e, upd_n e]
      refine ⟨i, q1, q2, ?_⟩
      by_cases e2 : i = p
      · subst e2
        rw [upd_s]
        by_cases c : R i < y
        · rw [if_pos c]; exact Int32.le_of_lt (Int32.lt_of_le_of_lt q3 c)
        · rw [if_neg c]; exact q3
      · rw [upd_n e2]; exact q3
theorem feOk_ins {n m p : Nat} {D R d r : Nat → Int32} {x y : Int32} (h : feOk n m D R d r) (hx : rg x 0 9999) (hy : rg y 1 2) (hp : p ≤ m) (hl : ∀ i, i < p → D i < x) (hg : p < m → x < D p) : feOk (n + 1) (m + 1) (insF D m p x) (insF R m p y) (upd d n x) (upd r n y) := by
  obtain ⟨h1, h2, h3, h4, h5⟩ := h
  have hg2 : ∀ j, p ≤ j → j < m → x < D j := by
    intro j q1 q2
    by_cases e : j = p
    · rw [e]; exact hg (by omega)
    · exact Int32.lt_trans (hg (by omega)) (h2 p j (by omega) q2)
  have v1 : ∀ (g : Nat → Int32) (v : Int32), insF g m p v p = v := fun g v => by unfold insF; rw [if_pos rfl]
  have v2 : ∀ (g : Nat → Int32) (v : Int32) (i : Nat), i < p → insF g m p v i = g i := fun g v i hi => by unfold insF; rw [if_neg (by omega), if_neg (by omega)]
  have v3 : ∀ (g : Nat → Int32) (v : Int32) (i : Nat), p ≤ i → i < m → insF g m p v (i + 1) = g i := fun g v i hi h2 => by unfold insF; rw [if_neg (by omega), if_pos (by omega)]; rfl
  have cs : ∀ i, i < m + 1 → i = p ∨ i < p ∨ ∃ j, i = j + 1 ∧ p ≤ j ∧ j < m := fun i hi => by
    by_cases e : i ≤ p
    · omega
    · exact Or.inr (Or.inr ⟨i - 1, by omega, by omega, by omega⟩)
  refine ⟨fun i hi => ?_, fun i j hij hj => ?_, feOk_rg hx hy h3, fun i hi => ?_, fun k hk => ?_⟩
  · rcases cs i hi with e | e | ⟨j, rfl, e1, e2⟩
    · rw [e, v1, v1]; exact ⟨hx, hy⟩
    · rw [v2 _ _ _ e, v2 _ _ _ e]; exact h1 i (by omega)
    · rw [v3 _ _ _ e1 e2, v3 _ _ _ e1 e2]; exact h1 j e2
  · rcases cs i (by omega) with e | e | ⟨i', rfl, e1, e2⟩
    · rcases cs j hj with q | q | ⟨j', rfl, q1, q2⟩
      · omega
      · omega
      · rw [e, v1, v3 _ _ _ q1 q2]; exact hg2 j' q1 q2
    · rcases cs j hj with q | q | ⟨j', rfl, q1, q2⟩
      · rw [q, v1, v2 _ _ _ e]; exact hl i e
      · rw [v2 _ _ _ e, v2 _ _ _ q]; exact h2 i j hij (by omega)
      · rw [v2 _ _ _ e, v3 _ _ _ q1 q2]; exact h2 i j' (by omega) q2
    · rcases cs j hj with q | q | ⟨j', rfl, q1, q2⟩
      · omega
      · omega
      · rw [v3 _ _ _ e1 e2, v3 _ _ _ q1 q2]; exact h2 i' j' (by omega) q2
  · rcases cs i hi with e | e | ⟨j, rfl, e1, e2⟩
    · rw [e, v1, v1]
      exact ⟨n, by omega, upd_s, upd_s⟩
    · rw [v2 _ _ _ e, v2 _ _ _ e]; exact feOk_old h4 i (by omega)
    · rw [v3 _ _ _ e1 e2, v3 _ _ _ e1 e2]; exact feOk_old h4 j e2
  · by_cases e : k = n
    · subst e
      rw [upd_s, upd_s]
      exact ⟨p, by omega, v1 _ _, by rw [v1]; exact Int32.le_refl _⟩
    · obtain ⟨i, q1, q2, q3⟩ := h5 k (by omega)
      rw [upd_n e, upd_n e]
      by_cases c : i < p
      · exact ⟨i, by omega, by rw [v2 _ _ _ c]; exact q2, by rw [v2 _ _ _ c]; exact q3⟩
      · exact ⟨i + 1, by omega, by rw [v3 _ _ _ (by omega) q1]; exact q2, by rw [v3 _ _ _ (by omega) q1]; exact q3⟩
theorem full30 {n : Nat} (hn : n ≤ 30) : (nI n < 30 ↔ n < 30) ∧ (nI n = 30 ↔ n = 30) := ⟨nI_ltI (a := n) (b := 30) (by omega) (by omega), nI_eq (a := n) (b := 30) (by omega) (by omega)⟩
theorem feast_m {f : Nat} {σ : qMem} {n : Nat} {x y : Int32} (c1 : rg x 0 9999) (c2 : rg y 1 2) (hn : n < 30) (e : σ 104 18 = nI n) : p_M_feast f σ x y = some (nI (n + 1), qmu (qmu (qmu (qmu σ 104 0 0) 110 n x) 111 n y) 104 18 (nI (n + 1))) := by
  have hq := qin_nI (k := n) (n := 30) hn (by omega)
  have hi : (nI n).toNatClampNeg = n := qi_nI (by omega)
  have hne : ¬ nI n = 30 := fun e => by have := (full30 (by omega)).2.mp e; omega
  simp [p_M_feast, isDayL, inL, c1, c2, e, hne, hq, hi, mu_c, nI_1, upd]
theorem feast_ok {f : Nat} {σ : qMem} (h : Inv σ) (hf : 100 < f) (x y : Int32) : PairW (p_C_feast f σ x y) (fun s => p_M_feast f s x y) := by
  by_cases c1 : rg x 0 9999
  · by_cases c2 : rg y 1 2
    · obtain ⟨n, m, hn, hm, e1, e2, e3, hfe⟩ := h.fe
      have hfe' : feOk n m (σ 30) (σ 31) (σ 110) (σ 111) := hfe
      by_cases c3 : n < 30
      · have hlt : nI n < 30 := (full30 hn).1.mpr c3
        obtain ⟨p, hp, hl, hg⟩ := pos_ex (σ 30) x m
        have s3 : (qmu σ 29 3 (nI (n + 1))) 29 2 = nI m := by rw [mu_j (by decide)]; exact e3
        have s30 : (qmu σ 29 3 (nI (n + 1))) 30 = σ 30 := by funext b; exact mu_k (by decide)
        have s31 : (qmu σ 29 3 (nI (n + 1))) 31 = σ 31 := by funext b; exact mu_k (by decide)
        have hadd : p_Feasts_add f σ x y = p_Feasts_add_b36 f (qmu σ 29 3 (nI (n + 1))) x y (nI p) := by
          unfold p_Feasts_add
          rw [e1, nI_1]
          refine run1 (n := p) (fun i => nI i) (by omega) (fun k => ?_) (fun k i hi => ?_)
          · unfold p_Feasts_add_l12
            rw [s3]
            by_cases q : p < m
            · rw [if_neg (nI_ge q (by omega)), if_pos (qin_nI (by omega) (by omega)), qi_nI (by omega), s30, if_pos (hg q)]
            · rw [if_pos (nI_le (by omega) (by omega))]
          · unfold p_Feasts_add_l12
            rw [s3, if_neg (nI_ge (by omega) (by omega)), if_pos (qin_nI (by omega) (by omega)), qi_nI (by omega), s30, if_neg (Int32.not_le.mpr (hl i hi)), nI_1]
        have hC : p_C_feast f σ x y = p_Feasts_add_b36 f (qmu σ 29 3 (nI (n + 1))) x y (nI p) := by
          simp only [p_C_feast, noDayL, outL, c1, show rg y (1 : Int32).toInt (2 : Int32).toInt = True from eq_true c2, if_true, Option.bind_some, p_Feasts_full, e1, hlt, hadd]
          exact bind_eta _
        have insCase : (p < m → x < σ 30 p) → p_Feasts_add_b36 f (qmu σ 29 3 (nI (n + 1))) x y (nI p) = p_Feasts_add_b73 f (qmu σ 29 3 (nI (n + 1))) x y (nI p) → PairW (p_C_feast f σ x y) (fun s => p_M_feast f s x y) := by
          intro hg2 hb
          refine ⟨nI (n + 1), insM (qmu σ 29 3 (nI (n + 1))) m p x y, _, ?_, feast_m (n := n) c1 c2 c3 (by simp [insM, qmu, e2]), ?_⟩
          · rw [hC, hb]
            simp [p_Feasts_add_b73, insert_c s3 (show m < 30 by omega) hp hf, insM, qmu]
          · have hne := feOk_ins hfe' c1 c2 hp hl hg2
            refine h.u_fe ?_ ⟨n + 1, m + 1, by omega, by omega, by simp [insM, qmu], by simp [insM, qmu], by simp [insM, qmu], ?_⟩
            · intro a b hpp
              unfold P_fe at hpp
              simp only [insM, qmu]
              repeat (first | rw [if_neg (by omega)] | rw [if_pos (by omega)])
            · unfold feOk at hne
              have t30 : (qmu (qmu (qmu (qmu (insM (qmu σ 29 3 (nI (n + 1))) m p x y) 104 0 0) 110 n x) 111 n y) 104 18 (nI (n + 1))) 30 = insF (σ 30) m p x := by simp [mu_c, ins30, ins31, ins_k]
              have t31 : (qmu (qmu (qmu (qmu (insM (qmu σ 29 3 (nI (n + 1))) m p x y) 104 0 0) 110 n x) 111 n y) 104 18 (nI (n + 1))) 31 = insF (σ 31) m p y := by simp [mu_c, ins30, ins31, ins_k]
              have t110 : (qmu (qmu (qmu (qmu (insM (qmu σ 29 3 (nI (n + 1))) m p x y) 104 0 0) 110 n x) 111 n y) 104 18 (nI (n + 1))) 110 = upd (σ 110) n x := by simp [mu_c, ins30, ins31, ins_k]
              have t111 : (qmu (qmu (qmu (qmu (insM (qmu σ 29 3 (nI (n + 1))) m p x y) 104 0 0) 110 n x) 111 n y) 104 18 (nI (n + 1))) 111 = upd (σ 111) n y := by simp [mu_c, ins30, ins31, ins_k]
              rw [t30, t31, t110, t111]
              exact hne
        by_cases q : p < m
        · by_cases q2 : σ 30 p = x
          · have hb : p_Feasts_add_b36 f (qmu σ 29 3 (nI (n + 1))) x y (nI p) = some (nI (n + 1), qmu (qmu σ 29 3 (nI (n + 1))) 31 p (if σ 31 p < y then y else σ 31 p)) := by
              unfold p_Feasts_add_b36
              rw [s3, if_neg (nI_ge q (by omega)), if_pos (qin_nI (by omega) (by omega)), qi_nI (by omega), s30, s31, if_pos q2, if_pos (qin_nI (by omega) (by omega)), if_pos (qin_nI (by omega) (by omega)), mu_k (by decide), mu_s]
            refine ⟨nI (n + 1), qmu (qmu σ 29 3 (nI (n + 1))) 31 p (if σ 31 p < y then y else σ 31 p), _, hC.trans hb, feast_m (n := n) c1 c2 c3 (by simp [qmu, e2]), ?_⟩
            have hne := feOk_upd hfe' c1 c2 q q2
            refine h.u_fe (by repeat (first | exact agr_rf | refine agr_mu ?_ (by unfold P_fe; omega))) ⟨n + 1, m, by omega, by omega, by simp [qmu], by simp [qmu], by simp [qmu, e3], ?_⟩
            unfold feOk at hne
            simp only [mu_c]
            simp
            exact hne
          · refine insCase (fun _ => ?_) ?_
            · have := hg q
              rw [i32_le] at this
              rw [i32_lt]
              rw [i32_eq] at q2
              omega
            · unfold p_Feasts_add_b36
              rw [s3, if_neg (nI_ge q (by omega)), if_pos (qin_nI (by omega) (by omega)), qi_nI (by omega), s30, if_neg q2]
        · refine insCase (fun q' => absurd q' q) ?_
          unfold p_Feasts_add_b36
          rw [s3, if_pos (nI_le (by omega) (by omega))]
      · have hn30 : nI n = 30 := (full30 hn).2.mpr (by omega)
        refine badW (r := -1000003) h ?_ ?_
        · simp [p_C_feast, noDayL, outL, c1, c2, p_Feasts_full, e1, hn30]
        · simp [p_M_feast, isDayL, inL, c1, c2, mu_c, upd, e2, hn30]
    · refine badW (r := -1000001) h ?_ ?_
      · simp [p_C_feast, noDayL, outL, c1, c2]
      · simp [p_M_feast, isDayL, inL, c1, c2]
  · refine badW (r := -1000001) h ?_ ?_
    · simp [p_C_feast, noDayL, c1]
    · simp [p_M_feast, isDayL, c1]
