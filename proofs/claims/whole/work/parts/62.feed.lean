/-! feed -/
theorem run2xc {A B R : Type} {F : (A → B → Option R) → A → B → Option R} {n : Nat} {st : Nat → A} {ix : Nat → B} {r : R} (he : ∀ k, F k (st n) (ix n) = some r) (hs : ∀ k i, i < n → F k (st i) (ix i) = k (st (i + 1)) (ix (i + 1))) : ∀ (m i e : Nat), i + m = n → qfix2 F (m + 1 + e) (st i) (ix i) = some r
  | 0, i, e, h => by
    have hi : i = n := by omega
    subst hi
    rw [show 0 + 1 + e = e + 1 by omega, qfix2_s]
    exact he _
  | m + 1, i, e, h => by
    rw [show m + 1 + 1 + e = (m + 1 + e) + 1 by omega, qfix2_s, hs _ i (by omega)]
    exact run2xc he hs m (i + 1) e (by omega)
theorem run2x {A B R : Type} {F : (A → B → Option R) → A → B → Option R} {n f : Nat} (st : Nat → A) (ix : Nat → B) {r : R} (hf : n < f) (he : ∀ k, F k (st n) (ix n) = some r) (hs : ∀ k i, i < n → F k (st i) (ix i) = k (st (i + 1)) (ix (i + 1))) : qfix2 F f (st 0) (ix 0) = some r := by
  obtain ⟨e, rfl⟩ : ∃ e, f = n + 1 + e := ⟨f - n - 1, by omega⟩
  exact run2xc he hs n 0 e (by omega)
theorem and255 (W : Int64) : (W &&& (255 : Int64)).toInt32 = nI (W.toBitVec.toNat % 256) := by
  apply Int32.toInt_inj.mp
  have h : (W &&& (255 : Int64)).toBitVec.toNat = W.toBitVec.toNat % 256 := by
    rw [Int64.toBitVec_and, BitVec.toNat_and]
    exact Nat.and_two_pow_sub_one_eq_mod _ 8
  have h2 : (W &&& (255 : Int64)).toInt = ((W.toBitVec.toNat % 256 : Nat) : Int) := by
    rw [← h]
    exact BitVec.toInt_eq_toNat_of_lt (by omega)
  rw [Int64.toInt_toInt32, h2, nI_toInt (by omega)]
  exact Int.bmod_eq_of_le (by omega) (by omega)
theorem byte_eq (W : Int64) : (W &&& (255 : Int64)).toInt32.toInt8.toInt32 = W.toInt32.toInt8.toInt32 := by
  apply Int32.toInt_inj.mp
  rw [lg_i2b_toInt, lg_i2b_toInt, and255, nI_toInt (by omega), Int64.toInt_toInt32, Int.bmod_bmod_of_dvd (by decide), show W.toInt = (W.toBitVec.toNat : Int).bmod (2 ^ 64) from BitVec.toInt_eq_toNat_bmod _, Int.bmod_bmod_of_dvd (by decide)]
  rw [show ((W.toBitVec.toNat % 256 : Nat) : Int) = (W.toBitVec.toNat : Int) % 256 by omega]
  exact Int.emod_bmod (x := (W.toBitVec.toNat : Int)) (n := 256)
def wsh (w : Int64) (i : Int32) : Int64 := w >>> ((((8 : Int32) * i)).toInt64 &&& 63)
def fdI (n t : Nat) : Int32 := nI (n - t) - 1
theorem fdI_s {n t : Nat} (h : t < n) : fdI n t = nI (n - t - 1) ∧ fdI n t + (-1) = fdI n (t + 1) := by
  unfold fdI
  have e : nI (n - t) - 1 = nI (n - t - 1) := by
    have := nI_pred (n - t - 1)
    rw [show n - t - 1 + 1 = n - t by omega] at this
    exact this
  refine ⟨e, ?_⟩
  rw [e, show n - (t + 1) = n - t - 1 by omega]
  exact (Int32.sub_eq_add_neg _ _).symm
theorem fdI_n {n : Nat} : fdI n n = -1 := by
  unfold fdI
  rw [Nat.sub_self]
  rfl
/-- t bytes have come from place L -/
def fdM (σ : qMem) (k c j L t : Nat) (g : Nat → Int32) : qMem := fun a b => if a = k ∧ L ≤ b ∧ b < L + t then g (b - L) else if a = c ∧ b = j then nI (L + t) else σ a b
theorem take_c {f : Nat} {σ : qMem} {w : Int64} {n L : Nat} (hL : σ 27 1 = nI L) (h : L + n ≤ 500) (hn : n ≤ 8) (hf : 100 < f) : qfix2 (p_Deeds_take_l20 f w) f σ (nI n - 1) = some (nI (L + n), fdM σ 28 27 1 L n (fun t => (wsh w (fdI n t)).toInt32.toInt8.toInt32)) := by
  have hh := run2x (F := p_Deeds_take_l20 f w) (n := n) (f := f) (fun t => fdM σ 28 27 1 L t (fun t => (wsh w (fdI n t)).toInt32.toInt8.toInt32)) (fun t => fdI n t) (r := (nI (L + n), fdM σ 28 27 1 L n (fun t => (wsh w (fdI n t)).toInt32.toInt8.toInt32))) (by omega) ?_ ?_
  · refine Eq.trans ?_ hh
    congr 1
    funext a b
    unfold fdM
    rw [if_neg (by omega)]
    by_cases c : a = 27 ∧ b = 1
    · rw [if_pos c, c.1, c.2, hL]; rfl
    · rw [if_neg c]
  · intro k
    unfold p_Deeds_take_l20
    rw [fdI_n, if_pos (by decide)]
    simp [fdM]
  · intro k t ht
    have e := fdI_s ht
    have e27 : fdM σ 28 27 1 L t (fun t => (wsh w (fdI n t)).toInt32.toInt8.toInt32) 27 1 = nI (L + t) := by simp [fdM]
    have np : ¬ fdI n t < 0 := by rw [e.1]; exact nI_pos (by omega)
    unfold p_Deeds_take_l20
    rw [if_neg np, e27, if_pos (qin_nI (by omega) (by omega)), mu_k (by decide), e27, nI_1, e.2, qi_nI (by omega), pk_vb]
    congr 1
    funext a b
    simp only [qmu, fdM]
    refine ite_t (fun c => ?_) (fun c => ite_t (fun c2 => ?_) (fun c2 => ite_t (fun c3 => ?_) (fun c3 => ?_)))
    · rw [if_neg (by omega), if_pos (by omega)]
      rfl
    · rw [if_pos (by omega), c2.2, show L + t - L = t by omega]
      rfl
    · rw [if_pos (by omega)]
    · rw [if_neg (by omega), if_neg (by omega), if_neg (by omega)]
theorem take_m {f : Nat} {σ : qMem} {w : Int64} {n L : Nat} (hL : σ 104 8 = nI L) (h : L + n ≤ 500) (hn : n ≤ 8) (hf : 100 < f) : qfix2 (p_M_feed_l40 f w) f σ (nI n - 1) = some (nI (L + n), fdM σ 109 104 8 L n (fun t => (wsh w (fdI n t) &&& (255 : Int64)).toInt32)) := by
  have hh := run2x (F := p_M_feed_l40 f w) (n := n) (f := f) (fun t => fdM σ 109 104 8 L t (fun t => (wsh w (fdI n t) &&& (255 : Int64)).toInt32)) (fun t => fdI n t) (r := (nI (L + n), fdM σ 109 104 8 L n (fun t => (wsh w (fdI n t) &&& (255 : Int64)).toInt32))) (by omega) ?_ ?_
  · refine Eq.trans ?_ hh
    congr 1
    funext a b
    unfold fdM
    rw [if_neg (by omega)]
    by_cases c : a = 104 ∧ b = 8
    · rw [if_pos c, c.1, c.2, hL]; rfl
    · rw [if_neg c]
  · intro k
    unfold p_M_feed_l40
    rw [fdI_n, if_pos (by decide)]
    simp [fdM]
  · intro k t ht
    have e := fdI_s ht
    have e27 : fdM σ 109 104 8 L t (fun t => (wsh w (fdI n t) &&& (255 : Int64)).toInt32) 104 8 = nI (L + t) := by simp [fdM]
    have np : ¬ fdI n t < 0 := by rw [e.1]; exact nI_pos (by omega)
    unfold p_M_feed_l40
    rw [if_neg np, e27, if_pos (qin_nI (by omega) (by omega)), mu_k (by decide), e27, nI_1, e.2, qi_nI (by omega)]
    congr 1
    funext a b
    simp only [qmu, fdM]
    refine ite_t (fun c => ?_) (fun c => ite_t (fun c2 => ?_) (fun c2 => ite_t (fun c3 => ?_) (fun c3 => ?_)))
    · rw [if_neg (by omega), if_pos (by omega)]
      rfl
    · rw [if_pos (by omega), c2.2, show L + t - L = t by omega]
      rfl
    · rw [if_pos (by omega)]
    · rw [if_neg (by omega), if_neg (by omega), if_neg (by omega)]
theorem feed_ok {f : Nat} {σ : qMem} (h : Inv σ) (hf : 100 < f) (w : Int64) (x : Int32) : PairW (p_C_feed f σ w x) (fun s => p_M_feed f s w x) := by
  by_cases c1 : rg x 1 8
  · obtain ⟨n, hn, rfl⟩ := rg_nat (b := 8) ⟨by have := c1.1; omega, c1.2⟩
    obtain ⟨⟨L, hL, e1, e2⟩, hb⟩ := h.tp
    have k1 : (500 : Int32) - nI L = nI (500 - L) := by
      rw [show (500 : Int32) = nI 500 from rfl, pk_sub hL]
    by_cases c2 : L + n ≤ 500
    · have t1 : nI n ≤ nI (500 - L) := nI_le (by omega) (by omega)
      have t2 : nI (L + n) ≤ 500 := by exact nI_le (a := L + n) (b := 500) (by omega) (by omega)
      refine ⟨nI (L + n), fdM σ 28 27 1 L n (fun t => (wsh w (fdI n t)).toInt32.toInt8.toInt32), fdM (qmu (fdM σ 28 27 1 L n (fun t => (wsh w (fdI n t)).toInt32.toInt8.toInt32)) 104 0 0) 109 104 8 L n (fun t => (wsh w (fdI n t) &&& (255 : Int64)).toInt32), ?_, ?_, ?_⟩
      · simp only [p_C_feed, outL, show rg (nI n) (1 : Int32).toInt (8 : Int32).toInt = True from eq_true c1, if_true, Option.bind_some, p_Deeds_take, e1, k1, t1, take_c e1 c2 hn hf]
      · have e3 : (qmu (fdM σ 28 27 1 L n (fun t => (wsh w (fdI n t)).toInt32.toInt8.toInt32)) 104 0 0) 104 8 = nI L := by
          simp [qmu, fdM, e2]
        simp only [p_M_feed, inL, show rg (nI n) (1 : Int64).toInt (8 : Int64).toInt = True from eq_true c1, if_true, Option.bind_some, e3, nI_add, t2, take_m e3 c2 hn hf, bad_ne, if_false]
      · refine h.u_tp ?_ ⟨⟨L + n, by omega, by simp [fdM, qmu], by simp [fdM]⟩, ?_⟩
        · intro a b hp
          unfold P_tp at hp
          simp only [fdM, qmu]
          repeat (first | rw [if_neg (by omega)] | rw [if_pos (by omega)])
        · intro i hi
          simp only [fdM, qmu, true_and]
          by_cases c3 : L ≤ i ∧ i < L + n
          · repeat (first | rw [if_neg (by omega)] | rw [if_pos (by omega)])
            refine ⟨(byte_eq _).symm, ?_⟩
            rw [and255]
            exact nI_rg (by omega) (by omega) (by omega)
          · repeat (first | rw [if_neg (by omega)] | rw [if_pos (by omega)])
            exact hb i hi
    · have t1 : ¬ nI n ≤ nI (500 - L) := nI_ge (by omega) (by omega)
      have t2 : ¬ nI (L + n) ≤ 500 := by exact nI_ge (b := L + n) (a := 500) (by omega) (by omega)
      refine badW (r := -1000003) h ?_ ?_
      · simp only [p_C_feed, outL, show rg (nI n) (1 : Int32).toInt (8 : Int32).toInt = True from eq_true c1, if_true, Option.bind_some, p_Deeds_take, e1, k1, t1, if_false]
      · have e3 : (qmu σ 104 0 0) 104 8 = nI L := by rw [mu_j (by decide)]; exact e2
        simp only [p_M_feed, inL, show rg (nI n) (1 : Int64).toInt (8 : Int64).toInt = True from eq_true c1, if_true, Option.bind_some, e3, nI_add, t2, bad_ne, if_false]
  · refine badW (r := -1000001) h ?_ ?_
    · simp [p_C_feed, outL, c1]
    · simp [p_M_feed, inL, c1]
