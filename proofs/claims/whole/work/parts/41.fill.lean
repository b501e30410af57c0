/-! blank cells; Arrays.fill over any cells -/
def qrn (ρ : qRf) (n : Nat) : qRf := fun x y => if x = n then some (n + 1 + y) else ρ x y
def qfl (σ : qMem) (k n : Nat) (v : Int32) : qMem := fun a b => if a = k ∧ b < n then v else σ a b
def qbl (n : Nat) (ρ : qRf) (σ : qMem) : Prop := (∀ k, n ≤ k → ∀ j, ρ k j = none) ∧ (∀ k, n ≤ k → ∀ j, σ k j = 0)
theorem qbl_up {n n' : Nat} {ρ : qRf} {σ : qMem} (h : qbl n ρ σ) (hn : n ≤ n') : qbl n' ρ σ := ⟨fun k hk => h.1 k (Nat.le_trans hn hk), fun k hk => h.2 k (Nat.le_trans hn hk)⟩
theorem qbl_ru {n k j : Nat} {v : Option Nat} {ρ : qRf} {σ : qMem} (h : qbl n ρ σ) (hk : k < n) : qbl n (qru ρ k j v) σ := ⟨fun a ha b => by
  have : ¬ a = k := by omega
  simp only [qru, this, false_and, if_false]
  exact h.1 a ha b, h.2⟩
theorem qbl_mu {n k j : Nat} {v : Int32} {ρ : qRf} {σ : qMem} (h : qbl n ρ σ) (hk : k < n) : qbl n ρ (qmu σ k j v) := ⟨h.1, fun a ha b => by
  have : ¬ a = k := by omega
  simp only [qmu, this, false_and, if_false]
  exact h.2 a ha b⟩
theorem qbl_fl {n k n1 : Nat} {v : Int32} {ρ : qRf} {σ : qMem} (h : qbl n ρ σ) (hk : k < n) : qbl n ρ (qfl σ k n1 v) := ⟨h.1, fun a ha b => by
  have : ¬ a = k := by omega
  simp only [qfl, this, false_and, if_false]
  exact h.2 a ha b⟩
theorem qbl_rm {n n0 : Nat} {ρ : qRf} {σ : qMem} (h : qbl n ρ σ) (hk : n0 < n) : qbl n (qrn ρ n0) σ := ⟨fun a ha b => by
  have : ¬ a = n0 := by omega
  simp only [qrn, this, if_false]
  exact h.1 a ha b, h.2⟩
set_option maxHeartbeats 4000000 in
theorem g_Ar_fill_lb5 {ks : List qKd} {ρ : qRf} (hlen : ks.length ≤ 1048576) {G : qG} {X : qX} (hX : qOk G X "java/util/Arrays" prog_21_method_103_code 4 none 1) {u : qMem} {f : Nat} {x0 : Nat} {nx0 : Nat} {x1 : Int32} {x3 : Int32} (hkx0 : ks[x0]? = some (100, nx0)) (hT : qTg G X 0 0 ks ρ u none) {k5 : qMem → Int32 → Option (qMem)} (hk5 : ∀ (σ : qMem) (x2 : Int32), k5 σ x2 = some u → qV G X 0 0 ks ρ σ 5 [some (.ref x0), some (.int x1), some (.int x2), some (.int x3)] []) {σ : qMem} {x2 : Int32} (h : p_Ar_fill_l5 f  x0 nx0 x1 x3  k5 σ x2 = some u) : qV G X 0 0 ks ρ σ 5 [some (.ref x0), some (.int x1), some (.int x2), some (.int x3)] [] := by
  unfold p_Ar_fill_l5 at h
  refine q_iload_n hX d_Ar_fill_5 rfl ?_
  refine q_iload_n hX d_Ar_fill_6 rfl ?_
  refine q_icmp_ge hX d_Ar_fill_7 rfl h (fun _ h => ?_) (fun _ h => ?_)
  · exact q_vretW hX h hT d_Ar_fill_20
  · refine q_aload_n hX d_Ar_fill_10 rfl ?_
    refine q_iload_n hX d_Ar_fill_11 rfl ?_
    refine q_iload_n hX d_Ar_fill_12 rfl ?_
    refine q_iast hX hkx0 hlen d_Ar_fill_13 h (fun hi1 h => ?_)
    refine q_iinc hX d_Ar_fill_14 rfl (ii_1 _) (by decide) rfl rfl ?_
    refine q_goto hX d_Ar_fill_17 rfl ?_
    exact q_mask [true, true, true, true] rfl (hk5 _ _ h)
theorem g_Ar_fill_l5 {ks : List qKd} {ρ : qRf} (hlen : ks.length ≤ 1048576) {G : qG} {X : qX} (hX : qOk G X "java/util/Arrays" prog_21_method_103_code 4 none 1) {u : qMem} {f : Nat} {x0 : Nat} {nx0 : Nat} {x1 : Int32} {x3 : Int32} (hkx0 : ks[x0]? = some (100, nx0)) (hT : qTg G X 0 0 ks ρ u none) : ∀ (n : Nat) (σ : qMem) (x2 : Int32), qfix2 (p_Ar_fill_l5 f  x0 nx0 x1 x3 ) n σ x2 = some u → qV G X 0 0 ks ρ σ 5 [some (.ref x0), some (.int x1), some (.int x2), some (.int x3)] [] :=
  qfix2_ind (fun k hk _ _ h => g_Ar_fill_lb5 hlen hX  hkx0 hT  hk h)
set_option maxHeartbeats 4000000 in
theorem g_Ar_fill_c {ks : List qKd} {ρ : qRf} (hlen : ks.length ≤ 1048576) (l : Launch) (G : qG) (hA : qAd G) (f : Nat) (σ : qMem) (x0 : Nat) (nx0 : Nat) (x1 : Int32) {u : qMem} (hkx0 : ks[x0]? = some (100, nx0)) (h : p_Ar_fill f σ x0 nx0 x1 = some u) : qCt l y_Ar_fill prog_21_method_103_code 4 none 1 G ks ρ σ [(.ref x0), (.int x1)] none ks ρ u 0 0 := by
  refine qCt.of (lv := [some (.ref x0), some (.int x1), none, none]) (by decide) hA (Nat.le_of_ble_eq_true rfl) rfl ?_
  intro X hl _ _ _ hX hT
  subst hl
  unfold p_Ar_fill at h
  refine q_iconst hX d_Ar_fill_0 ic_0 ?_
  refine q_istore_n hX d_Ar_fill_1 (by decide) rfl rfl ?_
  refine q_aload_n hX d_Ar_fill_2 rfl ?_
  refine q_alen hX hkx0 (Or.inl rfl) rfl d_Ar_fill_3 ?_
  refine q_istore_n hX d_Ar_fill_4 (by decide) rfl rfl ?_
  exact q_mask [true, true, true, true] rfl (g_Ar_fill_l5 hlen hX hkx0 hT f _ _ h)
theorem fill_loop (f k n : Nat) (v : Int32) (hn : n < 2 ^ 31) (e : Nat) : ∀ (m i : Nat) (σ : qMem), i + m = n → qfix2 (p_Ar_fill_l5 f k n v (Int32.ofNat n)) (m + 1 + e) σ (nI i) = some (fun a b => if a = k ∧ i ≤ b ∧ b < n then v else σ a b)
  | 0, i, σ, h => by
    have hi : i = n := by omega
    subst hi
    rw [show 0 + 1 + e = e + 1 by omega, qfix2_s, p_Ar_fill_l5]
    rw [if_pos (show Int32.ofNat i ≤ nI i from nI_le (Nat.le_refl _) hn)]
    congr 1
    funext a b
    rw [if_neg (by omega)]
  | m + 1, i, σ, h => by
    rw [show m + 1 + 1 + e = (m + 1 + e) + 1 by omega, qfix2_s, p_Ar_fill_l5]
    have hin : qin (nI i) n = true := by
      unfold qin
      rw [nI_clamp (by omega)]
      simp only [Bool.and_eq_true, Bool.not_eq_true', decide_eq_false_iff_not, decide_eq_true_eq]
      exact ⟨nI_pos (by omega), by omega⟩
    rw [if_neg (show ¬ Int32.ofNat n ≤ nI i from nI_ge (by omega) hn), if_pos hin, nI_1, show qi (nI i) = i from nI_clamp (by omega)]
    rw [fill_loop f k n v hn e m (i + 1) _ (by omega)]
    congr 1
    funext a b
    unfold qmu
    by_cases h1 : a = k ∧ i + 1 ≤ b ∧ b < n
    · rw [if_pos h1, if_pos (by omega)]
    · rw [if_neg h1]
      by_cases h2 : a = k ∧ b = i
      · rw [if_pos h2, if_pos (by omega)]
      · rw [if_neg h2, if_neg (by omega)]
theorem fill_ok {f k n : Nat} {v : Int32} {σ : qMem} (hn : n < 2 ^ 31) (hf : n < f) : p_Ar_fill f σ k n v = some (qfl σ k n v) := by
  obtain ⟨e, rfl⟩ : ∃ e, f = n + 1 + e := ⟨f - n - 1, by omega⟩
  unfold p_Ar_fill
  have h := fill_loop (n + 1 + e) k n v hn e n 0 σ (by omega)
  rw [show (0 : Int32) = nI 0 from nI_0.symm, h]
  congr 1
  funext a b
  simp [qfl]
theorem c_fillG (l : Launch) (G : qG) (hA : qAd G) (f : Nat) (hf : 1000 ≤ f) {ks : List qKd} {ρ : qRf} (hlen : ks.length ≤ 1048576) {k n : Nat} (hk : ks[k]? = some (100, n)) (hn : n < 1000) (v : Int32) {σ : qMem} : qCt l y_Ar_fill prog_21_method_103_code 4 none 1 G ks ρ σ [.ref k, .int v] none ks ρ (qfl σ k n v) 0 0 :=
  g_Ar_fill_c hlen l G hA f σ k n v hk (fill_ok (by omega) (by omega))
