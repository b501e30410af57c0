/-! dawn -/
theorem i_shr {m n : Nat} (hm : m < 2 ^ 31) (hn : n < 31) : nI m >>> (nI n &&& 31) = nI (m / 2 ^ n) := pk_shrN hm _ n (i_sm n hn)
theorem any_b {P : Nat → Bool} {m i : Nat} : b01 (decide (anyI P m i = 1)) = anyI P m i := by
  rcases anyI_01 P m i with q | q <;> rw [q] <;> rfl
theorem dawn_ok {f : Nat} {σ : qMem} (h : Inv σ) (hf : 200000000 < f) (x y z : Int32) : PairW (p_C_dawn f σ x y z) (fun s => p_M_dawn f s x y z) := by
  obtain ⟨np, hnp, e13, e5⟩ := h.pn
  obtain ⟨b1, b2, b3, nS, hS, eS, eS2⟩ := id h.si
  obtain ⟨pw1, -, pw3⟩ := i_pw np (by omega)
  by_cases c0 : x ≤ 0
  · refine badW (r := -1000001) h ?_ ?_
    · unfold p_C_dawn p_Promises_areThere
      rw [if_pos c0, Option.bind_some, if_pos rfl]
    · show p_M_dawn f _ _ _ _ = _
      unfold p_M_dawn
      obtain ⟨g, hg⟩ : ∃ g, f = g + 1 := ⟨f - 1, by omega⟩
      have : ∀ K, p_M_dawn_l11 f x y z K (qmu σ 104 0 0) 0 0 = some (-1000001, qmu σ 104 0 0) := by
        intro K
        unfold p_M_dawn_l11 p_M_dawn_b57
        rw [if_neg (by decide), if_pos c0, if_pos]
        rw [i32_lt]
        have h1 := i32_le.mp c0
        have h2 : (0 : Int32).toInt = 0 := rfl
        have h3 : (1 : Int32).toInt = 1 := rfl
        omega
      conv => lhs; rw [hg, qfix3_s, ← hg]
      exact this _
  · have hx0 : ¬ x < 0 := fun w0 => c0 (by rw [i32_le]; have := i32_lt.mp w0; omega)
    obtain ⟨m, hm31, rfl⟩ := nI_of hx0
    have hm0 : 0 < m := by
      refine Nat.pos_of_ne_zero fun e => c0 ?_
      rw [e]; decide
    have bad : ∀ (σ1 τ : qMem), (∀ a b, ¬ scrP a b → σ1 a b = σ a b) → (∀ a b, a ≠ 145 → τ a b = (qmu σ1 104 0 0) a b) → Inv τ := fun σ1 τ h1 h2 => h.scr (fun a b hab => by
      have h145 : a ≠ 145 := fun e => hab (by unfold scrP; omega)
      have h104 : ¬ (a = 104 ∧ b = 0) := fun e => hab (by unfold scrP; omega)
      have : (qmu σ1 104 0 0) a b = σ1 a b := if_neg h104
      rw [h2 a b h145, this, h1 a b hab])
    obtain ⟨τ, mτ, agτ, hτ⟩ := members_m (f := f) (σ := σ) (x2 := y) (x3 := z) hm0 hm31 (by omega)
    have invτ := bad σ τ (fun _ _ _ => rfl) agτ
    have τ5 : τ 104 5 = nI np := by rw [agτ 104 5 (by decide), mu_j (by decide)]; exact e5
    have badP : p_C_dawn f σ (nI m) y z = some (-1000001, σ) → p_M_dawn_b57 f τ (nI m) y z (nI (pcN 12 m)) = some (-1000001, τ) → PairW (p_C_dawn f σ (nI m) y z) (fun s => p_M_dawn f s (nI m) y z) := fun h1 h2 => ⟨-1000001, σ, τ, h1, by show p_M_dawn f _ _ _ _ = _; rw [mτ, h2], invτ⟩
    have n1 : ¬ nI m < 1 := nI_nlt (b := 1) (by omega) hm31
    by_cases c1 : m < 2 ^ np
    · have hm12 : m < 4096 := by omega
      have sh0 : ¬ (0 : Int32) < nI m >>> (nI np &&& 31) := by
        rw [i_shr hm31 (by omega), Nat.div_eq_of_lt c1]
        decide
      have HC : p_C_dawn f σ (nI m) y z = if (8 : Int32) < nI (pcN 12 m) then some ((-1000001 : Int32), σ) else (p_C_noDay f σ y).bind fun u11 => if u11 = 0 then if z = (-1000000 : Int32) then p_C_dawn_b50 f σ (nI m) y z else (p_C_outside f σ z (0 : Int32) (11 : Int32)).bind fun u13 => if u13 = 0 then p_C_dawn_b50 f σ (nI m) y z else some ((-1000001 : Int32), σ) else some ((-1000001 : Int32), σ) := by
        unfold p_C_dawn p_Promises_areThere
        rw [if_neg c0, e13, pw1, if_neg (nI_ge c1 (by omega)), Option.bind_some, if_neg bad_ne, pc_c hm12, Option.bind_some]
      have HM : ∀ τ' : qMem, τ' 104 5 = nI np → p_M_dawn_b57 f τ' (nI m) y z (nI (pcN 12 m)) = if (8 : Int32) < nI (pcN 12 m) then some ((-1000001 : Int32), τ') else (p_M_isDay f τ' y).bind fun u15 => if u15 = 0 then some ((-1000001 : Int32), τ') else if z = (-1000000 : Int32) then p_M_dawn_b106 f τ' y z (nI (pcN 12 m)) else (p_M_in f τ' (z).toInt64 (0 : Int64) (11 : Int64)).bind fun u17 => if u17 = 0 then some ((-1000001 : Int32), τ') else p_M_dawn_b106 f τ' y z (nI (pcN 12 m)) := by
        intro τ' h5
        unfold p_M_dawn_b57
        rw [if_neg n1, h5, if_neg sh0]
      have hpl : pcN 12 m ≤ 12 := pcN_le
      by_cases c8 : 8 < pcN 12 m
      · have l8 : (8 : Int32) < nI (pcN 12 m) := nI_lt (a := 8) c8 (by omega)
        exact badP (by rw [HC, if_pos l8]) (by rw [HM τ τ5, if_pos l8])
      · have l8 : ¬ (8 : Int32) < nI (pcN 12 m) := nI_nlt (a := 8) (by omega) (by omega)
        by_cases c2 : rg y 0 9999
        · -- the promise asked for
          have main : PairW (p_C_dawn_b50 f σ (nI m) y z) (fun s => (p_M_dawn f s (nI m) y z)) ∨ True := Or.inr trivial
          by_cases c3 : z = -1000000 ∨ rg z 0 11
          · have HC2 : p_C_dawn f σ (nI m) y z = p_C_dawn_b50 f σ (nI m) y z := by
              rw [HC, if_neg l8, noDayL, Option.bind_some, if_pos c2, if_pos rfl]
              by_cases q : z = -1000000
              · rw [if_pos q]
              · rw [if_neg q, outL, Option.bind_some, if_pos (show rg z (0 : Int32).toInt (11 : Int32).toInt from c3.resolve_left q), if_pos rfl]
            have HM2 : ∀ τ' : qMem, τ' 104 5 = nI np → p_M_dawn_b57 f τ' (nI m) y z (nI (pcN 12 m)) = p_M_dawn_b106 f τ' y z (nI (pcN 12 m)) := by
              intro τ' h5
              rw [HM τ' h5, if_neg l8, isDayL, Option.bind_some, if_pos c2, if_neg bad_ne]
              by_cases q : z = -1000000
              · rw [if_pos q]
              · rw [if_neg q, inL, Option.bind_some, if_pos (show rg z (0 : Int64).toInt (11 : Int64).toInt from c3.resolve_left q), if_neg bad_ne]
            -- the members
            have hs8 : pcN 12 m ≤ 8 := by omega
            have hs0 : 0 < pcN 12 m := by
              refine Nat.pos_of_ne_zero fun e => ?_
              have hz : ∀ i, i < 12 → m.testBit i = false := fun i hi => by
                have := sm_ge (g := fun i => bI (m.testBit i)) hi
                have e' : sm (fun i => bI (m.testBit i)) 12 = 0 := e
                rw [e'] at this
                cases q : m.testBit i
                · rfl
                · simp [q, bI] at this
              have := mk_eq (E := fun _ => false) (k := 12) (show m < 2 ^ 12 from hm12) hz
              rw [show mkM (fun _ => false) 12 = 0 from rfl] at this
              omega
            have hbig : ∀ j, m.testBit j = true → j < np := fun j hj => by
              refine Classical.byContradiction fun w0 => ?_
              rw [Nat.testBit_lt_two_pow (Nat.lt_of_lt_of_le c1 (Nat.pow_le_pow_right (by decide) (by omega)))] at hj
              exact absurd hj (by decide)
            obtain ⟨w, hw⟩ := Classical.axiomOfChoice (r := fun (k j : Nat) => k < pcN 12 m → j < 12 ∧ m.testBit j = true ∧ pcN j m = k) (fun k => by
              by_cases q : k < pcN 12 m
              · obtain ⟨j, a⟩ := pc_ex q
                exact ⟨j, fun _ => a⟩
              · exact ⟨0, fun w0 => absurd w0 q⟩)
            have colA : ∀ i, i < pcN 12 m → σ (15 + w i) 2 = nI (qi (σ (15 + w i) 2)) ∧ qi (σ (15 + w i) 2) ≤ 3 := fun i hi => by
              obtain ⟨a, ha, e⟩ := rg_nat (b := 3) (h.pr.rg (j := 2) e13 hnp (hbig _ (hw i hi).2.1) (by omega))
              rw [e, qi_nI (by omega)]; exact ⟨rfl, ha⟩
            have colP : ∀ i, i < pcN 12 m → σ (15 + w i) 3 = nI (qi (σ (15 + w i) 3)) ∧ qi (σ (15 + w i) 3) ≤ 7 := fun i hi => by
              obtain ⟨a, ha, e⟩ := rg_nat (b := 7) (h.pr.rg (j := 3) e13 hnp (hbig _ (hw i hi).2.1) (by omega))
              rw [e, qi_nI (by omega)]; exact ⟨rfl, ha⟩
            have vw : ∀ p, p < 8 → σ 32 p = nI (if p < 8 then qi (σ 32 p) else 0) ∧ (if p < 8 then qi (σ 32 p) else 0) ≤ 3 := fun p hp => by
              obtain ⟨v, v1, v2, e⟩ := h.vo.2 p hp
              rw [if_pos hp, e, qi_nI (by omega)]; exact ⟨rfl, v2⟩
            have v5 : ∀ p, (fun p => if p < 8 then qi (σ 32 p) else 0) p ≤ 5 := fun p => by
              show (if p < 8 then qi (σ 32 p) else 0) ≤ 5
              by_cases q : p < 8
              · have := (vw p q).2; omega
              · rw [if_neg q]; omega
            obtain ⟨ρ, eρ, ρ6, ρag, ρm⟩ := members_c (f := f) (day := y) c1 hnp e13 hS eS hs8 (by omega)
            generalize hsd : pcN 12 m = s at *
            have dC : dwC ρ s w (fun i => qi (σ (15 + w i) 2)) (fun i => qi (σ (15 + w i) 3)) (fun i => decide (anyI (sickB σ (σ (15 + w i) 3) y) nS 0 = 1)) (fun p => if p < 8 then qi (σ 32 p) else 0) := by
              refine ⟨hs8, ρ6, fun i hi => ?_, fun p hp => by rw [ρag 32 p (by omega)]; exact vw p hp⟩
              obtain ⟨w1, w2, w3⟩ := hw i hi
              obtain ⟨m1, m2⟩ := ρm (w i) w1 w2
              rw [w3] at m1 m2
              refine ⟨w1, m1, by rw [m2, any_b], ?_, (colA i hi).2, ?_, (colP i hi).2⟩
              · rw [ρag _ _ (by omega)]; exact (colA i hi).1
              · rw [ρag _ _ (by omega)]; exact (colP i hi).1
            obtain ⟨M, ρ1, e1, mx, hM, ρ8, ag1, lg1⟩ := find_c (f := f) dC (by omega)
            have dC1 := dC.cg (σ' := ρ1) (fun a b hab => ag1 a b (by omega))
            obtain ⟨r, ρ2, e2, ag2, hr⟩ := deal_c (f := f) (s := s) (w := w) (al := fun i => qi (σ (15 + w i) 2)) (pr := fun i => qi (σ (15 + w i) 3)) (sk := fun i => decide (anyI (sickB σ (σ (15 + w i) 3) y) nS 0 = 1)) (v := fun p => if p < 8 then qi (σ 32 p) else 0) (Lg := LgP (fun i => qi (σ (15 + w i) 2)) (fun i => qi (σ (15 + w i) 3)) (fun i => decide (anyI (sickB σ (σ (15 + w i) 3) y) nS 0 = 1)) (fun p => if p < 8 then qi (σ 32 p) else 0) s M) (by omega) s 0 10 (by omega) (by omega) ρ1 (fun _ => 5) dC1 lg1 (fun i hi => absurd hi (Nat.not_lt_zero _)) (fun i hi => absurd hi (Nat.not_lt_zero _)) (fun e => by omega)
            have ρ2σ : ∀ a b, ¬ scrP a b → ρ2 a b = σ a b := fun a b hab => by
              have h2 : a < 96 ∨ 102 < a := by
                refine Classical.byContradiction fun w0 => hab ?_
                unfold scrP; omega
              rw [ag2 a b (by omega), ag1 a b (by omega), ρag a b (by omega)]
            -- the model over what the other left
            obtain ⟨τ1, mτ1, agτ1, hτ1⟩ := members_m (f := f) (σ := ρ2) (x2 := y) (x3 := z) hm0 hm31 (by omega)
            have invτ1 := bad ρ2 τ1 ρ2σ agτ1
            have kσ : ∀ a b, (a < 96 ∨ (105 ≤ a ∧ a ≤ 142 ∧ a ≠ 115)) → a ≠ 27 → τ1 a b = σ a b := fun a b hab h27 => by
              rw [agτ1 a b (by omega), mu_k (by omega), ρ2σ a b (by unfold scrP; omega)]
            have k104 : ∀ b, b ≠ 0 → ¬ (10 ≤ b ∧ b ≤ 17) → τ1 104 b = σ 104 b := fun b h0 h1 => by
              rw [agτ1 104 b (by omega), mu_j h0, ρ2σ 104 b (by unfold scrP; omega)]
            have dM : ∀ τ' : qMem, (∀ a b, a ≠ 143 → a ≠ 144 → τ' a b = (qmu τ1 143 0 (-1)) a b) → dwM f τ' y s w (fun i => qi (σ (15 + w i) 2)) (fun i => qi (σ (15 + w i) 3)) (fun i => decide (anyI (sickB σ (σ (15 + w i) 3) y) nS 0 = 1)) (fun p => if p < 8 then qi (σ 32 p) else 0) := by
              intro τ' hag
              have hk : ∀ a b, a ≠ 143 → a ≠ 144 → τ' a b = τ1 a b := fun a b h1 h2 => by rw [hag a b h1 h2, mu_k h1]
              refine ⟨hs8, fun i hi => ?_, fun p hp => ?_⟩
              · obtain ⟨w1, w2, w3⟩ := hw i hi
                have hrow := h.pr.row e13 hnp (hbig _ w2)
                have o : ∀ j, j < 11 → p_M_of f τ' (nI (w i)) (nI j) = some (σ (15 + w i) j) := fun j hj => by
                  rw [of_m w1 hj, hk _ _ (by decide) (by decide), kσ 108 _ (by omega) (by decide), ← hrow j hj]
                have o2 : p_M_of f τ' (nI (w i)) 2 = some (nI (qi (σ (15 + w i) 2))) := by rw [← (colA i hi).1]; exact o 2 (by omega)
                have o3 : p_M_of f τ' (nI (w i)) 3 = some (nI (qi (σ (15 + w i) 3))) := by rw [← (colP i hi).1]; exact o 3 (by omega)
                have ck : ∀ k, ((34 ≤ k ∧ k ≤ 36) ∨ (117 ≤ k ∧ k ≤ 119)) → τ' k = σ k := fun k hkk => funext fun b => by rw [hk k b (by omega) (by omega), kσ k b (by omega) (by omega)]
                have gsi : g_si τ' := ⟨by rw [ck 34 (by omega), ck 117 (by omega)]; exact b1, by rw [ck 35 (by omega), ck 118 (by omega)]; exact b2, by rw [ck 36 (by omega), ck 119 (by omega)]; exact b3, nS, hS, by rw [hk 33 3 (by decide) (by decide), kσ 33 3 (by omega) (by decide)]; exact eS, by rw [hk 104 27 (by decide) (by decide), k104 27 (by decide) (by decide)]; exact eS2⟩
                have cs := cov_m (f := f) (σ := τ') (x := σ (15 + w i) 3) (d := y) (n := nS) gsi (by rw [hk 33 3 (by decide) (by decide), kσ 33 3 (by omega) (by decide)]; exact eS) hS (by omega)
                have csv : anyI (sickB τ' (σ (15 + w i) 3) y) nS 0 = anyI (sickB σ (σ (15 + w i) 3) y) nS 0 := anyI_cg nS 0 (fun j _ _ => by
                  unfold sickB
                  rw [ck 34 (by omega), ck 35 (by omega), ck 36 (by omega)])
                refine ⟨?_, o2, (colA i hi).2, o3, (colP i hi).2, ?_⟩
                · have := hτ1 (w i) w1 w2 (by omega)
                  rw [w3] at this
                  rw [hk 145 i (by decide) (by decide)]; exact this
                · rw [any_b, ← csv, ← cs]
                  show p_M_isSick f τ' (nI (qi (σ (15 + w i) 3))) y = _
                  rw [← (colP i hi).1]
              · rw [hk 116 p (by decide) (by decide), kσ 116 p (by omega) (by decide), ← h.vo.1]; exact vw p hp
            obtain ⟨q, eq, M', bt, t1, t2, t3, t4, t5⟩ := search_m (f := f) (x := z) (τ0 := qmu τ1 143 0 (-1)) (dM _ (fun _ _ _ _ => rfl)) dM hf hs0
            rw [mu_mu] at eq
            have MM := mx_eq v5 mx t1 t2 (fun g hg => (t3 g hg).1)
            subst MM
            -- the two agree
            have gbt := gd_iff.mpr ⟨t1, t2⟩
            rcases hr with ⟨rfl, g, g1, g2, g3, g4⟩ | ⟨rfl, g1⟩
            · have gv := gd_iff.mp g2
              have same := lex_uni (s := s) (Gd := fun g => vlH (fun i => qi (σ (15 + w i) 2)) (fun i => qi (σ (15 + w i) 3)) (fun i => decide (anyI (sickB σ (σ (15 + w i) 3) y) nS 0 = 1)) (fun p => if p < 8 then qi (σ 32 p) else 0) s g ∧ cnH s g = M) gv ⟨t1, t2⟩ (fun x hx => g4 x (fun i hi => absurd hi (Nat.not_lt_zero _)) (gd_iff.mpr hx)) (fun x hx => (t3 x hx.1).2 hx.2)
              have e2' : p_Dawn_dealFrom f 10 ρ1 0 0 = some (1, ρ2) := e2
              have b88 : p_Dawn_deal_b88 f ρ = some ρ2 := by
                unfold p_Dawn_deal_b88
                rw [e1, Option.bind_some, e2', Option.bind_some]
              have dC2 := dC1.cg (σ' := ρ2) (fun a b hab => ag2 a b (by omega))
              have ρ28 : ρ2 96 8 = nI M := by rw [ag2 96 8 (by omega)]; exact ρ8
              have hcl : p_C_dawn f σ (nI m) y z = some (if z = -1000000 then nI M else lkV w g z s 0, ρ2) := by
                rw [HC2]
                unfold p_C_dawn_b50 p_Dawn_howMany
                rw [eρ, b88, Option.bind_some, ρ28, Option.bind_some, hourOf_c (w := w) (g := g) hs8 dC2.2.1 (fun i hi => (dC2.2.2.1 i hi).2.1) g3 (by omega), Option.bind_some]
                by_cases c : z = -1000000
                · rw [if_pos c, if_pos c]
                · rw [if_neg c, if_neg c]
              refine ⟨_, ρ2, q.2, hcl, ?_, invτ1.scr (fun a b hab => ?_)⟩
              · show p_M_dawn f _ _ _ _ = _
                rw [mτ1, hsd, HM2 τ1 (by rw [k104 5 (by decide) (by decide)]; exact e5)]
                unfold p_M_dawn_b106
                rw [if_pos (by decide), show qi (0 : Int32) = 0 from rfl, eq]
                congr 1
                refine Prod.ext ?_ rfl
                rw [t4]
                by_cases c : z = -1000000
                · rw [if_pos c, if_pos c]
                · rw [if_neg c, if_neg c]
                  exact lkV_cg (fun j _ hj => (same j (by omega)).symm)
              · have h3 : a ≠ 143 ∧ a ≠ 144 := ⟨fun e => hab (by unfold scrP; omega), fun e => hab (by unfold scrP; omega)⟩
                rw [t5 a b h3.1 h3.2, mu_k h3.1]
            · exact absurd gbt (g1 bt (fun i hi => absurd hi (Nat.not_lt_zero _)))
          · have hz : ¬ z = -1000000 := fun w0 => c3 (Or.inl w0)
            have hz2 : ¬ rg z 0 11 := fun w0 => c3 (Or.inr w0)
            refine badP ?_ ?_
            · rw [HC, if_neg l8, noDayL, Option.bind_some, if_pos c2, if_pos rfl, if_neg hz, outL, Option.bind_some, if_neg (show ¬ rg z (0 : Int32).toInt (11 : Int32).toInt from hz2), if_neg (by decide)]
            · rw [HM τ τ5, if_neg l8, isDayL, Option.bind_some, if_pos c2, if_neg bad_ne, if_neg hz, inL, Option.bind_some, if_neg (show ¬ rg z (0 : Int64).toInt (11 : Int64).toInt from hz2), if_pos rfl]
        · refine badP ?_ ?_
          · rw [HC, if_neg l8, noDayL, Option.bind_some, if_neg c2, if_neg (by decide)]
          · rw [HM τ τ5, if_neg l8, isDayL, Option.bind_some, if_neg c2, if_pos rfl]
    · have hdiv : 0 < m / 2 ^ np := Nat.div_pos (by omega) (Nat.pow_pos (by decide))
      have hdl : m / 2 ^ np ≤ m := Nat.div_le_self _ _
      refine badP ?_ ?_
      · unfold p_C_dawn p_Promises_areThere
        rw [if_neg c0, e13, pw1, if_pos (nI_le (by omega) hm31), Option.bind_some, if_pos rfl]
      · unfold p_M_dawn_b57
        rw [if_neg n1, τ5, i_shr hm31 (by omega), if_pos (show (0 : Int32) < nI (m / 2 ^ np) from nI_lt (a := 0) hdiv (by omega))]
