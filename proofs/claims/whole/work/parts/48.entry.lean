/-! the law from its entry to its loop -/
theorem ew_c1 : Cond.classLink "ChantryRollsLaw" 7 "ChantryRolls" ∈ qAW := qw 92 (by decide +kernel) rfl
theorem ew_c2 : Cond.instantiable "ChantryRolls" 17 ∈ qAW := qw 93 (by decide +kernel) rfl
theorem ew_c3 : Cond.initialized "ChantryRolls" ∈ qAW := qw 71 (by decide +kernel) rfl
theorem ew_c4 : Cond.methodLink "ChantryRollsLaw" 9 y_C_init ∈ qAW := qw 94 (by decide +kernel) rfl
theorem ew_c5 : Cond.instanceMethod y_C_init ∈ qAW := qw 95 (by decide +kernel) rfl
theorem ew_c6 : Cond.code y_C_init prog_1_method_1_code 1 none ∈ qAW := qw 96 (by decide +kernel) rfl
theorem ew_m1 : Cond.classLink "ChantryRollsLaw" 10 "ChantryRollsModel" ∈ qAW := qw 1154 (by decide +kernel) rfl
theorem ew_m2 : Cond.instantiable "ChantryRollsModel" 65 ∈ qAW := qw 1155 (by decide +kernel) rfl
theorem ew_m3 : Cond.initialized "ChantryRollsModel" ∈ qAW := qw 84 (by decide +kernel) rfl
theorem ew_m4 : Cond.methodLink "ChantryRollsLaw" 12 y_M_init ∈ qAW := qw 1156 (by decide +kernel) rfl
theorem ew_m5 : Cond.instanceMethod y_M_init ∈ qAW := qw 1157 (by decide +kernel) rfl
theorem ew_m6 : Cond.code y_M_init prog_14_method_1_code 1 none ∈ qAW := qw 1158 (by decide +kernel) rfl
def qρF : qRf := (qru (qru (qru (qru (qru (qru (qru (qru (qru (qru (qru (qru (qru (qru (qru (qru (qru (qru (qru (qru (qru (qru (qru (qru (qru (qru (qru (qru (qru (qru (qru (qru (qru (qru (qru (qru (qru (qru (qru (qru (qru (qru (qru (qru (qru (qru (qru (qru (qru (qru (qru (qru (qru (qru (qru (qrn (qru (qrn (qru (qru (qru (qru (qru (qru (qru (qru (qru (qru (qru (qru (qru (qru (qru (qru (qru (qru (qru (qru (qru (qru (qru (qru (qru (qru (qru (qru (qru (qru (qru (qru (qru (qru (qru (qru (qru (qru (qru (qru (qru (qru (qru (qru (qru (qru (qru (qru (qru (qrn (qru (qru (qrn (qru (qru (fun _ _ => none) 1 0 (some 2)) 1 1 (some 3)) 4) 1 2 (some 4)) 0 0 (some 1)) 14) 13 0 (some 14)) 0 1 (some 13)) 27 0 (some 28)) 0 2 (some 27)) 29 0 (some 30)) 29 1 (some 31)) 0 3 (some 29)) 0 4 (some 32)) 33 0 (some 34)) 33 1 (some 35)) 33 2 (some 36)) 0 5 (some 33)) 37 1 (some 38)) 37 2 (some 39)) 37 3 (some 40)) 37 4 (some 41)) 37 0 (some 13)) 0 6 (some 37)) 42 4 (some 43)) 42 5 (some 44)) 42 6 (some 45)) 42 7 (some 46)) 42 8 (some 47)) 42 0 (some 13)) 42 1 (some 37)) 42 2 (some 33)) 42 3 (some 32)) 0 7 (some 42)) 48 0 (some 49)) 48 1 (some 50)) 48 2 (some 51)) 48 3 (some 52)) 0 8 (some 48)) 53 0 (some 54)) 53 1 (some 55)) 53 2 (some 56)) 53 3 (some 57)) 53 4 (some 58)) 59 0 (some 60)) 59 1 (some 61)) 59 2 (some 62)) 53 6 (some 59)) 53 7 (some 63)) 53 8 (some 64)) 53 9 (some 65)) 0 9 (some 53)) 0 10 (some 66)) 67 0 (some 68)) 67 1 (some 69)) 70) 67 2 (some 70)) 83) 67 3 (some 83)) 0 11 (some 67)) 96 3 (some 97)) 96 4 (some 98)) 96 5 (some 99)) 96 7 (some 100)) 96 9 (some 101)) 96 10 (some 102)) 96 0 (some 13)) 96 1 (some 33)) 96 2 (some 32)) 0 12 (some 96)) 0 13 (some 103)) 104 2 (some 105)) 104 3 (some 106)) 104 4 (some 107)) 104 6 (some 108)) 104 7 (some 109)) 104 19 (some 110)) 104 20 (some 111)) 104 22 (some 112)) 104 23 (some 113)) 104 24 (some 114)) 104 25 (some 115)) 104 26 (some 116)) 104 28 (some 117)) 104 29 (some 118)) 104 30 (some 119)) 104 32 (some 120)) 104 33 (some 121)) 104 34 (some 122)) 104 35 (some 123)) 104 36 (some 124)) 104 37 (some 125)) 104 39 (some 126)) 104 40 (some 127)) 104 41 (some 128)) 104 43 (some 129)) 104 44 (some 130)) 104 45 (some 131)) 104 46 (some 132)) 104 47 (some 133)) 104 48 (some 134)) 104 49 (some 135)) 104 51 (some 136)) 104 52 (some 137)) 104 53 (some 138)) 104 54 (some 139)) 104 56 (some 140)) 104 57 (some 141)) 104 58 (some 142)) 104 59 (some 143)) 104 60 (some 144)) 104 61 (some 145)) 104 63 (some 146))
def qσF : qMem := (qmu (qmu (qmu (qmu (qmu (qmu (qmu (qmu (qmu (qmu (qmu (qmu (qmu (qmu (qmu (qmu (qmu (qmu (qmu (qmu (qmu (qmu (qfl (qmu (qmu (qmu (qmu (qmu (qfl (qmu (qmu (qmu (qmu (qmu (qmu (qmu (qmu (qmu (qmu (qmu (qmu (qmu (qmu (qmu (qfl (fun _ _ => 0) 2 8 (-1 : Int32)) 13 1 (0 : Int32)) 27 1 (0 : Int32)) 27 2 (0 : Int32)) 27 3 (0 : Int32)) 27 4 (0 : Int32)) 27 5 (0 : Int32)) 29 2 (0 : Int32)) 29 3 (0 : Int32)) 33 3 (0 : Int32)) 37 5 (0 : Int32)) 42 9 (0 : Int32)) 48 4 (0 : Int32)) 53 5 (0 : Int32)) 59 3 (0 : Int32)) 53 10 (0 : Int32)) 68 12 (-1000000 : Int32)) 96 6 (0 : Int32)) 96 8 (0 : Int32)) 0 14 (0 : Int32)) 0 15 (0 : Int32)) 0 16 (0 : Int32)) 32 8 (1 : Int32)) 66 (qi (0 : Int32)) (100 : Int32)) 66 (qi (1 : Int32)) (1 : Int32)) 66 (qi (2 : Int32)) (1 : Int32)) 105 (qi (0 : Int32)) (-1 : Int32)) 105 (qi (1 : Int32)) (-1 : Int32)) 105 (qi (2 : Int32)) (-1 : Int32)) 105 (qi (3 : Int32)) (-1 : Int32)) 105 (qi (4 : Int32)) (-1 : Int32)) 105 (qi (5 : Int32)) (-1 : Int32)) 105 (qi (6 : Int32)) (-1 : Int32)) 105 (qi (7 : Int32)) (-1 : Int32)) 116 (qi (0 : Int32)) (1 : Int32)) 116 (qi (1 : Int32)) (1 : Int32)) 116 (qi (2 : Int32)) (1 : Int32)) 116 (qi (3 : Int32)) (1 : Int32)) 116 (qi (4 : Int32)) (1 : Int32)) 116 (qi (5 : Int32)) (1 : Int32)) 116 (qi (6 : Int32)) (1 : Int32)) 116 (qi (7 : Int32)) (1 : Int32)) 132 (qi (0 : Int32)) (100 : Int32)) 132 (qi (1 : Int32)) (1 : Int32)) 132 (qi (2 : Int32)) (1 : Int32))
theorem qρF_o : ∀ k, k < 147 → (qKS.getD k (0, 0)).1 < 100 → ∀ j, j < (qKS.getD k (0, 0)).2 → qisR (qKS.getD k (0, 0)).1 j = true → qρF k j = qRF k j := by decide +kernel
theorem qρF_r : ∀ k, k < 147 → (qKS.getD k (0, 0)).1 = 103 → k = 4 ∨ k = 14 ∨ k = 70 ∨ k = 83 := by decide +kernel
theorem qρF_4 (j : Nat) : qρF 4 j = qRF 4 j := rfl
theorem qρF_14 (j : Nat) : qρF 14 j = qRF 14 j := rfl
theorem qρF_70 (j : Nat) : qρF 70 j = qRF 70 j := rfl
theorem qρF_83 (j : Nat) : qρF 83 j = qRF 83 j := rfl
theorem qent_eq {G : qG} {ρ ρ' : qRf} {σ : qMem} {k : Nat} {kd : qKd} (h1 : kd.1 < 100 → ∀ j, j < kd.2 → qisR kd.1 j = true → ρ k j = ρ' k j) (h2 : kd.1 = 103 → ∀ j, ρ k j = ρ' k j) : qent G ρ σ k kd = qent G ρ' σ k kd := by
  unfold qent
  by_cases c1 : kd.1 < 100
  · rw [if_pos c1, if_pos c1]
    congr 2
    apply List.map_congr_left
    intro j hj
    unfold qfv
    by_cases c2 : qisR kd.1 j = true
    · rw [if_pos c2, if_pos c2, h1 c1 j (List.mem_range.mp hj) c2]
    · rw [if_neg c2, if_neg c2]
  · rw [if_neg c1, if_neg c1]
    by_cases c2 : kd.1 = 103
    · rw [if_pos c2, if_pos c2, show ρ k = ρ' k from funext (h2 c2)]
    · rw [if_neg c2, if_neg c2]
theorem q_rho {G : qG} {X : qX} {nc ns : Nat} {ks : List qKd} {ρ ρ' : qRf} {σ : qMem} {pc : Nat} {lv : qLv} {st : List Value} (h : ∀ k kd, ks[k]? = some kd → qent G ρ σ k kd = qent G ρ' σ k kd) (K : qV G X nc ns ks ρ' σ pc lv st) : qV G X nc ns ks ρ σ pc lv st := by
  intro H locs ls hR hS hl
  refine K H locs ls ⟨fun k q hq => ?_, hR.2⟩ hS hl
  obtain ⟨kd, h1, rfl⟩ := qwd_inv hq
  rw [← h k kd h1]
  exact hR.1 k _ (qwd_get h1)
theorem qρF_ok {G : qG} {σ : qMem} (k : Nat) (kd : qKd) (h : qKS[k]? = some kd) : qent G qρF σ k kd = qent G qRF σ k kd := by
  have hk : k < 147 := (List.getElem?_eq_some_iff.mp h).1
  have e : qKS.getD k (0, 0) = kd := by rw [List.getD_eq_getElem?_getD, h]; rfl
  refine qent_eq (fun h1 j hj hr => ?_) (fun h1 j => ?_)
  · exact qρF_o k hk (by rw [e]; exact h1) j (by rw [e]; exact hj) (by rw [e]; exact hr)
  · rcases qρF_r k hk (by rw [e]; exact h1) with rfl | rfl | rfl | rfl
    · exact qρF_4 j
    · exact qρF_14 j
    · exact qρF_70 j
    · exact qρF_83 j
set_option maxHeartbeats 4000000 in
set_option maxRecDepth 20000 in
theorem law_entry {p : Program} {e : Env} {s : State} {m : MethodId} {below : List Frame} {meth : Method} {c : Code} (l : Launch) {b L : Nat} {xs : Nat → Int32} {f : Nat} (hf : 1000 ≤ f) (hpure : qfix2 (p_law_l18 f xs L) f qσF (0 : Int32) = some 1) (C0 : lw_At p s m meth c b L xs) : W p l e room_1 s m #[Value.ref b] below meth c s.heap [] 0 0 (lw_Z below #[Value.ref b] s) (entryFrame m ([Value.ref b] : List Value).toArray 4) := by
  obtain ⟨hx, hb, hr, hml, hown, hts, hX0, hbl, hlocks, hgv⟩ := id C0
  obtain ⟨G, hA, hKn, hsz, hbG⟩ := qKn_start C0
  have hX : qOk G (p, l, e, room_1, s, m, #[Value.ref b], below, meth, c, lw_Z below #[Value.ref b] s) "ChantryRollsLaw" code 4 ret 40 := ⟨hx, hb, hr, hown, fun w hw => hts w (List.mem_filter.mp hw).1, hlocks, hKn, hA, by rw [hsz]; exact Nat.le_refl _, Nat.le_of_ble_eq_true rfl, Nat.le_of_ble_eq_true rfl, hml⟩
  have hsc : qSc G (p, l, e, room_1, s, m, #[Value.ref b], below, meth, c, lw_Z below #[Value.ref b] s) L xs := ⟨by rw [hbG]; exact hX0, by rw [hbG]; exact hbl, by rw [hbG]; unfold qA; rw [hsz]; exact Nat.not_le.mpr hbl⟩
  have hT : qLT G (p, l, e, room_1, s, m, #[Value.ref b], below, meth, c, lw_Z below #[Value.ref b] s) 1 := ⟨rfl, rfl, hsz, b, rfl, rfl⟩
  have hcc : (p, l, e, room_1, s, m, #[Value.ref b], below, meth, c, lw_Z below #[Value.ref b] s).2.2.2.1 = room_1 := rfl
  generalize hXe : ((p, l, e, room_1, s, m, #[Value.ref b], below, meth, c, lw_Z below #[Value.ref b] s) : qX) = X at hX hsc hT
  have hb0 : qbl 0 (fun _ _ => none) (fun _ _ => 0) := ⟨fun _ _ _ => rfl, fun _ _ _ => rfl⟩
  have hb1 := qbl_up hb0 (Nat.le_succ 0)
  have hb2 := b_C_init_0 hb1
  have hb3 := qbl_up hb2 (Nat.le_succ 104)
  have hR1 := hT.2.1
  have K : qV G X 0 0 [] (fun _ _ => none) (fun _ _ => 0) 0 [some (.ref 1048950), none, none, none] [] := by
    refine q_new hX (c := 0) (nf := 17) (n := 0) (ks' := qKS.take 1) rfl ew_c1 ew_c2 ew_c3 rfl (by decide) (hb0.1 _ (Nat.le_refl _)) (hb0.2 _ (Nat.le_refl _)) (by decide) ⟨by rw [hR1]; decide, by rw [hR1]; decide⟩ d_Law_law_0 ?_
    refine q_dup hX rfl d_Law_law_3 ?_
    refine q_callI hX (n := 0) (r := none) (k_C_init_0 (qX.l X) G hX.ad f hf _ _ hb1) ⟨⟨ew_c4, ew_c5, ew_c3, ew_c6⟩, ⟨by decide +kernel, by decide +kernel, by decide +kernel⟩, by decide, rfl⟩ rfl (Nat.le_of_ble_eq_true rfl) rfl (Nat.le_of_ble_eq_true rfl) ⟨by rw [hR1]; decide, by rw [hR1]; decide⟩ d_Law_law_4 ?_
    refine q_astore_n hX d_Law_law_7 (by decide) rfl rfl ?_
    refine q_new hX (c := 12) (nf := 65) (n := 104) (ks' := qKS.take 105) rfl ew_m1 ew_m2 ew_m3 rfl (by decide) (hb2.1 _ (Nat.le_refl _)) (hb2.2 _ (Nat.le_refl _)) (by decide) ⟨by rw [hR1]; decide, by rw [hR1]; decide⟩ d_Law_law_8 ?_
    refine q_dup hX rfl d_Law_law_11 ?_
    refine q_callI hX (n := 0) (r := none) (k_M_init_104 (qX.l X) G hX.ad f hf _ _ hb3) ⟨⟨ew_m4, ew_m5, ew_m3, ew_m6⟩, ⟨by decide +kernel, by decide +kernel, by decide +kernel⟩, by decide, rfl⟩ rfl (Nat.le_of_ble_eq_true rfl) rfl (Nat.le_of_ble_eq_true rfl) ⟨by rw [hR1]; decide, by rw [hR1]; decide⟩ d_Law_law_12 ?_
    refine q_astore_n hX d_Law_law_15 (by decide) rfl rfl ?_
    refine q_iconst hX d_Law_law_16 ic_0 ?_
    refine q_istore_n hX d_Law_law_17 (by decide) rfl rfl ?_
    refine q_rho (ρ' := qRF) (qρF_ok (G := G)) ?_
    exact t_law_l18 hX hsc hT f _ _ hpure
  rw [lg_entry_eq]
  have hl := lv_entry [Value.ref b] (n := 4) (Nat.le_of_ble_eq_true rfl)
  subst hXe
  have h9 := K s.heap [] _ ⟨fun k q hq => by simp [qwd] at hq, by rw [hsz]; rfl⟩ va_S.rf ⟨by show _ = c.maxLocals; rw [hml]; exact hl.1, hl.2.1, fun i v hi => ?_⟩
  · exact h9
  · match i, hi with
    | 0, hi => cases hi; show _ = some (Slot.val (Value.ref (G.2.2 1048950))); rw [hbG]; exact hl.2.2 (0, .ref b) List.mem_cons_self
    | 1, hi => cases hi
    | 2, hi => cases hi
    | 3, hi => cases hi
    | i + 4, hi => simp at hi
