/-! what is known at the start -/
theorem qinst_0 : Cond.instantiable "ChantryRolls" 17 ∈ qAW := qw 93 (by decide +kernel) rfl
theorem qinst_1 : Cond.instantiable "ChantryRolls$Sheets" 3 ∈ qAW := qw 101 (by decide +kernel) rfl
theorem qinst_2 : Cond.instantiable "ChantryRolls$Promises" 2 ∈ qAW := qw 123 (by decide +kernel) rfl
theorem qinst_3 : Cond.instantiable "ChantryRolls$Deeds" 6 ∈ qAW := qw 137 (by decide +kernel) rfl
theorem qinst_4 : Cond.instantiable "ChantryRolls$Feasts" 4 ∈ qAW := qw 163 (by decide +kernel) rfl
theorem qinst_5 : Cond.instantiable "ChantryRolls$Spans" 4 ∈ qAW := qw 182 (by decide +kernel) rfl
theorem qinst_6 : Cond.instantiable "ChantryRolls$Acts" 6 ∈ qAW := qw 201 (by decide +kernel) rfl
theorem qinst_7 : Cond.instantiable "ChantryRolls$Lines" 10 ∈ qAW := qw 226 (by decide +kernel) rfl
theorem qinst_8 : Cond.instantiable "ChantryRolls$Joins" 5 ∈ qAW := qw 264 (by decide +kernel) rfl
theorem qinst_9 : Cond.instantiable "ChantryRolls$Houses" 11 ∈ qAW := qw 286 (by decide +kernel) rfl
theorem qinst_10 : Cond.instantiable "ChantryRolls$Namings" 4 ∈ qAW := qw 328 (by decide +kernel) rfl
theorem qinst_11 : Cond.instantiable "ChantryRolls$Dawn" 11 ∈ qAW := qw 350 (by decide +kernel) rfl
theorem qinst_12 : Cond.instantiable "ChantryRollsModel" 65 ∈ qAW := qw 1155 (by decide +kernel) rfl
theorem qarr_int : Cond.arrayClass .int ∈ qAW := qw 121 (by decide +kernel) rfl
theorem qarr_byte : Cond.arrayClass .byte ∈ qAW := qw 161 (by decide +kernel) rfl
theorem qarr_boolean : Cond.arrayClass .boolean ∈ qAW := qw 262 (by decide +kernel) rfl
theorem qao : Cond.arrayOver (.array .int) ∈ lw_tbl := List.mem_of_getElem? (i := 107) (by decide +kernel)
theorem qls_cs : Cond.laysStatic "java/lang/String" "COMPACT_STRINGS" "Z" ∈ lw_tbl := List.mem_of_getElem? (i := 560) (by decide +kernel)
theorem qls_sf : Cond.laysStatic "jdk/internal/util/Preconditions" "SIOOBE_FORMATTER" "Ljava/util/function/BiFunction;" ∈ lw_tbl := List.mem_of_getElem? (i := 576) (by decide +kernel)
theorem qls_l : Cond.laysStatic "ChantryRolls$Deeds" "LEAST" "[I" ∈ lw_tbl := List.mem_of_getElem? (i := 632) (by decide +kernel)
theorem qls_m : Cond.laysStatic "ChantryRolls$Deeds" "MOST" "[I" ∈ lw_tbl := List.mem_of_getElem? (i := 634) (by decide +kernel)
theorem qin_s : Cond.initialized "java/lang/String" ∈ lw_tbl := List.mem_of_getElem? (i := 86) (by decide +kernel)
theorem qin_p : Cond.initialized "jdk/internal/util/Preconditions" ∈ lw_tbl := List.mem_of_getElem? (i := 88) (by decide +kernel)
theorem qin_d : Cond.initialized "ChantryRolls$Deeds" ∈ lw_tbl := List.mem_of_getElem? (i := 75) (by decide +kernel)
theorem qsr_0 : Cond.stringRef "ChantryRolls$Deeds" 50 "obit" ∈ lw_tbl := List.mem_of_getElem? (i := 546) (by decide +kernel)
theorem qsr_1 : Cond.stringRef "ChantryRolls$Deeds" 56 "mass" ∈ lw_tbl := List.mem_of_getElem? (i := 599) (by decide +kernel)
theorem qsr_2 : Cond.stringRef "ChantryRolls$Deeds" 106 "soul" ∈ lw_tbl := List.mem_of_getElem? (i := 616) (by decide +kernel)
theorem qsr_3 : Cond.stringRef "ChantryRolls$Deeds" 108 "altar" ∈ lw_tbl := List.mem_of_getElem? (i := 617) (by decide +kernel)
theorem qsr_4 : Cond.stringRef "ChantryRolls$Deeds" 110 "priest" ∈ lw_tbl := List.mem_of_getElem? (i := 618) (by decide +kernel)
theorem qsr_5 : Cond.stringRef "ChantryRolls$Deeds" 112 "each" ∈ lw_tbl := List.mem_of_getElem? (i := 619) (by decide +kernel)
theorem qsr_6 : Cond.stringRef "ChantryRolls$Deeds" 114 "from" ∈ lw_tbl := List.mem_of_getElem? (i := 620) (by decide +kernel)
theorem qsr_7 : Cond.stringRef "ChantryRolls$Deeds" 116 "till" ∈ lw_tbl := List.mem_of_getElem? (i := 621) (by decide +kernel)
theorem qsr_8 : Cond.stringRef "ChantryRolls$Deeds" 118 "house" ∈ lw_tbl := List.mem_of_getElem? (i := 622) (by decide +kernel)
theorem qsr_9 : Cond.stringRef "ChantryRolls$Deeds" 120 "pays" ∈ lw_tbl := List.mem_of_getElem? (i := 623) (by decide +kernel)
theorem qsr_10 : Cond.stringRef "ChantryRolls$Deeds" 122 "bread" ∈ lw_tbl := List.mem_of_getElem? (i := 624) (by decide +kernel)
theorem qsr_11 : Cond.stringRef "ChantryRolls$Deeds" 124 "candle" ∈ lw_tbl := List.mem_of_getElem? (i := 625) (by decide +kernel)
def lw_At (p : Program) (s : State) (m : MethodId) (meth : Method) (c : Code) (b L : Nat) (xs : Nat → Int32) : Prop :=
  p.tables.exec = Jvm.exec ∧ c.code = code ∧ meth.sig.returnType = ret ∧ c.maxLocals = 4 ∧ s.vm.findClass R_law = some m.cls ∧ (∀ w ∈ lw_tbl, w.before #[Value.ref b] s = true) ∧ va_X b L xs s s.heap ∧ b < s.heap.size ∧ meth.locks = false ∧ (Jvm.Cond.and given_1 narrow_1).before #[Value.ref b] s = true
def qtm (i : Nat) : Term := .string "ChantryRolls$Deeds" (qSi.getD i 0)
theorem qm_ex : ∀ i, i < 12 → Cond.exactly (qtm i) "java/lang/String" ∈ flatC (Jvm.Cond.and given_1 narrow_1) := by decide +kernel
theorem qm_co : ∀ i, i < 12 → Cond.eq (.field (qtm i) "java/lang/String" "coder" "B") (.int 0) ∈ flatC (Jvm.Cond.and given_1 narrow_1) := by decide +kernel
theorem qm_ar : ∀ i, i < 12 → Cond.arrayOf (.field (qtm i) "java/lang/String" "value" "[B") .byte ∈ flatC (Jvm.Cond.and given_1 narrow_1) := by decide +kernel
theorem qm_le : ∀ i, i < 12 → Cond.eq (.length (.field (qtm i) "java/lang/String" "value" "[B")) (.int (Int32.ofNat (qSl.getD i 0))) ∈ flatC (Jvm.Cond.and given_1 narrow_1) := by decide +kernel
theorem qm_el : ∀ i, i < 12 → ∀ j, j < qSl.getD i 0 → Cond.eq (.elem (.field (qtm i) "java/lang/String" "value" "[B") (.int (Int32.ofNat j))) (.int ((qSb.getD i []).getD j 0)) ∈ flatC (Jvm.Cond.and given_1 narrow_1) := by decide +kernel
theorem qm_ne : ∀ i, i < 12 → ∀ j, j < 12 → i ≠ j → Cond.not (Cond.eq (qtm i) (qtm j)) ∈ flatC (Jvm.Cond.and given_1 narrow_1) ∨ Cond.not (Cond.eq (qtm j) (qtm i)) ∈ flatC (Jvm.Cond.and given_1 narrow_1) := by decide +kernel
theorem qm_cs : Cond.eq (.static "java/lang/String" "COMPACT_STRINGS" "Z") (.int 1) ∈ flatC (Jvm.Cond.and given_1 narrow_1) := by decide +kernel
theorem qm_sf : Cond.isRef (.static "jdk/internal/util/Preconditions" "SIOOBE_FORMATTER" "Ljava/util/function/BiFunction;") ∈ flatC (Jvm.Cond.and given_1 narrow_1) := by decide +kernel
theorem qm_la : Cond.arrayOf (.static "ChantryRolls$Deeds" "LEAST" "[I") .int ∈ flatC (Jvm.Cond.and given_1 narrow_1) := by decide +kernel
theorem qm_ll : Cond.eq (.length (.static "ChantryRolls$Deeds" "LEAST" "[I")) (.int (Int32.ofNat 11)) ∈ flatC (Jvm.Cond.and given_1 narrow_1) := by decide +kernel
theorem qm_lel : ∀ j, j < 11 → Cond.eq (.elem (.static "ChantryRolls$Deeds" "LEAST" "[I") (.int (Int32.ofNat j))) (.int (qLeast.getD j 0)) ∈ flatC (Jvm.Cond.and given_1 narrow_1) := by decide +kernel
theorem qm_ma : Cond.arrayOf (.static "ChantryRolls$Deeds" "MOST" "[I") .int ∈ flatC (Jvm.Cond.and given_1 narrow_1) := by decide +kernel
theorem qm_ml : Cond.eq (.length (.static "ChantryRolls$Deeds" "MOST" "[I")) (.int (Int32.ofNat 11)) ∈ flatC (Jvm.Cond.and given_1 narrow_1) := by decide +kernel
theorem qm_mel : ∀ j, j < 11 → Cond.eq (.elem (.static "ChantryRolls$Deeds" "MOST" "[I") (.int (Int32.ofNat j))) (.int (qMost.getD j 0)) ∈ flatC (Jvm.Cond.and given_1 narrow_1) := by decide +kernel
theorem q_arrOf {args : Array Value} {s : State} {ty : FieldType} (h : (Cond.arrayClass ty).before args s = true) : ∃ cA : ClassId, ArrOfT s cA ty ∧ s.vm.findClass ("[" ++ ty.toString) = some cA := by
  obtain ⟨cA, k, comp, h1, h2, h3⟩ := Cond.arrayClass_spec h
  exact ⟨cA, fun n z => ⟨fun k h => (by cases h), k, h2, comp, h3⟩, h1⟩
def qad (B : Nat) (adK adV : Nat → Nat) (tL tM tF b : Nat) : Nat → Nat := fun k => if k < 1048576 then B + k else if k < 1048588 then adK (k - 1048576) else if k < 1048676 then b else if k < 1048688 then adV (k - 1048676) else if k = 1048776 then tL else if k = 1048777 then tM else if k = 1048900 then tF else b
theorem qad_0 {B : Nat} {adK adV : Nat → Nat} {tL tM tF b k : Nat} (h : k < 1048576) : qad B adK adV tL tM tF b k = B + k := by unfold qad; rw [if_pos h]
theorem qad_K {B : Nat} {adK adV : Nat → Nat} {tL tM tF b i : Nat} (h : i < 12) : qad B adK adV tL tM tF b (1048576 + i) = adK i := by
  unfold qad
  rw [if_neg (by omega), if_pos (by omega), show 1048576 + i - 1048576 = i by omega]
theorem qad_V {B : Nat} {adK adV : Nat → Nat} {tL tM tF b i : Nat} (h : i < 12) : qad B adK adV tL tM tF b (1048676 + i) = adV i := by
  unfold qad
  rw [if_neg (by omega), if_neg (by omega), if_neg (by omega), if_pos (by omega), show 1048676 + i - 1048676 = i by omega]
theorem qKn_start {p : Program} {s : State} {m : MethodId} {meth : Method} {c : Code} {b L : Nat} {xs : Nat → Int32} (C0 : lw_At p s m meth c b L xs) : ∃ G : qG, qAd G ∧ qKn G s ∧ G.2.2 0 = s.heap.size ∧ G.2.2 1048950 = b := by
  obtain ⟨hx, hb, hr, hml, hown, hts, hX, hbl, hlocks, hgv⟩ := C0
  have hg := flat_of_before _ hgv
  have hta : ∀ w ∈ qAW, w.before #[Value.ref b] s = true := fun w hw => hts w (List.mem_filter.mp hw).1
  have hA : ∀ a : Nat, a < s.heap.size → ¬ (fun q : Nat => s.heap.size ≤ q) a := fun a h => Nat.not_le.mpr h
  have hcl : ∀ k : Nat, ∃ z : ClassId × (Nat → Nat), ∀ q : vw_C, qCl[k]? = some q → u_Kn s q.1 q.2.1 q.2.2 z.1 z.2 := by
    intro k
    by_cases hk : k < 13
    · match k, hk with
      | 0, _ =>
        obtain ⟨c0, iS0, h0⟩ := u_known (n := 17) hta qIn0 (hta _ qinst_0)
        exact ⟨(c0, iS0), fun q hq => by cases hq; exact h0⟩
      | 1, _ =>
        obtain ⟨c0, iS0, h0⟩ := u_known (n := 3) hta qIn1 (hta _ qinst_1)
        exact ⟨(c0, iS0), fun q hq => by cases hq; exact h0⟩
      | 2, _ =>
        obtain ⟨c0, iS0, h0⟩ := u_known (n := 2) hta qIn2 (hta _ qinst_2)
        exact ⟨(c0, iS0), fun q hq => by cases hq; exact h0⟩
      | 3, _ =>
        obtain ⟨c0, iS0, h0⟩ := u_known (n := 6) hta qIn3 (hta _ qinst_3)
        exact ⟨(c0, iS0), fun q hq => by cases hq; exact h0⟩
      | 4, _ =>
        obtain ⟨c0, iS0, h0⟩ := u_known (n := 4) hta qIn4 (hta _ qinst_4)
        exact ⟨(c0, iS0), fun q hq => by cases hq; exact h0⟩
      | 5, _ =>
        obtain ⟨c0, iS0, h0⟩ := u_known (n := 4) hta qIn5 (hta _ qinst_5)
        exact ⟨(c0, iS0), fun q hq => by cases hq; exact h0⟩
      | 6, _ =>
        obtain ⟨c0, iS0, h0⟩ := u_known (n := 6) hta qIn6 (hta _ qinst_6)
        exact ⟨(c0, iS0), fun q hq => by cases hq; exact h0⟩
      | 7, _ =>
        obtain ⟨c0, iS0, h0⟩ := u_known (n := 10) hta qIn7 (hta _ qinst_7)
        exact ⟨(c0, iS0), fun q hq => by cases hq; exact h0⟩
      | 8, _ =>
        obtain ⟨c0, iS0, h0⟩ := u_known (n := 5) hta qIn8 (hta _ qinst_8)
        exact ⟨(c0, iS0), fun q hq => by cases hq; exact h0⟩
      | 9, _ =>
        obtain ⟨c0, iS0, h0⟩ := u_known (n := 11) hta qIn9 (hta _ qinst_9)
        exact ⟨(c0, iS0), fun q hq => by cases hq; exact h0⟩
      | 10, _ =>
        obtain ⟨c0, iS0, h0⟩ := u_known (n := 4) hta qIn10 (hta _ qinst_10)
        exact ⟨(c0, iS0), fun q hq => by cases hq; exact h0⟩
      | 11, _ =>
        obtain ⟨c0, iS0, h0⟩ := u_known (n := 11) hta qIn11 (hta _ qinst_11)
        exact ⟨(c0, iS0), fun q hq => by cases hq; exact h0⟩
      | 12, _ =>
        obtain ⟨c0, iS0, h0⟩ := u_known (n := 65) hta qIn12 (hta _ qinst_12)
        exact ⟨(c0, iS0), fun q hq => by cases hq; exact h0⟩
    · exact ⟨(0, fun _ => 0), fun q hq => absurd (List.getElem?_eq_some_iff.mp hq).1 hk⟩
  obtain ⟨dz, hdz⟩ := Classical.axiomOfChoice hcl
  obtain ⟨cI, hcI, hfI⟩ := q_arrOf (hta _ qarr_int)
  obtain ⟨cB, hcB, hfB⟩ := q_arrOf (hta _ qarr_byte)
  obtain ⟨cZ, hcZ, hfZ⟩ := q_arrOf (hta _ qarr_boolean)
  have hao := hts _ qao
  obtain ⟨comp, cQ, kQ, hfq, hkq, hkind, hfQ⟩ := Cond.arrayOver_specA hao
  obtain ⟨adK, adV, hvS, hev⟩ := vk_Sof (tm := qtm) (len := qSl) (byt := qSb) (N := 12) (A := fun q : Nat => s.heap.size ≤ q) (fun i hi => by have := qsl_lt i hi; omega) (fun i hi => hg _ (qm_ex i hi)) (fun i hi => hg _ (qm_co i hi)) (fun i hi => hg _ (qm_ar i hi)) (fun i hi => hg _ (qm_le i hi)) (fun i hi j hj => hg _ (qm_el i hi j hj)) (fun i j hi hj hij => (qm_ne i hi j hj hij).elim (fun h => Or.inl (hg _ h)) (fun h => Or.inr (hg _ h))) hA
  obtain ⟨tL, htL, hTL⟩ := va_Tof (f := fun j => .int (qLeast.getD j 0)) (A := fun q : Nat => s.heap.size ≤ q) (by decide) (hg _ qm_la) (va_eqt (hg _ qm_ll)) (fun j hj => va_eqt (hg _ (qm_lel j hj))) hA
  obtain ⟨tM, htM, hTM⟩ := va_Tof (f := fun j => .int (qMost.getD j 0)) (A := fun q : Nat => s.heap.size ≤ q) (by decide) (hg _ qm_ma) (va_eqt (hg _ qm_ml)) (fun j hj => va_eqt (hg _ (qm_mel j hj))) hA
  have hZc := va_Zof (A := fun q : Nat => s.heap.size ≤ q) (hts _ qls_cs) (hts _ qin_s) (va_eqi (hg _ qm_cs)) hA
  have hZL := va_Zref (A := fun q : Nat => s.heap.size ≤ q) (hts _ qls_l) (hts _ qin_d) htL hA
  have hZM := va_Zref (A := fun q : Nat => s.heap.size ≤ q) (hts _ qls_m) (hts _ qin_d) htM hA
  have hZq := va_Zqof (A := fun q : Nat => s.heap.size ≤ q) (hts _ qls_sf) (hts _ qin_p) (hg _ qm_sf) hA
  obtain ⟨tF, hZF⟩ : ∃ tF : Nat, va_Z "jdk/internal/util/Preconditions" "SIOOBE_FORMATTER" "Ljava/util/function/BiFunction;" .null (fun q : Nat => s.heap.size ≤ q) s s.heap ∨ va_Z "jdk/internal/util/Preconditions" "SIOOBE_FORMATTER" "Ljava/util/function/BiFunction;" (.ref tF) (fun q : Nat => s.heap.size ≤ q) s s.heap := by
    rcases hZq with h | ⟨t, h⟩
    · exact ⟨0, Or.inl h⟩
    · exact ⟨t, Or.inr h⟩
  refine ⟨((fun k => (dz k).1, fun k => (dz k).2), fun k => if k = 100 then cI else if k = 101 then cB else if k = 102 then cZ else cQ, qad s.heap.size adK adV tL tM tF b), ?_, ?_, rfl, rfl⟩
  · intro k hk
    show qad s.heap.size adK adV tL tM tF b k = qad s.heap.size adK adV tL tM tF b 0 + k
    rw [qad_0 hk, qad_0 (by decide)]
    omega
  · generalize hGe : (((fun k => (dz k).1, fun k => (dz k).2), fun k => if k = 100 then cI else if k = 101 then cB else if k = 102 then cZ else cQ, qad s.heap.size adK adV tL tM tF b) : qG) = G
    have e2 : G.2.2 = qad s.heap.size adK adV tL tM tF b := by rw [← hGe]
    have e1 : G.2.1 = fun k => if k = 100 then cI else if k = 101 then cB else if k = 102 then cZ else cQ := by rw [← hGe]
    have e0 : G.1 = ((fun k => (dz k).1, fun k => (dz k).2) : va_G) := by rw [← hGe]
    have hqA : qA G = fun q : Nat => s.heap.size ≤ q := by
      funext q
      show (G.2.2 0 ≤ q) = _
      rw [e2, qad_0 (by decide)]
      rfl
    refine ⟨?_, fun w hw => ?_, hao, ?_⟩
    · rw [e0]
      refine ⟨fun k q hq => hdz k q hq, fun k q hq => ?_⟩
      unfold qTys at hq
      rw [e1] at hq
      match k, hq with
      | 0, hq => cases hq; exact ⟨hcI, hfI⟩
      | 1, hq => cases hq; exact ⟨hcB, hfB⟩
      | 2, hq => cases hq; exact ⟨hcZ, hfZ⟩
      | 3, hq => cases hq; exact ⟨fun n z => ⟨fun k h => (by cases h), kQ, hkq, comp, hkind⟩, hfQ⟩
      | k + 4, hq => simp at hq
    · have h1 := List.mem_filter.mp hw
      have h2 := hts w h1.1
      cases w with
      | methodLinkNest a i x hh => exact va_Nw.of rfl h2
      | _ => cases h1.2
    · unfold qKs
      rw [hqA, e2]
      refine ⟨fun i hi => ?_, ⟨fun i hi => ?_, fun i j hi hj e => ?_⟩, hZc, hZL, hZM, hTL, hTM, hZF⟩
      · rw [qad_K hi]
        refine vk_R.of (A := #[Value.ref b]) ?_ (hev i hi)
        match i, hi with
        | 0, _ => exact hts _ qsr_0
        | 1, _ => exact hts _ qsr_1
        | 2, _ => exact hts _ qsr_2
        | 3, _ => exact hts _ qsr_3
        | 4, _ => exact hts _ qsr_4
        | 5, _ => exact hts _ qsr_5
        | 6, _ => exact hts _ qsr_6
        | 7, _ => exact hts _ qsr_7
        | 8, _ => exact hts _ qsr_8
        | 9, _ => exact hts _ qsr_9
        | 10, _ => exact hts _ qsr_10
        | 11, _ => exact hts _ qsr_11
      · dsimp only
        rw [qad_K hi, qad_V hi]
        exact hvS.1 i hi
      · dsimp only at e
        rw [qad_K hi, qad_K hj] at e
        exact hvS.2 i j hi hj e
