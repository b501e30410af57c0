/-! flat memory: cells by number, slots by number -/
abbrev qMem : Type := Nat → Nat → Int32
def qmu (σ : qMem) (k j : Nat) (v : Int32) : qMem := fun a b => if a = k ∧ b = j then v else σ a b
def qcp (σ : qMem) (ka sp kb dp n : Nat) : qMem := fun a b => if a = kb ∧ dp ≤ b ∧ b < dp + n then σ ka (sp + (b - dp)) else σ a b
abbrev qRf : Type := Nat → Nat → Option Nat
def qru (ρ : qRf) (k j : Nat) (v : Option Nat) : qRf := fun a b => if a = k ∧ b = j then v else ρ a b
abbrev qi (x : Int32) : Nat := x.toNatClampNeg
def qin (i : Int32) (n : Nat) : Bool := !(decide (i < 0)) && decide (i.toNatClampNeg < n)
theorem qin_vp {i : Int32} {n : Nat} (h : qin i n = true) : vp_in i n := by
  unfold qin at h
  simp only [Bool.and_eq_true, Bool.not_eq_true', decide_eq_false_iff_not, decide_eq_true_eq] at h
  unfold vp_in
  rintro (q | q)
  · exact h.1 q
  · omega
def qfix {α β : Type} (F : (α → Option β) → α → Option β) : Nat → α → Option β
  | 0, _ => none
  | n + 1, a => F (qfix F n) a
theorem qfix_ind {α β : Type} {F : (α → Option β) → α → Option β} {P : α → β → Prop} (hF : ∀ k : α → Option β, (∀ a r, k a = some r → P a r) → ∀ a r, F k a = some r → P a r) : ∀ n a r, qfix F n a = some r → P a r
  | 0, _, _, h => by cases h
  | n + 1, a, r, h => hF (qfix F n) (qfix_ind hF n) a r h
theorem qbind {α β : Type} {o : Option α} {g : α → Option β} {q : β} (h : o.bind g = some q) : ∃ u, o = some u ∧ g u = some q := by
  cases o with
  | none => cases h
  | some u => exact ⟨u, rfl, h⟩
/-! the world -/
abbrev qKd : Type := Nat × Nat
abbrev qG : Type := va_G × (Nat → ClassId) × (Nat → Nat)
def qA (G : qG) : Nat → Prop := fun q => G.2.2 0 ≤ q
def qFt : Nat → Nat → FieldType := fun c => match c with
  | 0 => qY0 | 1 => qY1 | 2 => qY2 | 3 => qY3 | 4 => qY4 | 5 => qY5 | 6 => qY6 | 7 => qY7 | 8 => qY8 | 9 => qY9 | 10 => qY10 | 11 => qY11 | _ => qY12
def qisR (c j : Nat) : Bool := match qFt c j with
  | .array _ => true
  | .object _ => true
  | _ => false
def qfv (ad : Nat → Nat) (ρ : qRf) (σ : qMem) (c k j : Nat) : Value := if qisR c j = true then va_rf ((ρ k j).map ad) else .int (σ k j)
def qent (G : qG) (ρ : qRf) (σ : qMem) (k : Nat) (kd : qKd) : va_E :=
  if kd.1 < 100 then .inr (kd.1, (List.range kd.2).map (qfv G.2.2 ρ σ kd.1 k))
  else if kd.1 = 103 then .inl (G.2.1 103, kd.2, .inr (.inr (.inr (.inr (fun j => (ρ k j).map G.2.2)))))
  else .inl (G.2.1 kd.1, kd.2, .inl (σ k))
def qwd (G : qG) (ks : List qKd) (ρ : qRf) (σ : qMem) : va_W := ks.mapIdx (fun k kd => (G.2.2 k, qent G ρ σ k kd))
theorem qwd_get {G : qG} {ks : List qKd} {ρ : qRf} {σ : qMem} {k : Nat} {kd : qKd} (h : ks[k]? = some kd) : (qwd G ks ρ σ)[k]? = some (G.2.2 k, qent G ρ σ k kd) := by
  simp [qwd, List.getElem?_mapIdx, h]
theorem qwd_len {G : qG} {ks : List qKd} {ρ : qRf} {σ : qMem} : (qwd G ks ρ σ).length = ks.length := by simp [qwd]
theorem qwd_inv {G : qG} {ks : List qKd} {ρ : qRf} {σ : qMem} {k : Nat} {x : Nat × va_E} (h : (qwd G ks ρ σ)[k]? = some x) : ∃ kd, ks[k]? = some kd ∧ x = (G.2.2 k, qent G ρ σ k kd) := by
  simp only [qwd, List.getElem?_mapIdx, Option.map_eq_some_iff] at h
  obtain ⟨kd, h1, h2⟩ := h
  exact ⟨kd, h1, h2.symm⟩
theorem qwd_set {G : qG} {ks : List qKd} {ρ ρ' : qRf} {σ σ' : qMem} {k : Nat} {kd : qKd} {e : va_E} (hk : ks[k]? = some kd) (he : qent G ρ' σ' k kd = e) (ho : ∀ k' kd', k' ≠ k → qent G ρ' σ' k' kd' = qent G ρ σ k' kd') : (qwd G ks ρ σ).set k (G.2.2 k, e) = qwd G ks ρ' σ' := by
  apply List.ext_getElem?
  intro i
  rw [List.getElem?_set]
  have hlt : k < ks.length := (List.getElem?_eq_some_iff.mp hk).1
  by_cases h : k = i
  · subst h
    rw [qwd_get (G := G) (ρ := ρ') (σ := σ') hk, he]
    simp [qwd_len, hlt]
  · rw [if_neg h]
    simp only [qwd, List.getElem?_mapIdx]
    cases hi : ks[i]? with
    | none => rfl
    | some x => simp [ho i x (Ne.symm h)]
theorem qmu_ne {σ : qMem} {k j : Nat} {v : Int32} {k' : Nat} (h : k' ≠ k) : qmu σ k j v k' = σ k' := by
  funext b
  simp [qmu, h]
theorem qent_mu {G : qG} {ρ : qRf} {σ : qMem} {k j : Nat} {v : Int32} {k' : Nat} {kd : qKd} (h : k' ≠ k) : qent G ρ (qmu σ k j v) k' kd = qent G ρ σ k' kd := by
  unfold qent qfv
  rw [qmu_ne h]
theorem qent_i {G : qG} {ρ : qRf} {σ : qMem} {k t n : Nat} (h1 : ¬ t < 100) (h2 : ¬ t = 103) : qent G ρ σ k (t, n) = .inl (G.2.1 t, n, .inl (σ k)) := by
  unfold qent
  rw [if_neg h1, if_neg h2]
theorem qent_o {G : qG} {ρ : qRf} {σ : qMem} {k t n : Nat} (h1 : t < 100) : qent G ρ σ k (t, n) = .inr (t, (List.range n).map (qfv G.2.2 ρ σ t k)) := by
  unfold qent
  rw [if_pos h1]
theorem qent_r {G : qG} {ρ : qRf} {σ : qMem} {k n : Nat} : qent G ρ σ k (103, n) = .inl (G.2.1 103, n, .inr (.inr (.inr (.inr (fun j => (ρ k j).map G.2.2))))) := rfl
theorem qmu_self {σ : qMem} {k j : Nat} {v : Int32} : qmu σ k j v k = upd (σ k) j v := by
  funext b
  by_cases h : b = j
  · subst h; simp [qmu, upd]
  · simp [qmu, upd, h]
/-! what is known of the tables, of the constants, of the statics -/
def qAW : List Cond := lw_tbl.filter goodWord
def qTys (G : qG) : List (ClassId × FieldType) := [(G.2.1 100, .int), (G.2.1 101, .byte), (G.2.1 102, .boolean), (G.2.1 103, .array .int)]
def qNW : List Cond := lw_tbl.filter (fun w => match w with | .methodLinkNest .. => true | _ => false)
def qSi : List Nat := [50, 56, 106, 108, 110, 112, 114, 116, 118, 120, 122, 124]
def qSt : List String := ["obit", "mass", "soul", "altar", "priest", "each", "from", "till", "house", "pays", "bread", "candle"]
def qSb : List (List Int32) := [[111, 98, 105, 116], [109, 97, 115, 115], [115, 111, 117, 108], [97, 108, 116, 97, 114], [112, 114, 105, 101, 115, 116], [101, 97, 99, 104], [102, 114, 111, 109], [116, 105, 108, 108], [104, 111, 117, 115, 101], [112, 97, 121, 115], [98, 114, 101, 97, 100], [99, 97, 110, 100, 108, 101]]
def qSl : List Nat := [4, 4, 4, 5, 6, 4, 4, 4, 5, 4, 5, 6]
def qLeast : List Int32 := [0, 0, 0, 0, 1, 0, 0, 0, 0, 0, 0]
def qMost : List Int32 := [1, 99, 3, 7, 360, 9999, 9999, 5, 100, 99, 99]
def qKs (G : qG) (U : State) : Prop :=
  (∀ i, i < 12 → vk_R "ChantryRolls$Deeds" (qSi.getD i 0) (qSt.getD i "") (G.2.2 (1048576 + i)) U) ∧ vk_S 12 qSl qSb (fun i => G.2.2 (1048576 + i)) (fun i => G.2.2 (1048676 + i)) (qA G) U U.heap ∧ va_Z "java/lang/String" "COMPACT_STRINGS" "Z" (.int 1) (qA G) U U.heap ∧
  va_Z "ChantryRolls$Deeds" "LEAST" "[I" (.ref (G.2.2 1048776)) (qA G) U U.heap ∧ va_Z "ChantryRolls$Deeds" "MOST" "[I" (.ref (G.2.2 1048777)) (qA G) U U.heap ∧ va_T .int (G.2.2 1048776) 11 (fun j => .int (qLeast.getD j 0)) (qA G) U U.heap ∧ va_T .int (G.2.2 1048777) 11 (fun j => .int (qMost.getD j 0)) (qA G) U U.heap ∧
  (va_Z "jdk/internal/util/Preconditions" "SIOOBE_FORMATTER" "Ljava/util/function/BiFunction;" .null (qA G) U U.heap ∨ va_Z "jdk/internal/util/Preconditions" "SIOOBE_FORMATTER" "Ljava/util/function/BiFunction;" (.ref (G.2.2 1048900)) (qA G) U U.heap)
def qKn (G : qG) (U : State) : Prop := va_K G.1 qCl (qTys G) U ∧ (∀ w ∈ qNW, va_Nw w U) ∧ va_Nw (.arrayOver (.array .int)) U ∧ qKs G U
theorem qNW_warm {w : Cond} (hw : w ∈ qNW) {s U : State} (hW : s.WarmedH U.vm) (h : va_Nw w s) : va_Nw w U := by
  have h2 := (List.mem_filter.mp hw).2
  cases w with
  | methodLinkNest a i x hh => exact va_Nw.warmM hW h
  | _ => cases h2
theorem qKs.move {G : qG} {s U : State} {locs : List Loc} (h : qKs G s) (hW : s.WarmedH U.vm) (hS : va_S (qA G) s.heap U.heap locs) : qKs G U := by
  obtain ⟨h1, h2, h3, h4, h5, h6, h7, h8⟩ := h
  exact ⟨fun i hi => (h1 i hi).warm hW, (h2.moved hW.alike).kept hS.2.1, (h3.moved hW.alike).kept hS.2.1, (h4.moved hW.alike).kept hS.2.1, (h5.moved hW.alike).kept hS.2.1, (h6.moved hW.alike).kept hS.2.1, (h7.moved hW.alike).kept hS.2.1, h8.elim (fun h => Or.inl ((h.moved hW.alike).kept hS.2.1)) (fun h => Or.inr ((h.moved hW.alike).kept hS.2.1))⟩
theorem qAO.moved {u U : State} (hvm : u.vm.Alike U.vm) (h : va_Nw (.arrayOver (.array .int)) u) : va_Nw (.arrayOver (.array .int)) U := by
  unfold va_Nw Cond.before Cond.holds at h ⊢
  simp only [Cond.value, beq_iff_eq] at h ⊢
  rw [hvm.findClass]
  cases hc : u.vm.findClass (FieldType.array .int).toString with
  | none => simp [hc] at h
  | some comp =>
    simp only [hc, Option.bind_some, Option.bind_eq_some_iff, Option.map_eq_some_iff] at h
    obtain ⟨c, hi, k, hk, hb⟩ := h
    obtain ⟨k', hk', he⟩ := hvm.2.2 _ _ hk
    have hi2 : (U.vm.classes.findIdx? fun (x : Class) => match x.kind with | .array component _ => component == comp | _ => false) = some c := by
      refine (va_idx_bare U.vm comp).symm.trans ?_
      first | rw [hvm.bare_eq] | rw [← hvm.bare_eq]
      exact (va_idx_bare u.vm comp).trans hi
    have hkd : k'.kind = k.kind := by rw [he]
    refine (congrArg (fun o : Option Nat => (o.bind (fun c => (U.vm.classes[c]?).map fun (k : Class) => match k.kind with | .array _ ty => decide (ty = FieldType.array .int) && decide (U.vm.findClass ("[" ++ (FieldType.array .int).toString) = some c) | _ => false))) hi2).trans ?_
    rw [Option.bind_some, hk', Option.map_some, hkd]
    first | rw [hvm.findClass, hb] | (rw [hvm.findClass]; exact congrArg some hb)
theorem qKn.move {G : qG} {s U : State} {locs : List Loc} (h : qKn G s) (hW : s.WarmedH U.vm) (hS : va_S (qA G) s.heap U.heap locs) : qKn G U := by
  obtain ⟨h1, h2, h3, h4⟩ := h
  exact ⟨h1.moved hW.alike, fun w hw => qNW_warm hw hW (h2 w hw), qAO.moved hW.alike h3, h4.move hW hS⟩
