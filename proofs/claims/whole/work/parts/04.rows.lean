/-! the judgement: memory, place, locals, stack -/
def qv (ad : Nat → Nat) : Value → Value
  | .ref k => .ref (ad k)
  | v => v
theorem qv_cat (ad : Nat → Nat) (v : Value) : (qv ad v).category = v.category := by cases v <;> rfl
abbrev qX : Type := Program × Launch × Env × Room × State × MethodId × Array Value × List Frame × Method × Code × (State → Prop)
abbrev qX.p (X : qX) : Program := X.1
abbrev qX.l (X : qX) : Launch := X.2.1
abbrev qX.e (X : qX) : Env := X.2.2.1
abbrev qX.R (X : qX) : Room := X.2.2.2.1
abbrev qX.s (X : qX) : State := X.2.2.2.2.1
abbrev qX.m (X : qX) : MethodId := X.2.2.2.2.2.1
abbrev qX.args (X : qX) : Array Value := X.2.2.2.2.2.2.1
abbrev qX.below (X : qX) : List Frame := X.2.2.2.2.2.2.2.1
abbrev qX.meth (X : qX) : Method := X.2.2.2.2.2.2.2.2.1
abbrev qX.c (X : qX) : Code := X.2.2.2.2.2.2.2.2.2.1
abbrev qX.Q (X : qX) : State → Prop := X.2.2.2.2.2.2.2.2.2.2
abbrev qLv : Type := List (Option Value)
def qlh (ad : Nat → Nat) (ls : Array Slot) (nL : Nat) (lv : qLv) : Prop := ls.size = nL ∧ lv_wf ls ∧ ∀ (i : Nat) (v : Value), lv[i]? = some (some v) → ls[i]? = some (.val (qv ad v))
def qRp (G : qG) (ks : List qKd) (ρ : qRf) (σ : qMem) (H : Heap) : Prop := va_P G.1 qCl (qwd G ks ρ σ) H ∧ H.size = G.2.2 0 + ks.length
def qV (G : qG) (X : qX) (nc ns : Nat) (ks : List qKd) (ρ : qRf) (σ : qMem) (pc : Nat) (lv : qLv) (st : List Value) : Prop :=
  ∀ (H : Heap) (locs : List Loc) (ls : Array Slot), qRp G ks ρ σ H → va_S (qA G) X.s.heap H locs → qlh G.2.2 ls X.c.maxLocals lv → W X.p X.l X.e X.R X.s X.m X.args X.below X.meth X.c H locs nc ns X.Q (F0 X.m pc ls (st.map (qv G.2.2)))
def qAd (G : qG) : Prop := ∀ k, k < 1048576 → G.2.2 k = G.2.2 0 + k
def qOk (G : qG) (X : qX) (own : String) (cc : ByteArray) (nL : Nat) (ret : Option FieldType) (d : Nat) : Prop :=
  X.p.tables.exec = Jvm.exec ∧ X.c.code = cc ∧ X.meth.sig.returnType = ret ∧ X.s.vm.findClass own = some X.m.cls ∧ (∀ w ∈ qAW, w.before X.args X.s = true) ∧ X.meth.locks = false ∧ qKn G X.s ∧ qAd G ∧ G.2.2 0 ≤ X.s.heap.size ∧ d ≤ X.R.frames ∧ 100 * d ≤ X.R.locals ∧ X.c.maxLocals = nL
theorem qOk.ex {G X own cc nL ret d} (h : qOk G X own cc nL ret d) : X.p.tables.exec = Jvm.exec := h.1
theorem qOk.cd {G X own cc nL ret d} (h : qOk G X own cc nL ret d) : X.c.code = cc := h.2.1
theorem qOk.rt {G X own cc nL ret d} (h : qOk G X own cc nL ret d) : X.meth.sig.returnType = ret := h.2.2.1
theorem qOk.ow {G X own cc nL ret d} (h : qOk G X own cc nL ret d) : X.s.vm.findClass own = some X.m.cls := h.2.2.2.1
theorem qOk.ts {G X own cc nL ret d} (h : qOk G X own cc nL ret d) : ∀ w ∈ qAW, w.before X.args X.s = true := h.2.2.2.2.1
theorem qOk.lk {G X own cc nL ret d} (h : qOk G X own cc nL ret d) : X.meth.locks = false := h.2.2.2.2.2.1
theorem qOk.kn {G X own cc nL ret d} (h : qOk G X own cc nL ret d) : qKn G X.s := h.2.2.2.2.2.2.1
theorem qOk.ad {G X own cc nL ret d} (h : qOk G X own cc nL ret d) : qAd G := h.2.2.2.2.2.2.2.1
theorem qOk.sz {G X own cc nL ret d} (h : qOk G X own cc nL ret d) : G.2.2 0 ≤ X.s.heap.size := h.2.2.2.2.2.2.2.2.1
theorem qOk.fr {G X own cc nL ret d} (h : qOk G X own cc nL ret d) : d ≤ X.R.frames := h.2.2.2.2.2.2.2.2.2.1
theorem qOk.lo {G X own cc nL ret d} (h : qOk G X own cc nL ret d) : 100 * d ≤ X.R.locals := h.2.2.2.2.2.2.2.2.2.2.1
theorem qOk.ml {G X own cc nL ret d} (h : qOk G X own cc nL ret d) : X.c.maxLocals = nL := h.2.2.2.2.2.2.2.2.2.2.2
abbrev qd (cc : ByteArray) (pc : Nat) (i : Instr) (len pc' : Nat) : Prop := decode cc pc = .ok (i, len) ∧ pc + len = pc'
theorem qw {w : Cond} (i : Nat) (h : lw_tbl[i]? = some w) (hg : goodWord w = true) : w ∈ qAW := List.mem_filter.mpr ⟨List.mem_of_getElem? h, hg⟩
/-! locals -/
def qok1 (lv : qLv) : Nat → Bool
  | 0 => true
  | i + 1 => match lv[i]? with
    | some (some w) => w.category == 1
    | _ => true
def qll (ad : Nat → Nat) (lv : qLv) : List (Nat × Value) := (List.range lv.length).filterMap (fun i => (lv[i]?.join).map (fun v => (i, qv ad v)))
theorem qll_mem {ad : Nat → Nat} {lv : qLv} {i : Nat} {w : Value} : (i, w) ∈ qll ad lv ↔ ∃ v, lv[i]? = some (some v) ∧ w = qv ad v := by
  unfold qll
  rw [List.mem_filterMap]
  constructor
  · rintro ⟨j, hj, h⟩
    rw [Option.map_eq_some_iff] at h
    obtain ⟨v, h1, h2⟩ := h
    cases h2
    refine ⟨v, ?_, rfl⟩
    cases h3 : lv[i]? with
    | none => simp [h3] at h1
    | some y => rw [h3] at h1; exact congrArg some h1
  · rintro ⟨v, h1, rfl⟩
    exact ⟨i, List.mem_range.mpr (List.getElem?_eq_some_iff.mp h1).1, by simp [h1]⟩
theorem qlh.has {ad : Nat → Nat} {ls : Array Slot} {nL : Nat} {lv : qLv} (h : qlh ad ls nL lv) : lv_has ls nL (qll ad lv) := by
  refine ⟨h.1, h.2.1, fun q hq => ?_⟩
  obtain ⟨i, w⟩ := q
  obtain ⟨v, h1, rfl⟩ := qll_mem.mp hq
  exact h.2.2 i v h1
theorem qlh_st1 {ad : Nat → Nat} {ls' : Array Slot} {nL : Nat} {lv : qLv} {i : Nat} {v : Value} (hok : qok1 lv i = true) (h : lv_has ls' nL ((i, qv ad v) :: (qll ad lv).filter (fun q => !(q.1 == i) && !(q.1 + 1 == i && q.2.category == 2)))) : qlh ad ls' nL (lv.set i (some v)) := by
  refine ⟨h.1, h.2.1, fun j w hj => ?_⟩
  rw [List.getElem?_set] at hj
  by_cases e : i = j
  · subst e
    rw [if_pos rfl] at hj
    by_cases hl : i < lv.length
    · rw [if_pos hl] at hj
      cases hj
      exact h.2.2 (i, qv ad v) List.mem_cons_self
    · rw [if_neg hl] at hj
      cases hj
  · rw [if_neg e] at hj
    refine h.2.2 (j, qv ad w) (List.mem_cons_of_mem _ (List.mem_filter.mpr ⟨qll_mem.mpr ⟨w, hj, rfl⟩, ?_⟩))
    simp only [Bool.and_eq_true, Bool.not_eq_true', beq_eq_false_iff_ne, ne_eq, Bool.and_eq_false_iff, qv_cat]
    refine ⟨fun q => e q.symm, ?_⟩
    by_cases e2 : j + 1 = i
    · right
      subst e2
      unfold qok1 at hok
      simp only [hj] at hok
      have : w.category = 1 := by simpa using hok
      omega
    · exact Or.inl e2
theorem qlh_st2 {ad : Nat → Nat} {ls' : Array Slot} {nL : Nat} {lv : qLv} {i : Nat} {v : Value} (hok : qok1 lv i = true) (h : lv_has ls' nL ((i, qv ad v) :: (qll ad lv).filter (fun q => !(q.1 == i) && (!(q.1 == i + 1) && !(q.1 + 1 == i && q.2.category == 2))))) : qlh ad ls' nL ((lv.set i (some v)).set (i + 1) none) := by
  refine ⟨h.1, h.2.1, fun j w hj => ?_⟩
  rw [List.getElem?_set] at hj
  by_cases e1 : i + 1 = j
  · rw [if_pos e1] at hj
    split at hj <;> cases hj
  rw [if_neg e1, List.getElem?_set] at hj
  by_cases e : i = j
  · subst e
    rw [if_pos rfl] at hj
    by_cases hl : i < lv.length
    · rw [if_pos hl] at hj
      cases hj
      exact h.2.2 (i, qv ad v) List.mem_cons_self
    · rw [if_neg hl] at hj
      cases hj
  · rw [if_neg e] at hj
    refine h.2.2 (j, qv ad w) (List.mem_cons_of_mem _ (List.mem_filter.mpr ⟨qll_mem.mpr ⟨w, hj, rfl⟩, ?_⟩))
    simp only [Bool.and_eq_true, Bool.not_eq_true', beq_eq_false_iff_ne, ne_eq, Bool.and_eq_false_iff, qv_cat]
    refine ⟨fun q => e q.symm, fun q => e1 q.symm, ?_⟩
    by_cases e2 : j + 1 = i
    · right
      subst e2
      unfold qok1 at hok
      simp only [hj] at hok
      have : w.category = 1 := by simpa using hok
      omega
    · exact Or.inl e2
section QROWS
variable {G : qG} {X : qX} {own : String} {cc : ByteArray} {nL : Nat} {ret : Option FieldType} {d nc ns : Nat} {ks : List qKd} {ρ : qRf} {σ : qMem} {pc pc' : Nat} {lv lv' : qLv} {st : List Value}
theorem q_iconst (hX : qOk G X own cc nL ret d) {n : Int} {v : Int32} (hd : qd cc pc (.iconst n) 1 pc') (hv : Int32.ofInt n = v) (k : qV G X nc ns ks ρ σ pc' lv (.int v :: st)) : qV G X nc ns ks ρ σ pc lv st := by
  obtain ⟨hd, rfl⟩ := hd
  exact fun H locs ls hR hS hl => lv_iconst hX.ex hX.cd hd hv (k H locs ls hR hS hl)
theorem q_bipush (hX : qOk G X own cc nL ret d) {n : Int} {v : Int32} (hd : qd cc pc (.bipush n) 2 pc') (hv : (Int8.ofInt n).toInt32 = v) (k : qV G X nc ns ks ρ σ pc' lv (.int v :: st)) : qV G X nc ns ks ρ σ pc lv st := by
  obtain ⟨hd, rfl⟩ := hd
  exact fun H locs ls hR hS hl => lv_bipush hX.ex hX.cd hd hv (k H locs ls hR hS hl)
theorem q_sipush (hX : qOk G X own cc nL ret d) {n : Int} {v : Int32} (hd : qd cc pc (.sipush n) 3 pc') (hv : (Int16.ofInt n).toInt32 = v) (k : qV G X nc ns ks ρ σ pc' lv (.int v :: st)) : qV G X nc ns ks ρ σ pc lv st := by
  obtain ⟨hd, rfl⟩ := hd
  exact fun H locs ls hR hS hl => lv_sipush hX.ex hX.cd hd hv (k H locs ls hR hS hl)
theorem q_lconst (hX : qOk G X own cc nL ret d) {n : Fin 2} {v : Int64} (hd : qd cc pc (.lconst n) 1 pc') (hv : Int64.ofNat (n : Nat) = v) (k : qV G X nc ns ks ρ σ pc' lv (.long v :: st)) : qV G X nc ns ks ρ σ pc lv st := by
  obtain ⟨hd, rfl⟩ := hd
  exact fun H locs ls hR hS hl => lv_lconst hX.ex hX.cd hd hv (k H locs ls hR hS hl)
theorem q_ldc (hX : qOk G X own cc nL ret d) {i : Nat} {v : Int32} (hw : Cond.constant own i v ∈ qAW) (hd : qd cc pc (.ldc i) 2 pc') (k : qV G X nc ns ks ρ σ pc' lv (.int v :: st)) : qV G X nc ns ks ρ σ pc lv st := by
  obtain ⟨hd, rfl⟩ := hd
  exact fun H locs ls hR hS hl => lv_ldc hX.ex hX.cd hX.ow (hX.ts _ hw) hd (k H locs ls hR hS hl)
theorem q_ldcw (hX : qOk G X own cc nL ret d) {i : Nat} {v : Int32} (hw : Cond.constant own i v ∈ qAW) (hd : qd cc pc (.ldc_w i) 3 pc') (k : qV G X nc ns ks ρ σ pc' lv (.int v :: st)) : qV G X nc ns ks ρ σ pc lv st := by
  obtain ⟨hd, rfl⟩ := hd
  exact fun H locs ls hR hS hl => lv_ldcw hX.ex hX.cd hX.ow (hX.ts _ hw) hd (k H locs ls hR hS hl)
theorem q_ldc2 (hX : qOk G X own cc nL ret d) {i : Nat} {v : Int64} (hw : Cond.constantLong own i v ∈ qAW) (hd : qd cc pc (.ldc2_w i) 3 pc') (k : qV G X nc ns ks ρ σ pc' lv (.long v :: st)) : qV G X nc ns ks ρ σ pc lv st := by
  obtain ⟨hd, rfl⟩ := hd
  exact fun H locs ls hR hS hl => lv_ldc2 hX.ex hX.cd hX.ow (hX.ts _ hw) hd (k H locs ls hR hS hl)
theorem q_iload_n (hX : qOk G X own cc nL ret d) {i : Fin 4} {x : Int32} (hd : qd cc pc (.iload_n i) 1 pc') (hk : lv[(i : Nat)]? = some (some (.int x))) (k : qV G X nc ns ks ρ σ pc' lv (.int x :: st)) : qV G X nc ns ks ρ σ pc lv st := by
  obtain ⟨hd, rfl⟩ := hd
  exact fun H locs ls hR hS hl => lv_iload_n hX.ex hX.cd hd rfl (hl.2.2 _ _ hk) (k H locs ls hR hS hl)
theorem q_iload (hX : qOk G X own cc nL ret d) {i : Nat} {x : Int32} (hd : qd cc pc (.iload i) 2 pc') (hk : lv[i]? = some (some (.int x))) (k : qV G X nc ns ks ρ σ pc' lv (.int x :: st)) : qV G X nc ns ks ρ σ pc lv st := by
  obtain ⟨hd, rfl⟩ := hd
  exact fun H locs ls hR hS hl => lv_iload hX.ex hX.cd hd (hl.2.2 _ _ hk) (k H locs ls hR hS hl)
theorem q_istore_n (hX : qOk G X own cc nL ret d) {i : Fin 4} {x : Int32} (hd : qd cc pc (.istore_n i) 1 pc') (hn : (i : Nat) < nL) (hok : qok1 lv (i : Nat) = true) (he : (lv.set (i : Nat) (some (.int x))) = lv') (k : qV G X nc ns ks ρ σ pc' lv' st) : qV G X nc ns ks ρ σ pc lv (.int x :: st) := by
  obtain ⟨hd, rfl⟩ := hd
  subst he
  exact fun H locs ls hR hS hl => lv_istore_n hX.ex hX.cd hd rfl (hl.has) (by rw [hX.ml]; exact hn) rfl (fun ls' hl' => k H locs ls' hR hS (qlh_st1 (v := .int x) hok hl'))
theorem q_istore (hX : qOk G X own cc nL ret d) {i : Nat} {x : Int32} (hd : qd cc pc (.istore i) 2 pc') (hn : (i : Nat) < nL) (hok : qok1 lv (i : Nat) = true) (he : (lv.set (i : Nat) (some (.int x))) = lv') (k : qV G X nc ns ks ρ σ pc' lv' st) : qV G X nc ns ks ρ σ pc lv (.int x :: st) := by
  obtain ⟨hd, rfl⟩ := hd
  subst he
  exact fun H locs ls hR hS hl => lv_istore hX.ex hX.cd hd (hl.has) (by rw [hX.ml]; exact hn) rfl (fun ls' hl' => k H locs ls' hR hS (qlh_st1 (v := .int x) hok hl'))
theorem q_lload_n (hX : qOk G X own cc nL ret d) {i : Fin 4} {x : Int64} (hd : qd cc pc (.lload_n i) 1 pc') (hk : lv[(i : Nat)]? = some (some (.long x))) (k : qV G X nc ns ks ρ σ pc' lv (.long x :: st)) : qV G X nc ns ks ρ σ pc lv st := by
  obtain ⟨hd, rfl⟩ := hd
  exact fun H locs ls hR hS hl => lv_lload_n hX.ex hX.cd hd rfl (hl.2.2 _ _ hk) (k H locs ls hR hS hl)
theorem q_lload (hX : qOk G X own cc nL ret d) {i : Nat} {x : Int64} (hd : qd cc pc (.lload i) 2 pc') (hk : lv[i]? = some (some (.long x))) (k : qV G X nc ns ks ρ σ pc' lv (.long x :: st)) : qV G X nc ns ks ρ σ pc lv st := by
  obtain ⟨hd, rfl⟩ := hd
  exact fun H locs ls hR hS hl => lv_lload hX.ex hX.cd hd (hl.2.2 _ _ hk) (k H locs ls hR hS hl)
theorem q_lstore_n (hX : qOk G X own cc nL ret d) {i : Fin 4} {x : Int64} (hd : qd cc pc (.lstore_n i) 1 pc') (hn : (i : Nat) + 1 < nL) (hok : qok1 lv (i : Nat) = true) (he : ((lv.set (i : Nat) (some (.long x))).set ((i : Nat) + 1) none) = lv') (k : qV G X nc ns ks ρ σ pc' lv' st) : qV G X nc ns ks ρ σ pc lv (.long x :: st) := by
  obtain ⟨hd, rfl⟩ := hd
  subst he
  exact fun H locs ls hR hS hl => lv_lstore_n hX.ex hX.cd hd rfl (hl.has) (by rw [hX.ml]; exact hn) rfl (fun ls' hl' => k H locs ls' hR hS (qlh_st2 (v := .long x) hok hl'))
theorem q_lstore (hX : qOk G X own cc nL ret d) {i : Nat} {x : Int64} (hd : qd cc pc (.lstore i) 2 pc') (hn : (i : Nat) + 1 < nL) (hok : qok1 lv (i : Nat) = true) (he : ((lv.set (i : Nat) (some (.long x))).set ((i : Nat) + 1) none) = lv') (k : qV G X nc ns ks ρ σ pc' lv' st) : qV G X nc ns ks ρ σ pc lv (.long x :: st) := by
  obtain ⟨hd, rfl⟩ := hd
  subst he
  exact fun H locs ls hR hS hl => lv_lstore hX.ex hX.cd hd (hl.has) (by rw [hX.ml]; exact hn) rfl (fun ls' hl' => k H locs ls' hR hS (qlh_st2 (v := .long x) hok hl'))
theorem q_aload_n (hX : qOk G X own cc nL ret d) {i : Fin 4} {x : Nat} (hd : qd cc pc (.aload_n i) 1 pc') (hk : lv[(i : Nat)]? = some (some (.ref x))) (k : qV G X nc ns ks ρ σ pc' lv (.ref x :: st)) : qV G X nc ns ks ρ σ pc lv st := by
  obtain ⟨hd, rfl⟩ := hd
  exact fun H locs ls hR hS hl => lv_aload_n hX.ex hX.cd hd rfl (hl.2.2 _ _ hk) (k H locs ls hR hS hl)
theorem q_aload (hX : qOk G X own cc nL ret d) {i : Nat} {x : Nat} (hd : qd cc pc (.aload i) 2 pc') (hk : lv[i]? = some (some (.ref x))) (k : qV G X nc ns ks ρ σ pc' lv (.ref x :: st)) : qV G X nc ns ks ρ σ pc lv st := by
  obtain ⟨hd, rfl⟩ := hd
  exact fun H locs ls hR hS hl => lv_aload hX.ex hX.cd hd (hl.2.2 _ _ hk) (k H locs ls hR hS hl)
theorem q_astore_n (hX : qOk G X own cc nL ret d) {i : Fin 4} {x : Nat} (hd : qd cc pc (.astore_n i) 1 pc') (hn : (i : Nat) < nL) (hok : qok1 lv (i : Nat) = true) (he : (lv.set (i : Nat) (some (.ref x))) = lv') (k : qV G X nc ns ks ρ σ pc' lv' st) : qV G X nc ns ks ρ σ pc lv (.ref x :: st) := by
  obtain ⟨hd, rfl⟩ := hd
  subst he
  exact fun H locs ls hR hS hl => lv_astore_n hX.ex hX.cd hd rfl (hl.has) (by rw [hX.ml]; exact hn) rfl (fun ls' hl' => k H locs ls' hR hS (qlh_st1 (v := .ref x) hok hl'))
theorem q_astore (hX : qOk G X own cc nL ret d) {i : Nat} {x : Nat} (hd : qd cc pc (.astore i) 2 pc') (hn : (i : Nat) < nL) (hok : qok1 lv (i : Nat) = true) (he : (lv.set (i : Nat) (some (.ref x))) = lv') (k : qV G X nc ns ks ρ σ pc' lv' st) : qV G X nc ns ks ρ σ pc lv (.ref x :: st) := by
  obtain ⟨hd, rfl⟩ := hd
  subst he
  exact fun H locs ls hR hS hl => lv_astore hX.ex hX.cd hd (hl.has) (by rw [hX.ml]; exact hn) rfl (fun ls' hl' => k H locs ls' hR hS (qlh_st1 (v := .ref x) hok hl'))
theorem q_iinc (hX : qOk G X own cc nL ret d) {i : Nat} {n : Int} {x v : Int32} (hd : qd cc pc (.iinc i n) 3 pc') (hk : lv[i]? = some (some (.int x))) (hv : x + Int32.ofInt n = v) (hn : i < nL) (hok : qok1 lv i = true) (he : lv.set i (some (.int v)) = lv') (k : qV G X nc ns ks ρ σ pc' lv' st) : qV G X nc ns ks ρ σ pc lv st := by
  obtain ⟨hd, rfl⟩ := hd
  subst he
  intro H locs ls hR hS hl
  obtain ⟨k2, hk2⟩ := List.getElem?_of_mem (qll_mem.mpr ⟨_, hk, rfl⟩ : (i, qv G.2.2 (.int x)) ∈ qll G.2.2 lv)
  exact lv_iinc hX.ex hX.cd hd (hl.has) hk2 hv (by rw [hX.ml]; exact hn) rfl (fun ls' hl' => k H locs ls' hR hS (qlh_st1 (v := .int v) hok hl'))
theorem q_iadd (hX : qOk G X own cc nL ret d) {x y : Int32} (hd : qd cc pc (.iadd) 1 pc') (k : qV G X nc ns ks ρ σ pc' lv (.int (x + y) :: st)) : qV G X nc ns ks ρ σ pc lv (.int y :: .int x :: st) := by
  obtain ⟨hd, rfl⟩ := hd
  exact fun H locs ls hR hS hl => lv_iadd hX.ex hX.cd hd (k H locs ls hR hS hl)
theorem q_isub (hX : qOk G X own cc nL ret d) {x y : Int32} (hd : qd cc pc (.isub) 1 pc') (k : qV G X nc ns ks ρ σ pc' lv (.int (x - y) :: st)) : qV G X nc ns ks ρ σ pc lv (.int y :: .int x :: st) := by
  obtain ⟨hd, rfl⟩ := hd
  exact fun H locs ls hR hS hl => lv_isub hX.ex hX.cd hd (k H locs ls hR hS hl)
theorem q_imul (hX : qOk G X own cc nL ret d) {x y : Int32} (hd : qd cc pc (.imul) 1 pc') (k : qV G X nc ns ks ρ σ pc' lv (.int (x * y) :: st)) : qV G X nc ns ks ρ σ pc lv (.int y :: .int x :: st) := by
  obtain ⟨hd, rfl⟩ := hd
  exact fun H locs ls hR hS hl => lv_imul hX.ex hX.cd hd (k H locs ls hR hS hl)
theorem q_iand (hX : qOk G X own cc nL ret d) {x y : Int32} (hd : qd cc pc (.iand) 1 pc') (k : qV G X nc ns ks ρ σ pc' lv (.int (x &&& y) :: st)) : qV G X nc ns ks ρ σ pc lv (.int y :: .int x :: st) := by
  obtain ⟨hd, rfl⟩ := hd
  exact fun H locs ls hR hS hl => lv_iand hX.ex hX.cd hd (k H locs ls hR hS hl)
theorem q_ior (hX : qOk G X own cc nL ret d) {x y : Int32} (hd : qd cc pc (.ior) 1 pc') (k : qV G X nc ns ks ρ σ pc' lv (.int (x ||| y) :: st)) : qV G X nc ns ks ρ σ pc lv (.int y :: .int x :: st) := by
  obtain ⟨hd, rfl⟩ := hd
  exact fun H locs ls hR hS hl => lv_ior hX.ex hX.cd hd (k H locs ls hR hS hl)
theorem q_ixor (hX : qOk G X own cc nL ret d) {x y : Int32} (hd : qd cc pc (.ixor) 1 pc') (k : qV G X nc ns ks ρ σ pc' lv (.int (x ^^^ y) :: st)) : qV G X nc ns ks ρ σ pc lv (.int y :: .int x :: st) := by
  obtain ⟨hd, rfl⟩ := hd
  exact fun H locs ls hR hS hl => lv_ixor hX.ex hX.cd hd (k H locs ls hR hS hl)
theorem q_ishl (hX : qOk G X own cc nL ret d) {x y : Int32} (hd : qd cc pc (.ishl) 1 pc') (k : qV G X nc ns ks ρ σ pc' lv (.int (x <<< (y &&& 31)) :: st)) : qV G X nc ns ks ρ σ pc lv (.int y :: .int x :: st) := by
  obtain ⟨hd, rfl⟩ := hd
  exact fun H locs ls hR hS hl => lv_ishl hX.ex hX.cd hd (k H locs ls hR hS hl)
theorem q_ishr (hX : qOk G X own cc nL ret d) {x y : Int32} (hd : qd cc pc (.ishr) 1 pc') (k : qV G X nc ns ks ρ σ pc' lv (.int (x >>> (y &&& 31)) :: st)) : qV G X nc ns ks ρ σ pc lv (.int y :: .int x :: st) := by
  obtain ⟨hd, rfl⟩ := hd
  exact fun H locs ls hR hS hl => lv_ishr hX.ex hX.cd hd (k H locs ls hR hS hl)
theorem q_idiv (hX : qOk G X own cc nL ret d) {x y : Int32} (hd : qd cc pc (.idiv) 1 pc') (hne : ¬ y = 0) (k : qV G X nc ns ks ρ σ pc' lv (.int (x / y) :: st)) : qV G X nc ns ks ρ σ pc lv (.int y :: .int x :: st) := by
  obtain ⟨hd, rfl⟩ := hd
  exact fun H locs ls hR hS hl => lv_idiv hX.ex hX.cd hd hne (k H locs ls hR hS hl)
theorem q_irem (hX : qOk G X own cc nL ret d) {x y : Int32} (hd : qd cc pc (.irem) 1 pc') (hne : ¬ y = 0) (k : qV G X nc ns ks ρ σ pc' lv (.int (x - x / y * y) :: st)) : qV G X nc ns ks ρ σ pc lv (.int y :: .int x :: st) := by
  obtain ⟨hd, rfl⟩ := hd
  exact fun H locs ls hR hS hl => lv_irem hX.ex hX.cd hd hne (k H locs ls hR hS hl)
theorem q_ineg (hX : qOk G X own cc nL ret d) {x : Int32} (hd : qd cc pc (.ineg) 1 pc') (k : qV G X nc ns ks ρ σ pc' lv (.int (-x) :: st)) : qV G X nc ns ks ρ σ pc lv (.int x :: st) := by
  obtain ⟨hd, rfl⟩ := hd
  exact fun H locs ls hR hS hl => lv_ineg hX.ex hX.cd hd (k H locs ls hR hS hl)
theorem q_iushr (hX : qOk G X own cc nL ret d) {x y : Int32} (hd : qd cc pc (.iushr) 1 pc') (k : qV G X nc ns ks ρ σ pc' lv (.int ((x.toUInt32 >>> (y.toUInt32 &&& Int32.toUInt32 31)).toInt32) :: st)) : qV G X nc ns ks ρ σ pc lv (.int y :: .int x :: st) := by
  obtain ⟨hd, rfl⟩ := hd
  exact fun H locs ls hR hS hl => lv_iushr hX.ex hX.cd hd rfl (k H locs ls hR hS hl)
theorem q_ladd (hX : qOk G X own cc nL ret d) {x y : Int64} (hd : qd cc pc (.ladd) 1 pc') (k : qV G X nc ns ks ρ σ pc' lv (.long (x + y) :: st)) : qV G X nc ns ks ρ σ pc lv (.long y :: .long x :: st) := by
  obtain ⟨hd, rfl⟩ := hd
  exact fun H locs ls hR hS hl => lv_ladd hX.ex hX.cd hd (k H locs ls hR hS hl)
theorem q_lsub (hX : qOk G X own cc nL ret d) {x y : Int64} (hd : qd cc pc (.lsub) 1 pc') (k : qV G X nc ns ks ρ σ pc' lv (.long (x - y) :: st)) : qV G X nc ns ks ρ σ pc lv (.long y :: .long x :: st) := by
  obtain ⟨hd, rfl⟩ := hd
  exact fun H locs ls hR hS hl => lv_lsub hX.ex hX.cd hd (k H locs ls hR hS hl)
theorem q_lmul (hX : qOk G X own cc nL ret d) {x y : Int64} (hd : qd cc pc (.lmul) 1 pc') (k : qV G X nc ns ks ρ σ pc' lv (.long (x * y) :: st)) : qV G X nc ns ks ρ σ pc lv (.long y :: .long x :: st) := by
  obtain ⟨hd, rfl⟩ := hd
  exact fun H locs ls hR hS hl => lv_lmul hX.ex hX.cd hd (k H locs ls hR hS hl)
theorem q_land (hX : qOk G X own cc nL ret d) {x y : Int64} (hd : qd cc pc (.land) 1 pc') (k : qV G X nc ns ks ρ σ pc' lv (.long (x &&& y) :: st)) : qV G X nc ns ks ρ σ pc lv (.long y :: .long x :: st) := by
  obtain ⟨hd, rfl⟩ := hd
  exact fun H locs ls hR hS hl => lv_land hX.ex hX.cd hd (k H locs ls hR hS hl)
theorem q_lor (hX : qOk G X own cc nL ret d) {x y : Int64} (hd : qd cc pc (.lor) 1 pc') (k : qV G X nc ns ks ρ σ pc' lv (.long (x ||| y) :: st)) : qV G X nc ns ks ρ σ pc lv (.long y :: .long x :: st) := by
  obtain ⟨hd, rfl⟩ := hd
  exact fun H locs ls hR hS hl => lv_lor hX.ex hX.cd hd (k H locs ls hR hS hl)
theorem q_lshl (hX : qOk G X own cc nL ret d) {x : Int64} {y : Int32} (hd : qd cc pc (.lshl) 1 pc') (k : qV G X nc ns ks ρ σ pc' lv (.long (x <<< (y.toInt64 &&& 63)) :: st)) : qV G X nc ns ks ρ σ pc lv (.int y :: .long x :: st) := by
  obtain ⟨hd, rfl⟩ := hd
  exact fun H locs ls hR hS hl => lv_lshl hX.ex hX.cd hd rfl (k H locs ls hR hS hl)
theorem q_lshr (hX : qOk G X own cc nL ret d) {x : Int64} {y : Int32} (hd : qd cc pc (.lshr) 1 pc') (k : qV G X nc ns ks ρ σ pc' lv (.long (x >>> (y.toInt64 &&& 63)) :: st)) : qV G X nc ns ks ρ σ pc lv (.int y :: .long x :: st) := by
  obtain ⟨hd, rfl⟩ := hd
  exact fun H locs ls hR hS hl => lv_lshr hX.ex hX.cd hd rfl (k H locs ls hR hS hl)
theorem q_i2l (hX : qOk G X own cc nL ret d) {x : Int32} (hd : qd cc pc (.i2l) 1 pc') (k : qV G X nc ns ks ρ σ pc' lv (.long x.toInt64 :: st)) : qV G X nc ns ks ρ σ pc lv (.int x :: st) := by
  obtain ⟨hd, rfl⟩ := hd
  exact fun H locs ls hR hS hl => lv_i2l hX.ex hX.cd hd rfl (k H locs ls hR hS hl)
theorem q_l2i (hX : qOk G X own cc nL ret d) {x : Int64} (hd : qd cc pc (.l2i) 1 pc') (k : qV G X nc ns ks ρ σ pc' lv (.int x.toInt32 :: st)) : qV G X nc ns ks ρ σ pc lv (.long x :: st) := by
  obtain ⟨hd, rfl⟩ := hd
  exact fun H locs ls hR hS hl => lv_l2i hX.ex hX.cd hd rfl (k H locs ls hR hS hl)
theorem q_i2b (hX : qOk G X own cc nL ret d) {x : Int32} (hd : qd cc pc (.i2b) 1 pc') (k : qV G X nc ns ks ρ σ pc' lv (.int x.toInt8.toInt32 :: st)) : qV G X nc ns ks ρ σ pc lv (.int x :: st) := by
  obtain ⟨hd, rfl⟩ := hd
  exact fun H locs ls hR hS hl => lv_i2b hX.ex hX.cd hd rfl (k H locs ls hR hS hl)
theorem q_i2s (hX : qOk G X own cc nL ret d) {x : Int32} (hd : qd cc pc (.i2s) 1 pc') (k : qV G X nc ns ks ρ σ pc' lv (.int x.toInt16.toInt32 :: st)) : qV G X nc ns ks ρ σ pc lv (.int x :: st) := by
  obtain ⟨hd, rfl⟩ := hd
  exact fun H locs ls hR hS hl => lv_i2s hX.ex hX.cd hd rfl (k H locs ls hR hS hl)
theorem q_i2c (hX : qOk G X own cc nL ret d) {x : Int32} (hd : qd cc pc (.i2c) 1 pc') (k : qV G X nc ns ks ρ σ pc' lv (.int (x.toUInt32 % 65536).toInt32 :: st)) : qV G X nc ns ks ρ σ pc lv (.int x :: st) := by
  obtain ⟨hd, rfl⟩ := hd
  exact fun H locs ls hR hS hl => lv_i2c hX.ex hX.cd hd rfl (k H locs ls hR hS hl)
theorem q_lcmp (hX : qOk G X own cc nL ret d) {x y : Int64} (hd : qd cc pc (.lcmp) 1 pc') (k : qV G X nc ns ks ρ σ pc' lv (.int (lg_cmp x y) :: st)) : qV G X nc ns ks ρ σ pc lv (.long y :: .long x :: st) := by
  obtain ⟨hd, rfl⟩ := hd
  exact fun H locs ls hR hS hl => W.lcmp hX.ex hX.cd hd (k H locs ls hR hS hl)
theorem q_dup (hX : qOk G X own cc nL ret d) {v : Value} (hv : v.category = 1) (hd : qd cc pc (.dup) 1 pc') (k : qV G X nc ns ks ρ σ pc' lv (v :: v :: st)) : qV G X nc ns ks ρ σ pc lv (v :: st) := by
  obtain ⟨hd, rfl⟩ := hd
  exact fun H locs ls hR hS hl => lv_dup hX.ex hX.cd hd (by rw [qv_cat]; exact hv) (k H locs ls hR hS hl)
theorem q_pop (hX : qOk G X own cc nL ret d) {v : Value} (hv : v.category = 1) (hd : qd cc pc (.pop) 1 pc') (k : qV G X nc ns ks ρ σ pc' lv st) : qV G X nc ns ks ρ σ pc lv (v :: st) := by
  obtain ⟨hd, rfl⟩ := hd
  exact fun H locs ls hR hS hl => lv_pop hX.ex hX.cd hd (by rw [qv_cat]; exact hv) (k H locs ls hR hS hl)
theorem q_dup2 (hX : qOk G X own cc nL ret d) {v w : Value} (hv : v.category = 1) (hw : w.category = 1) (hd : qd cc pc (.dup2) 1 pc') (k : qV G X nc ns ks ρ σ pc' lv (v :: w :: v :: w :: st)) : qV G X nc ns ks ρ σ pc lv (v :: w :: st) := by
  obtain ⟨hd, rfl⟩ := hd
  exact fun H locs ls hR hS hl => lv_dup2_11 hX.ex hX.cd hd (by rw [qv_cat]; exact hv) (by rw [qv_cat]; exact hw) (k H locs ls hR hS hl)
theorem q_goto (hX : qOk G X own cc nL ret d) {off : Int} {tgt : Nat} (hd : qd cc pc (.goto off) 3 pc') (ht : (pc : Int) + off = (tgt : Int)) (k : qV G X nc ns ks ρ σ tgt lv st) : qV G X nc ns ks ρ σ pc lv st := fun H locs ls hR hS hl => lv_goto hX.ex hX.cd hd.1 ht (k H locs ls hR hS hl)
theorem q_if_eq (hX : qOk G X own cc nL ret d) {x : Int32} {off : Int} {tgt : Nat} (hd : qd cc pc (.ifCond .eq off) 3 pc') (ht : (pc : Int) + off = (tgt : Int)) {α : Type} {a b : Option α} {q : α} (h : (if x = 0 then a else b) = some q) (kt : x = 0 → a = some q → qV G X nc ns ks ρ σ tgt lv st) (kf : ¬ x = 0 → b = some q → qV G X nc ns ks ρ σ pc' lv st) : qV G X nc ns ks ρ σ pc lv (.int x :: st) := by
  obtain ⟨hd, rfl⟩ := hd
  exact fun H locs ls hR hS hl => lv_if_eq hX.ex hX.cd hd ht (fun z => kt z (by rw [if_pos z] at h; exact h) H locs ls hR hS hl) (fun z => kf z (by rw [if_neg z] at h; exact h) H locs ls hR hS hl)
theorem q_icmp_eq (hX : qOk G X own cc nL ret d) {x y : Int32} {off : Int} {tgt : Nat} (hd : qd cc pc (.if_icmp .eq off) 3 pc') (ht : (pc : Int) + off = (tgt : Int)) {α : Type} {a b : Option α} {q : α} (h : (if x = y then a else b) = some q) (kt : x = y → a = some q → qV G X nc ns ks ρ σ tgt lv st) (kf : ¬ x = y → b = some q → qV G X nc ns ks ρ σ pc' lv st) : qV G X nc ns ks ρ σ pc lv (.int y :: .int x :: st) := by
  obtain ⟨hd, rfl⟩ := hd
  exact fun H locs ls hR hS hl => lv_icmp_eq hX.ex hX.cd hd ht (fun z => kt z (by rw [if_pos z] at h; exact h) H locs ls hR hS hl) (fun z => kf z (by rw [if_neg z] at h; exact h) H locs ls hR hS hl)
theorem q_if_ne (hX : qOk G X own cc nL ret d) {x : Int32} {off : Int} {tgt : Nat} (hd : qd cc pc (.ifCond .ne off) 3 pc') (ht : (pc : Int) + off = (tgt : Int)) {α : Type} {a b : Option α} {q : α} (h : (if x = 0 then b else a) = some q) (kt : ¬ x = 0 → a = some q → qV G X nc ns ks ρ σ tgt lv st) (kf : x = 0 → b = some q → qV G X nc ns ks ρ σ pc' lv st) : qV G X nc ns ks ρ σ pc lv (.int x :: st) := by
  obtain ⟨hd, rfl⟩ := hd
  exact fun H locs ls hR hS hl => lv_if_ne hX.ex hX.cd hd ht (fun z => kt z (by rw [if_neg z] at h; exact h) H locs ls hR hS hl) (fun z => kf z (by rw [if_pos z] at h; exact h) H locs ls hR hS hl)
theorem q_icmp_ne (hX : qOk G X own cc nL ret d) {x y : Int32} {off : Int} {tgt : Nat} (hd : qd cc pc (.if_icmp .ne off) 3 pc') (ht : (pc : Int) + off = (tgt : Int)) {α : Type} {a b : Option α} {q : α} (h : (if x = y then b else a) = some q) (kt : ¬ x = y → a = some q → qV G X nc ns ks ρ σ tgt lv st) (kf : x = y → b = some q → qV G X nc ns ks ρ σ pc' lv st) : qV G X nc ns ks ρ σ pc lv (.int y :: .int x :: st) := by
  obtain ⟨hd, rfl⟩ := hd
  exact fun H locs ls hR hS hl => lv_icmp_ne hX.ex hX.cd hd ht (fun z => kt z (by rw [if_neg z] at h; exact h) H locs ls hR hS hl) (fun z => kf z (by rw [if_pos z] at h; exact h) H locs ls hR hS hl)
theorem q_if_lt (hX : qOk G X own cc nL ret d) {x : Int32} {off : Int} {tgt : Nat} (hd : qd cc pc (.ifCond .lt off) 3 pc') (ht : (pc : Int) + off = (tgt : Int)) {α : Type} {a b : Option α} {q : α} (h : (if x < 0 then a else b) = some q) (kt : x < 0 → a = some q → qV G X nc ns ks ρ σ tgt lv st) (kf : ¬ x < 0 → b = some q → qV G X nc ns ks ρ σ pc' lv st) : qV G X nc ns ks ρ σ pc lv (.int x :: st) := by
  obtain ⟨hd, rfl⟩ := hd
  exact fun H locs ls hR hS hl => lv_if_lt hX.ex hX.cd hd ht (fun z => kt z (by rw [if_pos z] at h; exact h) H locs ls hR hS hl) (fun z => kf z (by rw [if_neg z] at h; exact h) H locs ls hR hS hl)
theorem q_icmp_lt (hX : qOk G X own cc nL ret d) {x y : Int32} {off : Int} {tgt : Nat} (hd : qd cc pc (.if_icmp .lt off) 3 pc') (ht : (pc : Int) + off = (tgt : Int)) {α : Type} {a b : Option α} {q : α} (h : (if x < y then a else b) = some q) (kt : x < y → a = some q → qV G X nc ns ks ρ σ tgt lv st) (kf : ¬ x < y → b = some q → qV G X nc ns ks ρ σ pc' lv st) : qV G X nc ns ks ρ σ pc lv (.int y :: .int x :: st) := by
  obtain ⟨hd, rfl⟩ := hd
  exact fun H locs ls hR hS hl => lv_icmp_lt hX.ex hX.cd hd ht (fun z => kt z (by rw [if_pos z] at h; exact h) H locs ls hR hS hl) (fun z => kf z (by rw [if_neg z] at h; exact h) H locs ls hR hS hl)
theorem q_if_ge (hX : qOk G X own cc nL ret d) {x : Int32} {off : Int} {tgt : Nat} (hd : qd cc pc (.ifCond .ge off) 3 pc') (ht : (pc : Int) + off = (tgt : Int)) {α : Type} {a b : Option α} {q : α} (h : (if 0 ≤ x then a else b) = some q) (kt : 0 ≤ x → a = some q → qV G X nc ns ks ρ σ tgt lv st) (kf : ¬ 0 ≤ x → b = some q → qV G X nc ns ks ρ σ pc' lv st) : qV G X nc ns ks ρ σ pc lv (.int x :: st) := by
  obtain ⟨hd, rfl⟩ := hd
  exact fun H locs ls hR hS hl => lv_if_ge hX.ex hX.cd hd ht (fun z => kt z (by rw [if_pos z] at h; exact h) H locs ls hR hS hl) (fun z => kf z (by rw [if_neg z] at h; exact h) H locs ls hR hS hl)
theorem q_icmp_ge (hX : qOk G X own cc nL ret d) {x y : Int32} {off : Int} {tgt : Nat} (hd : qd cc pc (.if_icmp .ge off) 3 pc') (ht : (pc : Int) + off = (tgt : Int)) {α : Type} {a b : Option α} {q : α} (h : (if y ≤ x then a else b) = some q) (kt : y ≤ x → a = some q → qV G X nc ns ks ρ σ tgt lv st) (kf : ¬ y ≤ x → b = some q → qV G X nc ns ks ρ σ pc' lv st) : qV G X nc ns ks ρ σ pc lv (.int y :: .int x :: st) := by
  obtain ⟨hd, rfl⟩ := hd
  exact fun H locs ls hR hS hl => lv_icmp_ge hX.ex hX.cd hd ht (fun z => kt z (by rw [if_pos z] at h; exact h) H locs ls hR hS hl) (fun z => kf z (by rw [if_neg z] at h; exact h) H locs ls hR hS hl)
theorem q_if_gt (hX : qOk G X own cc nL ret d) {x : Int32} {off : Int} {tgt : Nat} (hd : qd cc pc (.ifCond .gt off) 3 pc') (ht : (pc : Int) + off = (tgt : Int)) {α : Type} {a b : Option α} {q : α} (h : (if 0 < x then a else b) = some q) (kt : 0 < x → a = some q → qV G X nc ns ks ρ σ tgt lv st) (kf : ¬ 0 < x → b = some q → qV G X nc ns ks ρ σ pc' lv st) : qV G X nc ns ks ρ σ pc lv (.int x :: st) := by
  obtain ⟨hd, rfl⟩ := hd
  exact fun H locs ls hR hS hl => lv_if_gt hX.ex hX.cd hd ht (fun z => kt z (by rw [if_pos z] at h; exact h) H locs ls hR hS hl) (fun z => kf z (by rw [if_neg z] at h; exact h) H locs ls hR hS hl)
theorem q_icmp_gt (hX : qOk G X own cc nL ret d) {x y : Int32} {off : Int} {tgt : Nat} (hd : qd cc pc (.if_icmp .gt off) 3 pc') (ht : (pc : Int) + off = (tgt : Int)) {α : Type} {a b : Option α} {q : α} (h : (if y < x then a else b) = some q) (kt : y < x → a = some q → qV G X nc ns ks ρ σ tgt lv st) (kf : ¬ y < x → b = some q → qV G X nc ns ks ρ σ pc' lv st) : qV G X nc ns ks ρ σ pc lv (.int y :: .int x :: st) := by
  obtain ⟨hd, rfl⟩ := hd
  exact fun H locs ls hR hS hl => lv_icmp_gt hX.ex hX.cd hd ht (fun z => kt z (by rw [if_pos z] at h; exact h) H locs ls hR hS hl) (fun z => kf z (by rw [if_neg z] at h; exact h) H locs ls hR hS hl)
theorem q_if_le (hX : qOk G X own cc nL ret d) {x : Int32} {off : Int} {tgt : Nat} (hd : qd cc pc (.ifCond .le off) 3 pc') (ht : (pc : Int) + off = (tgt : Int)) {α : Type} {a b : Option α} {q : α} (h : (if x ≤ 0 then a else b) = some q) (kt : x ≤ 0 → a = some q → qV G X nc ns ks ρ σ tgt lv st) (kf : ¬ x ≤ 0 → b = some q → qV G X nc ns ks ρ σ pc' lv st) : qV G X nc ns ks ρ σ pc lv (.int x :: st) := by
  obtain ⟨hd, rfl⟩ := hd
  exact fun H locs ls hR hS hl => lv_if_le hX.ex hX.cd hd ht (fun z => kt z (by rw [if_pos z] at h; exact h) H locs ls hR hS hl) (fun z => kf z (by rw [if_neg z] at h; exact h) H locs ls hR hS hl)
theorem q_icmp_le (hX : qOk G X own cc nL ret d) {x y : Int32} {off : Int} {tgt : Nat} (hd : qd cc pc (.if_icmp .le off) 3 pc') (ht : (pc : Int) + off = (tgt : Int)) {α : Type} {a b : Option α} {q : α} (h : (if x ≤ y then a else b) = some q) (kt : x ≤ y → a = some q → qV G X nc ns ks ρ σ tgt lv st) (kf : ¬ x ≤ y → b = some q → qV G X nc ns ks ρ σ pc' lv st) : qV G X nc ns ks ρ σ pc lv (.int y :: .int x :: st) := by
  obtain ⟨hd, rfl⟩ := hd
  exact fun H locs ls hR hS hl => lv_icmp_le hX.ex hX.cd hd ht (fun z => kt z (by rw [if_pos z] at h; exact h) H locs ls hR hS hl) (fun z => kf z (by rw [if_neg z] at h; exact h) H locs ls hR hS hl)
/-- fewer locals -/
def qmask : List Bool → qLv → qLv
  | true :: bs, v :: lv => v :: qmask bs lv
  | false :: bs, _ :: lv => none :: qmask bs lv
  | _, _ => []
theorem qmask_get : ∀ (bs : List Bool) (lv : qLv) (i : Nat) (v : Value), (qmask bs lv)[i]? = some (some v) → lv[i]? = some (some v)
  | true :: bs, w :: lv, 0, v, h => h
  | false :: bs, w :: lv, 0, v, h => by cases h
  | true :: bs, w :: lv, i + 1, v, h => qmask_get bs lv i v h
  | false :: bs, w :: lv, i + 1, v, h => qmask_get bs lv i v h
  | [], _, i, v, h => by simp [qmask] at h
  | true :: _, [], i, v, h => by simp [qmask] at h
  | false :: _, [], i, v, h => by simp [qmask] at h
theorem q_mask (bs : List Bool) (he : qmask bs lv = lv') (k : qV G X nc ns ks ρ σ pc lv' st) : qV G X nc ns ks ρ σ pc lv st := by
  subst he
  exact fun H locs ls hR hS hl => k H locs ls hR hS ⟨hl.1, hl.2.1, fun i v h => hl.2.2 i v (qmask_get bs lv i v h)⟩
end QROWS
