/-! contracts, returns, calls -/
def qrm (d mc ms : Nat) : Room := { frames := d, cells := mc, slots := ms, locals := 100 * d }
def qPc (G : qG) (ks : List qKd) (ρ : qRf) (σ : qMem) (av : List Value) : Array Value → State → Prop := fun v U => v = (av.map (qv G.2.2)).toArray ∧ qKn G U ∧ qRp G ks ρ σ U.heap
def qQc (G : qG) (ks : List qKd) (ρ : qRf) (σ : qMem) (r : Option Value) : Array Value → State → Outcome → State → Prop := fun _ st o t => o = .returned (r.map (qv G.2.2)) ∧ qRp G ks ρ σ t.heap ∧ va_F (qA G) st t
def qCt (l : Launch) (y : MethodName) (cc : ByteArray) (nL : Nat) (ret : Option FieldType) (d : Nat) (G : qG) (ks : List qKd) (ρ : qRf) (σ : qMem) (av : List Value) (r : Option Value) (ks' : List qKd) (ρ' : qRf) (σ' : qMem) (mc ms : Nat) : Prop :=
  Met l y (Cond.code y cc nL ret :: qAW) (qrm d mc ms) (qPc G ks ρ σ av) (qQc G ks' ρ' σ' r) mc ms (qA G)
def qTg (G : qG) (X : qX) (mc ms : Nat) (ks : List qKd) (ρ : qRf) (σ : qMem) (r : Option Value) : Prop := X.Q = MQ X.below (qQc G ks ρ σ r) X.args X.s mc ms (qA G)
theorem qAW_good {w : Cond} (h : w ∈ qAW) : (w.onTables && w.keeps) = true ∨ ∃ ty, w = .arrayClass ty := good_of_word (List.mem_filter.mp h).2
theorem qKn.same {G : qG} {U U' : State} (h : qKn G U) (hv : U.vm = U'.vm) (hh : U.heap = U'.heap) : qKn G U' := by
  have ha : U.vm.Alike U'.vm := by rw [hv]; exact Vm.Alike.refl _
  obtain ⟨h1, h2, h3, k1, k2, k3, k4, k5, k6, k7, k8⟩ := h
  rw [hh] at k2 k3 k4 k5 k6 k7 k8
  refine ⟨h1.moved ha, fun w hw => ?_, qAO.moved ha h3, fun i hi => (k1 i hi).same hv.symm, k2.moved ha, k3.moved ha, k4.moved ha, k5.moved ha, k6.moved ha, k7.moved ha, k8.elim (fun h => Or.inl (h.moved ha)) (fun h => Or.inr (h.moved ha))⟩
  have h4 := (List.mem_filter.mp hw).2
  have h5 := h2 w hw
  cases w with
  | methodLinkNest a i x hh => exact va_Nw.same rfl hv h5
  | _ => cases h4
theorem qBlind {G : qG} {ks : List qKd} {ρ : qRf} {σ : qMem} {av : List Value} : FrameBlind (qPc G ks ρ σ av) := fun a U g mk h => ⟨h.1, h.2.1.same rfl rfl, h.2.2⟩
/-- the locals at a method's beginning -/
def qen : List Value → qLv
  | [] => []
  | v :: vs => if v.category = 2 then some v :: none :: qen vs else some v :: qen vs
theorem qen_in {ad : Nat → Nat} : ∀ (av : List Value) (k i : Nat) (v : Value), (qen av)[i]? = some (some v) → (k + i, qv ad v) ∈ lv_args k (av.map (qv ad))
  | [], k, i, v, h => by simp [qen] at h
  | w :: vs, k, i, v, h => by
    unfold qen at h
    simp only [List.map_cons, lv_args, qv_cat]
    by_cases hc : w.category = 2
    · rw [if_pos hc] at h ⊢
      match i, h with
      | 0, h => simp at h; subst h; exact List.mem_cons_self
      | 1, h => simp at h
      | i + 2, h =>
        have h2 : (qen vs)[i]? = some (some v) := by simpa using h
        have := qen_in (ad := ad) vs (k + 2) i v h2
        rw [show k + (i + 2) = k + 2 + i by omega]
        exact List.mem_cons_of_mem _ this
    · rw [if_neg hc] at h ⊢
      match i, h with
      | 0, h => simp at h; subst h; exact List.mem_cons_self
      | i + 1, h =>
        have h2 : (qen vs)[i]? = some (some v) := by simpa using h
        have := qen_in (ad := ad) vs (k + 1) i v h2
        rw [show k + (i + 1) = k + 1 + i by omega]
        exact List.mem_cons_of_mem _ this
theorem qen_len {ad : Nat → Nat} : ∀ (av : List Value), (lg_sl (av.map (qv ad))).length = (qen av).length
  | [] => rfl
  | w :: vs => by
    have ih := qen_len (ad := ad) vs
    unfold lg_sl at ih ⊢
    simp only [List.map_cons, List.flatMap_cons, List.length_append, qv_cat, ih, qen]
    by_cases hc : w.category = 2
    · simp [hc]; omega
    · simp [hc]; omega
theorem qCt.of {l : Launch} {y : MethodName} {cc : ByteArray} {nL : Nat} {ret : Option FieldType} {d : Nat} {G : qG} {ks : List qKd} {ρ : qRf} {σ : qMem} {av : List Value} {r : Option Value} {ks' : List qKd} {ρ' : qRf} {σ' : qMem} {mc ms : Nat} {lv : qLv} (hy : plainName y.cls = true) (hA : qAd G) (hn : (qen av).length ≤ nL) (hlv : qen av ++ List.replicate (nL - (qen av).length) none = lv)
    (body : ∀ X : qX, X.l = l → X.R.cells = mc → X.R.slots = ms → (y.name = "<init>" → X.meth.name = "<init>") → qOk G X y.cls cc nL ret d → qTg G X mc ms ks' ρ' σ' r → qV G X 0 0 ks ρ σ 0 lv []) : qCt l y cc nL ret d G ks ρ σ av r ks' ρ' σ' mc ms := by
  refine Met.ofW (cc := cc) (maxL := nL) (ret := ret) hy rfl ?_
  intro p e s m args below meth c s₁ B hml hv
  obtain ⟨rfl, hKn, hRp⟩ := hv
  have hts := atoms_spec (ws := Cond.code y cc nL ret :: qAW) B.pre
  have hown : s.vm.findClass y.cls = some m.cls := findClass_of_methodNamed B.named
  have hX : qOk G (p, l, e, (headSpec (Cond.code y cc nL ret :: qAW) (qrm d mc ms)).room, s, m, (av.map (qv G.2.2)).toArray, below, meth, c, MQ below (qQc G ks' ρ' σ' r) (av.map (qv G.2.2)).toArray s mc ms (qA G)) y.cls cc nL ret d :=
    ⟨B.exec, B.bytes, B.returns, hown, fun w hw => hts w (List.mem_cons_of_mem _ hw), B.notSynchronized, hKn, hA, by rw [hRp.2]; exact Nat.le_add_right _ _, Nat.le_refl _, Nat.le_refl _, hml⟩
  have hw := body _ rfl rfl rfl (fun h => (name_of_methodNamed B.named B.method).1.trans h) hX rfl
  have hle : (lg_sl (av.map (qv G.2.2))).length ≤ nL := by rw [qen_len]; exact hn
  have hl := lv_entry (av.map (qv G.2.2)) hle
  rw [lg_entry_eq]
  refine hw s.heap [] _ hRp va_S.rf ⟨?_, hl.2.1, ?_⟩
  · show _ = c.maxLocals
    rw [hml]
    exact hl.1
  · intro i v hi
    rw [← hlv] at hi
    by_cases hb : i < (qen av).length
    · rw [List.getElem?_append_left hb] at hi
      have h2 := hl.2.2 _ (qen_in av 0 i v hi)
      simpa using h2
    · rw [List.getElem?_append_right (by omega)] at hi
      have := List.eq_of_mem_replicate (List.mem_of_getElem? hi)
      cases this
section QRET
variable {G : qG} {X : qX} {own : String} {cc : ByteArray} {nL : Nat} {ret : Option FieldType} {d nc ns : Nat} {ks : List qKd} {ρ : qRf} {σ : qMem} {pc pc' : Nat} {lv lv' : qLv} {st : List Value}
theorem q_widen {nc' ns' : Nat} (h1 : nc ≤ nc') (h2 : ns ≤ ns') (K : qV G X nc' ns' ks ρ σ pc lv st) : qV G X nc ns ks ρ σ pc lv st := fun H locs ls hR hS hl => W.widen h1 h2 (K H locs ls hR hS hl)
theorem q_iret (hX : qOk G X own cc nL (some .int) d) {v : Int32} (hT : qTg G X nc ns ks ρ σ (some (.int v))) (hd : qd cc pc .ireturn 1 pc') : qV G X nc ns ks ρ σ pc lv [.int v] := by
  intro H locs ls hR hS hl
  unfold qTg at hT
  rw [hT]
  exact W.iret hX.ex hX.cd hX.rt (fun t ht hW => ⟨rfl, by rw [ht]; exact hR, hS.F ht⟩) hS.2.2 hd.1 hX.lk
theorem q_lret (hX : qOk G X own cc nL (some .long) d) {v : Int64} (hT : qTg G X nc ns ks ρ σ (some (.long v))) (hd : qd cc pc .lreturn 1 pc') : qV G X nc ns ks ρ σ pc lv [.long v] := by
  intro H locs ls hR hS hl
  unfold qTg at hT
  rw [hT]
  exact W.lret hX.ex hX.cd hX.rt (fun t ht hW => ⟨rfl, by rw [ht]; exact hR, hS.F ht⟩) hS.2.2 hd.1 hX.lk
theorem q_vret (hX : qOk G X own cc nL none d) (hT : qTg G X nc ns ks ρ σ none) (hd : qd cc pc .return_ 1 pc') : qV G X nc ns ks ρ σ pc lv [] := by
  intro H locs ls hR hS hl
  unfold qTg at hT
  rw [hT]
  exact W.vret hX.ex hX.cd hX.rt (fun t ht hW => ⟨rfl, by rw [ht]; exact hR, hS.F ht⟩) hS.2.2 hd.1 hX.lk
theorem q_aret {C : String} (hX : qOk G X own cc nL (some (.object C)) d) {v : Nat} (hT : qTg G X nc ns ks ρ σ (some (.ref v))) (hd : qd cc pc .areturn 1 pc') : qV G X nc ns ks ρ σ pc lv [.ref v] := by
  intro H locs ls hR hS hl
  unfold qTg at hT
  rw [hT]
  exact W.aret hX.ex hX.cd hX.rt (Or.inl ⟨_, rfl⟩) (Or.inr ⟨_, rfl⟩) (fun t ht hW => ⟨rfl, by rw [ht]; exact hR, hS.F ht⟩) hS.2.2 hd.1 hX.lk
theorem qW_zret {p : Program} {l : Launch} {e : Env} {R : Room} {s : State} {m : MethodId} {args : Array Value} {below : List Frame} {meth : Method} {c : Code} {H : Heap} {locs : List Loc} {cells slots : Nat} {cc : ByteArray} {Qc : Array Value → State → Outcome → State → Prop} {free : Addr → Prop} {v v' : Int32} {ty : FieldType} (hexec : p.tables.exec = Jvm.exec) (hb : c.code = cc) (hr : meth.sig.returnType = some ty) (hn : narrow ty (.int v) = .int v')
    (hq : ∀ t : State, t.heap = H → s.WarmedH t.vm → Qc args s (.returned (some (.int v'))) t) (hf : ∀ q ∈ locs, free q.base)
    {pc : Nat} {ls : Array Slot} (hdg : decode cc pc = .ok (.ireturn, 1)) (hlocks : meth.locks = false) : W p l e R s m args below meth c H locs cells slots (MQ below Qc args s cells slots free) (F0 m pc ls [.int v]) := by
  intro T hT X
  obtain ⟨fs, hret, hrun, hended, hW, hframe⟩ := X.leave (v := some (.int v')) (hlocks := hlocks) (fun h => by rw [hr] at h; cases h)
  have hmeth' : T.vm.method? m = some meth := X.method'
  refine ⟨T.setFrames fs, ?_, .returned (some (.int v')), hrun, hended, hq _ hT hW, locs, ⟨⟨_, rfl⟩, hW, hframe⟩, hf⟩
  jvm_step X.here [X.here.top, hexec, hb, hdg, hmeth', hr, hn]
  (try refine ⟨rfl, ?_⟩); (try refine ⟨rfl, ?_⟩)
  first | (intro acts; rw [hret _ acts rfl rfl rfl]) | rw [hret _ _ rfl rfl rfl]
  exact Steps.refl _
theorem q_zret (hX : qOk G X own cc nL (some .boolean) d) {v v' : Int32} (hv : vp_nar .boolean v = v') (hT : qTg G X nc ns ks ρ σ (some (.int v'))) (hd : qd cc pc .ireturn 1 pc') : qV G X nc ns ks ρ σ pc lv [.int v] := by
  intro H locs ls hR hS hl
  unfold qTg at hT
  rw [hT]
  exact qW_zret hX.ex hX.cd hX.rt (by rw [← hv]; rfl) (fun t ht hW => ⟨rfl, by rw [ht]; exact hR, hS.F ht⟩) hS.2.2 hd.1 hX.lk
/-! switches -/
theorem q_tabIn (hX : qOk G X own cc nL ret d) {dflt lo hi off : Int} {offs : Array Int} {len tgt : Nat} {x v : Int32} (hx : x = v) (hd : qd cc pc (.tableswitch dflt lo hi offs) len pc') (h1 : ¬ v.toInt < lo) (h2 : ¬ hi < v.toInt) (ho : offs[(v.toInt - lo).toNat]? = some off) (ht : (pc : Int) + off = (tgt : Int)) (K : qV G X nc ns ks ρ σ tgt lv st) : qV G X nc ns ks ρ σ pc lv (.int x :: st) := by
  subst hx
  exact fun H locs ls hR hS hl => lv_tableIn hX.ex hX.cd hd.1 h1 h2 ho ht (K H locs ls hR hS hl)
theorem q_tabOut (hX : qOk G X own cc nL ret d) {dflt lo hi : Int} {offs : Array Int} {len tgt : Nat} {x : Int32} (h : x.toInt < lo ∨ hi < x.toInt) (hd : qd cc pc (.tableswitch dflt lo hi offs) len pc') (ht : (pc : Int) + dflt = (tgt : Int)) (K : qV G X nc ns ks ρ σ tgt lv st) : qV G X nc ns ks ρ σ pc lv (.int x :: st) :=
  fun H locs ls hR hS hl => lv_tableOut hX.ex hX.cd hd.1 h ht (K H locs ls hR hS hl)
theorem q_lsw (hX : qOk G X own cc nL ret d) {dflt off : Int} {ps : Array (Int × Int)} {len tgt : Nat} {x : Int32} (hp : (ps.toList.zip (ps.toList.drop 1)).all (fun (a, next) => a.1 < next.1) = true) (ho : Op.lookupswitch.offset ps.toList dflt x.toInt = off) (hd : qd cc pc (.lookupswitch dflt ps) len pc') (ht : (pc : Int) + off = (tgt : Int)) (K : qV G X nc ns ks ρ σ tgt lv st) : qV G X nc ns ks ρ σ pc lv (.int x :: st) :=
  fun H locs ls hR hS hl => lv_lookup hX.ex hX.cd hd.1 hp ho ht (K H locs ls hR hS hl)
/-! calls -/
theorem q_run {ks' : List qKd} {ρ' : qRf} {σ' : qMem} {r : Option Value} {mc ms : Nat} {a0 : Array Value} {H : Heap} {locs : List Loc} {ls : Array Slot} {st0 : List Value} (hr : va_Run X.p X.l X.e X.R X.s X.m X.args X.below X.meth X.c H locs nc ns mc ms (F0 X.m pc ls st0) (st.map (qv G.2.2)) (qQc G ks' ρ' σ' r a0) (qA G)) (hS : va_S (qA G) X.s.heap H locs) (hl : qlh G.2.2 ls X.c.maxLocals lv)
    (K : qV G X (nc + mc) (ns + ms) ks' ρ' σ' (pc + 3) lv (r.toList ++ st)) : W X.p X.l X.e X.R X.s X.m X.args X.below X.meth X.c H locs nc ns X.Q (F0 X.m pc ls st0) := by
  intro T hT Xs
  obtain ⟨v, st₀, t, T', L, h0, X', hL, e1, e2, ⟨hv, hp, hz, hk⟩, stp⟩ := hr T hT Xs
  cases hv
  rw [h0] at hz hk
  rw [← e1] at hp hz hk
  obtain ⟨t2, a1, b1⟩ := K T'.heap (locs ++ L) ls hp ⟨Nat.le_trans hS.1 hz, fun q h1 h2 => by rw [hk q (Nat.lt_of_lt_of_le h1 hS.1) h2]; exact hS.2.1 q h1 h2, fun q hq => by
      rcases List.mem_append.mp hq with h | h
      · exact hS.2.2 q h
      · exact hL q h⟩ hl T' rfl X'
  refine ⟨t2, stp t2 ?_, b1⟩
  have e : (Option.map (qv G.2.2) r).toList ++ st.map (qv G.2.2) = (r.toList ++ st).map (qv G.2.2) := by cases r <;> simp
  rw [e]
  exact a1
/-- the words of a call -/
def qVw (own : String) (i : Nat) (C : String) (y : MethodName) (bytes : ByteArray) (maxL : Nat) (rt : Option FieldType) (n : Nat) : Prop :=
  (Cond.methodLink own i y ∈ qAW ∧ Cond.instanceMethod y ∈ qAW ∧ Cond.selects C y y ∈ qAW ∧ Cond.initialized C ∈ qAW ∧ Cond.code y bytes maxL rt ∈ qAW) ∧ y.cls = C ∧ (y.cls ≠ "java/lang/invoke/MethodHandle" ∧ y.cls ≠ "java/lang/invoke/VarHandle" ∧ (parseMethodDescriptor y.desc).map (fun d => d.parameters.length) = some n) ∧ maxL ≤ 81
def qSw (own : String) (i : Nat) (y : MethodName) (bytes : ByteArray) (maxL : Nat) (rt : Option FieldType) (n : Nat) : Prop :=
  (Cond.methodLink own i y ∈ qAW ∧ Cond.static y ∈ qAW ∧ Cond.initialized y.cls ∈ qAW ∧ Cond.code y bytes maxL rt ∈ qAW) ∧ (y.cls ≠ "java/lang/invoke/MethodHandle" ∧ y.cls ≠ "java/lang/invoke/VarHandle" ∧ (parseMethodDescriptor y.desc).map (fun d => d.parameters.length) = some n) ∧ maxL ≤ 81
def qSNw (own : String) (i : Nat) (y : MethodName) (host : String) (bytes : ByteArray) (maxL : Nat) (rt : Option FieldType) (n : Nat) : Prop :=
  (Cond.methodLinkNest own i y host ∈ qNW ∧ Cond.static y ∈ qAW ∧ Cond.initialized y.cls ∈ qAW ∧ Cond.code y bytes maxL rt ∈ qAW) ∧ (y.cls ≠ "java/lang/invoke/MethodHandle" ∧ y.cls ≠ "java/lang/invoke/VarHandle" ∧ (parseMethodDescriptor y.desc).map (fun d => d.parameters.length) = some n) ∧ maxL ≤ 81
def qIw (own : String) (i : Nat) (y : MethodName) (bytes : ByteArray) (maxL : Nat) (n : Nat) : Prop :=
  (Cond.methodLink own i y ∈ qAW ∧ Cond.instanceMethod y ∈ qAW ∧ Cond.initialized y.cls ∈ qAW ∧ Cond.code y bytes maxL none ∈ qAW) ∧ (y.cls ≠ "java/lang/invoke/MethodHandle" ∧ y.cls ≠ "java/lang/invoke/VarHandle" ∧ (parseMethodDescriptor y.desc).map (fun d => d.parameters.length) = some n) ∧ maxL ≤ 81 ∧ y.name = "<init>"
def qINw (own : String) (i : Nat) (y : MethodName) (host : String) (bytes : ByteArray) (maxL : Nat) (n : Nat) : Prop :=
  (Cond.methodLinkNest own i y host ∈ qNW ∧ Cond.instanceMethod y ∈ qAW ∧ Cond.initialized y.cls ∈ qAW ∧ Cond.code y bytes maxL none ∈ qAW) ∧ (y.cls ≠ "java/lang/invoke/MethodHandle" ∧ y.cls ≠ "java/lang/invoke/VarHandle" ∧ (parseMethodDescriptor y.desc).map (fun d => d.parameters.length) = some n) ∧ maxL ≤ 81 ∧ y.name = "<init>"
theorem qGood {y : MethodName} {bytes : ByteArray} {maxL : Nat} {rt : Option FieldType} (h : Cond.code y bytes maxL rt ∈ qAW) : GoodIn qAW (Cond.code y bytes maxL rt :: qAW) := fun w hw => by
  rcases List.mem_cons.mp hw with rfl | hw
  · exact ⟨h, qAW_good h⟩
  · exact ⟨hw, qAW_good hw⟩
theorem qcat (ad : Nat → Nat) (st : List Value) : ((st.map (qv ad)).map fun v => v.category).sum = (st.map fun v => v.category).sum := by
  rw [List.map_map]
  congr 1
  exact List.map_congr_left (fun v _ => qv_cat ad v)
theorem qmaprev (ad : Nat → Nat) (As st : List Value) : (As.reverse ++ st).map (qv ad) = (As.map (qv ad)).reverse ++ st.map (qv ad) := by simp
theorem q_callV (hX : qOk G X own cc nL ret d) {i n c nf maxL d' b : Nat} {C : String} {T : u_T} {y : MethodName} {bytes : ByteArray} {rt : Option FieldType} {As : List Value} {r : Option Value} {ks' : List qKd} {ρ' : qRf} {σ' : qMem} {mc ms : Nat} {stk : List Value}
    (hC : qCt X.l y bytes maxL rt d' G ks ρ σ (.ref b :: As) r ks' ρ' σ' mc ms) (hw : qVw own i C y bytes maxL rt n) (hn : As.length = n) (hb : ks[b]? = some (c, nf)) (hc : qCl[c]? = some (C, T, nf)) (hdd : d' + 1 ≤ d) (hstk : stk = As.reverse ++ .ref b :: st) (hcat : (st.map fun v => v.category).sum ≤ 8) (hce : nc + mc ≤ X.R.cells ∧ ns + ms ≤ X.R.slots)
    (hd : qd cc pc (.invokevirtual i) 3 pc') (K : qV G X (nc + mc) (ns + ms) ks' ρ' σ' pc' lv (r.toList ++ st)) : qV G X nc ns ks ρ σ pc lv stk := by
  obtain ⟨hd, rfl⟩ := hd
  subst hstk
  obtain ⟨⟨w1, w2, w3, w4, w5⟩, hyC, hdd2, hmL⟩ := hw
  intro H locs ls hR hS hl
  have hfr := hX.fr
  have hlo := hX.lo
  rw [qmaprev]
  refine q_run (va_runV (As := As.map (qv G.2.2)) (rest := st.map (qv G.2.2)) (n := n) ⟨hX.ex, hX.cd, hX.ml, hX.ow, hX.ts⟩ hC (cwV (C := C) n hX.ts (fun w hw => ?_) rfl rfl rfl ⟨hyC, hdd2⟩ ⟨by show d' + 1 ≤ _; omega, by show 8 + (maxL + 11) + 100 * d' ≤ _; omega⟩) ⟨qBlind, va_recv hX.kn.1 hR.1 (ci := c) (q0 := b) hc ((qwd_get hb).trans (by rw [qent_o (qc13 hc)])), fun U hU hW => ⟨rfl, hX.kn.move hW (by rw [hU]; exact hS), by rw [hU]; exact hR⟩⟩ rfl (by simp [hn]) (by rw [← hX.ml]; exact hl.1) rfl (lv_room (by rw [qcat]; exact hcat)) hd hce) hS hl K
  unfold wsV at hw
  rcases List.mem_append.mp hw with hw | hw
  · have hm : w ∈ qAW := by
      simp only [List.mem_cons, List.not_mem_nil, or_false] at hw
      rcases hw with rfl | rfl | rfl | rfl
      · exact w1
      · exact w2
      · exact w3
      · exact w4
    exact ⟨hm, qAW_good hm⟩
  · exact qGood w5 w hw
theorem q_callS (hX : qOk G X own cc nL ret d) {i n maxL d' : Nat} {y : MethodName} {bytes : ByteArray} {rt : Option FieldType} {As : List Value} {r : Option Value} {ks' : List qKd} {ρ' : qRf} {σ' : qMem} {mc ms : Nat} {stk : List Value}
    (hC : qCt X.l y bytes maxL rt d' G ks ρ σ As r ks' ρ' σ' mc ms) (hw : qSw own i y bytes maxL rt n) (hn : As.length = n) (hdd : d' + 1 ≤ d) (hstk : stk = As.reverse ++ st) (hcat : (st.map fun v => v.category).sum ≤ 8) (hce : nc + mc ≤ X.R.cells ∧ ns + ms ≤ X.R.slots)
    (hd : qd cc pc (.invokestatic i) 3 pc') (K : qV G X (nc + mc) (ns + ms) ks' ρ' σ' pc' lv (r.toList ++ st)) : qV G X nc ns ks ρ σ pc lv stk := by
  obtain ⟨hd, rfl⟩ := hd
  subst hstk
  obtain ⟨⟨w1, w2, w3, w4⟩, hdd2, hmL⟩ := hw
  intro H locs ls hR hS hl
  have hfr := hX.fr
  have hlo := hX.lo
  rw [qmaprev]
  refine q_run (va_runS (As := As.map (qv G.2.2)) (rest := st.map (qv G.2.2)) (n := n) ⟨hX.ex, hX.cd, hX.ml, hX.ow, hX.ts⟩ hC (va_cwS n hX.ts (fun w hw => ?_) rfl rfl rfl hdd2 ⟨by show d' + 1 ≤ _; omega, by show 8 + (maxL + 11) + 100 * d' ≤ _; omega⟩) ⟨qBlind, fun U hU hW => ⟨rfl, hX.kn.move hW (by rw [hU]; exact hS), by rw [hU]; exact hR⟩⟩ rfl (by simp [hn]) (by rw [← hX.ml]; exact hl.1) rfl (lv_room (by rw [qcat]; exact hcat)) hd hce) hS hl K
  unfold va_wsS at hw
  rcases List.mem_append.mp hw with hw | hw
  · have hm : w ∈ qAW := by
      simp only [List.mem_cons, List.not_mem_nil, or_false] at hw
      rcases hw with rfl | rfl | rfl
      · exact w1
      · exact w2
      · exact w3
    exact ⟨hm, qAW_good hm⟩
  · exact qGood w4 w hw
theorem q_callSN (hX : qOk G X own cc nL ret d) {i n maxL d' : Nat} {host : String} {y : MethodName} {bytes : ByteArray} {rt : Option FieldType} {As : List Value} {r : Option Value} {ks' : List qKd} {ρ' : qRf} {σ' : qMem} {mc ms : Nat} {stk : List Value}
    (hC : qCt X.l y bytes maxL rt d' G ks ρ σ As r ks' ρ' σ' mc ms) (hw : qSNw own i y host bytes maxL rt n) (hn : As.length = n) (hdd : d' + 1 ≤ d) (hstk : stk = As.reverse ++ st) (hcat : (st.map fun v => v.category).sum ≤ 8) (hce : nc + mc ≤ X.R.cells ∧ ns + ms ≤ X.R.slots)
    (hd : qd cc pc (.invokestatic i) 3 pc') (K : qV G X (nc + mc) (ns + ms) ks' ρ' σ' pc' lv (r.toList ++ st)) : qV G X nc ns ks ρ σ pc lv stk := by
  obtain ⟨hd, rfl⟩ := hd
  subst hstk
  obtain ⟨⟨w1, w2, w3, w4⟩, hdd2, hmL⟩ := hw
  intro H locs ls hR hS hl
  have hfr := hX.fr
  have hlo := hX.lo
  rw [qmaprev]
  exact q_run (va_runSN (As := As.map (qv G.2.2)) (rest := st.map (qv G.2.2)) (n := n) ⟨hX.ex, hX.cd, hX.ml, hX.ow, hX.ts⟩ hC ⟨va_cnB n hX.ts (qGood w4) rfl rfl rfl (hX.kn.2.1 _ w1) (hX.ts _ w3) hdd2 ⟨by show d' + 1 ≤ _; omega, by show 8 + (maxL + 11) + 100 * d' ≤ _; omega⟩, hX.ts _ w2, trivial⟩ ⟨qBlind, fun U hU hW => ⟨rfl, hX.kn.move hW (by rw [hU]; exact hS), by rw [hU]; exact hR⟩⟩ rfl (by simp [hn]) (by rw [← hX.ml]; exact hl.1) rfl (lv_room (by rw [qcat]; exact hcat)) hd hce) hS hl K
theorem q_callI (hX : qOk G X own cc nL ret d) {i n maxL d' b : Nat} {y : MethodName} {bytes : ByteArray} {As : List Value} {r : Option Value} {ks' : List qKd} {ρ' : qRf} {σ' : qMem} {mc ms : Nat} {stk : List Value}
    (hC : qCt X.l y bytes maxL none d' G ks ρ σ (.ref b :: As) r ks' ρ' σ' mc ms) (hw : qIw own i y bytes maxL n) (hn : As.length = n) (hdd : d' + 1 ≤ d) (hstk : stk = As.reverse ++ .ref b :: st) (hcat : (st.map fun v => v.category).sum ≤ 8) (hce : nc + mc ≤ X.R.cells ∧ ns + ms ≤ X.R.slots)
    (hd : qd cc pc (.invokespecial i) 3 pc') (K : qV G X (nc + mc) (ns + ms) ks' ρ' σ' pc' lv (r.toList ++ st)) : qV G X nc ns ks ρ σ pc lv stk := by
  obtain ⟨hd, rfl⟩ := hd
  subst hstk
  obtain ⟨⟨w1, w2, w3, w4⟩, hdd2, hmL, hyn⟩ := hw
  intro H locs ls hR hS hl
  have hfr := hX.fr
  have hlo := hX.lo
  rw [qmaprev]
  exact q_run (va_runI (As := As.map (qv G.2.2)) (rest := st.map (qv G.2.2)) (n := n) ⟨hX.ex, hX.cd, hX.ml, hX.ow, hX.ts⟩ hC (cwI n hX.ts (qGood w4) rfl rfl rfl (hX.ts _ w3) (hX.ts _ w1) (hX.ts _ w2) hyn hdd2 ⟨by show d' + 1 ≤ _; omega, by show 8 + (maxL + 11) + 100 * d' ≤ _; omega⟩) ⟨qBlind, fun U hU hW => ⟨rfl, hX.kn.move hW (by rw [hU]; exact hS), by rw [hU]; exact hR⟩⟩ rfl (by simp [hn]) (by rw [← hX.ml]; exact hl.1) rfl (lv_room (by rw [qcat]; exact hcat)) hd hce) hS hl K
theorem q_callIN (hX : qOk G X own cc nL ret d) {i n maxL d' b : Nat} {host : String} {y : MethodName} {bytes : ByteArray} {As : List Value} {r : Option Value} {ks' : List qKd} {ρ' : qRf} {σ' : qMem} {mc ms : Nat} {stk : List Value}
    (hC : qCt X.l y bytes maxL none d' G ks ρ σ (.ref b :: As) r ks' ρ' σ' mc ms) (hw : qINw own i y host bytes maxL n) (hn : As.length = n) (hdd : d' + 1 ≤ d) (hstk : stk = As.reverse ++ .ref b :: st) (hcat : (st.map fun v => v.category).sum ≤ 8) (hce : nc + mc ≤ X.R.cells ∧ ns + ms ≤ X.R.slots)
    (hd : qd cc pc (.invokespecial i) 3 pc') (K : qV G X (nc + mc) (ns + ms) ks' ρ' σ' pc' lv (r.toList ++ st)) : qV G X nc ns ks ρ σ pc lv stk := by
  obtain ⟨hd, rfl⟩ := hd
  subst hstk
  obtain ⟨⟨w1, w2, w3, w4⟩, hdd2, hmL, hyn⟩ := hw
  intro H locs ls hR hS hl
  have hfr := hX.fr
  have hlo := hX.lo
  rw [qmaprev]
  exact q_run (va_runIN (As := As.map (qv G.2.2)) (rest := st.map (qv G.2.2)) (n := n) ⟨hX.ex, hX.cd, hX.ml, hX.ow, hX.ts⟩ hC ⟨va_cnB n hX.ts (qGood w4) rfl rfl rfl (hX.kn.2.1 _ w1) (hX.ts _ w3) hdd2 ⟨by show d' + 1 ≤ _; omega, by show 8 + (maxL + 11) + 100 * d' ≤ _; omega⟩, hyn, hX.ts _ w2⟩ ⟨qBlind, fun U hU hW => ⟨rfl, hX.kn.move hW (by rw [hU]; exact hS), by rw [hU]; exact hR⟩⟩ rfl (by simp [hn]) (by rw [← hX.ml]; exact hl.1) rfl (lv_room (by rw [qcat]; exact hcat)) hd hce) hS hl K
end QRET
