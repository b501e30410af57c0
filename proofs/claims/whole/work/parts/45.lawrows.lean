/-! the law's rows -/
def R_law : String := "ChantryRollsLaw"
def qSc (G : qG) (X : qX) (L : Nat) (xs : Nat → Int32) : Prop := va_X (G.2.2 1048950) L xs X.s X.s.heap ∧ G.2.2 1048950 < X.s.heap.size ∧ ¬ qA G (G.2.2 1048950)
section QLAW
variable {G : qG} {X : qX} {own : String} {cc : ByteArray} {nL : Nat} {ret : Option FieldType} {d nc ns : Nat} {ks : List qKd} {ρ : qRf} {σ : qMem} {pc pc' : Nat} {lv lv' : qLv} {st : List Value}
theorem q_slenX (hX : qOk G X own cc nL ret d) {L : Nat} {xs : Nat → Int32} (hsc : qSc G X L xs) (hd : qd cc pc (.arraylength) 1 pc') (K : qV G X nc ns ks ρ σ pc' lv (.int (Int32.ofNat L) :: st)) : qV G X nc ns ks ρ σ pc lv (.ref 1048950 :: st) := by
  obtain ⟨hd, rfl⟩ := hd
  exact fun H locs ls hR hS hl => va_slen hX.ex hX.cd hsc.1 hsc.2.1 hsc.2.2 hS hd (K H locs ls hR hS hl)
theorem q_sldX (hX : qOk G X own cc nL ret d) {L : Nat} {xs : Nat → Int32} (hsc : qSc G X L xs) {i : Int32} (hd : qd cc pc (.iaload) 1 pc') {α : Type} {a : Option α} {q : α} (h : (if qin i L = true then a else none) = some q) (K : qin i L = true → a = some q → qV G X nc ns ks ρ σ pc' lv (.int (xs (qi i)) :: st)) : qV G X nc ns ks ρ σ pc lv (.int i :: .ref 1048950 :: st) := by
  obtain ⟨hd, rfl⟩ := hd
  obtain ⟨hin, h⟩ := qg_pos h
  exact fun H locs ls hR hS hl => va_sld hX.ex hX.cd hsc.1 hsc.2.1 hsc.2.2 hS (qin_vp hin) hd (K hin h H locs ls hR hS hl)
end QLAW
def lw_P (b : Addr) (xs : List Int32) (args : Array Value) (s : State) : Prop := args = #[.ref b] ∧ s.IntsAt b xs ∧ xs.length ≤ 3072 ∧ (Jvm.Cond.and given_1 narrow_1).before args s = true
def lw_Q (_ : Array Value) (s : State) (o : Outcome) (t : State) : Prop := o = .returned (some (.int 1)) ∧ Framed s o t [] 600000 7302250
def lw_Z (below : List Frame) (a : Array Value) (s : State) : State → Prop := fun t => ∃ o, t.status = .running ∧ Ended t below o ∧ lw_Q a s o t
theorem lw_ret {p : Program} {l : Launch} {e : Env} {s : State} {m : MethodId} {below : List Frame} {meth : Method} {c : Code} {b : Nat} (hx : p.tables.exec = Jvm.exec) (hb : c.code = code) (hr : meth.sig.returnType = ret) (hlocks : meth.locks = false) {pc : Nat} {H : Heap} {ls : Array Slot} (hdg : decode code pc = .ok (.ireturn, 1)) : W p l e room_1 s m #[Value.ref b] below meth c H [] 600000 7302250 (lw_Z below #[Value.ref b] s) (F0 m pc ls [.int 1]) := by
  intro T hT X
  obtain ⟨fs, hret, hrun, hended, hW, hframe⟩ := X.leave (v := some (.int 1)) (hlocks := hlocks) (fun h => by rw [hr] at h; cases h)
  have hmeth' : T.vm.method? m = some meth := X.method'
  refine ⟨T.setFrames fs, ?_, .returned (some (.int 1)), hrun, hended, rfl, ⟨_, rfl⟩, hW, hframe⟩
  jvm_step X.here [X.here.top, hx, hb, hdg, hmeth', hr, ret, narrow_b1]
  (try refine ⟨rfl, ?_⟩); (try refine ⟨rfl, ?_⟩)
  first | (intro acts; rw [hret _ acts rfl rfl rfl]) | rw [hret _ _ rfl rfl rfl]
  exact Steps.refl _
def qLT (G : qG) (X : qX) (u : Int32) : Prop := u = 1 ∧ X.R = room_1 ∧ G.2.2 0 = X.s.heap.size ∧ ∃ b : Nat, X.args = #[Value.ref b] ∧ X.Q = lw_Z X.below #[Value.ref b] X.s
section QLAW2
variable {G : qG} {X : qX} {d : Nat} {ks : List qKd} {ρ : qRf} {σ : qMem} {pc pc' : Nat} {lv lv' : qLv} {st : List Value}
theorem q_lawret (hX : qOk G X "ChantryRollsLaw" code 4 ret d) {v u : Int32} (hT : qLT G X u) (h : some v = some u) (hd : qd code pc .ireturn 1 pc') : qV G X 147 4386 ks ρ σ pc lv [.int v] := by
  obtain ⟨rfl, hR1, hsz, b, ha, hQ⟩ := hT
  cases h
  intro H locs ls hR hS hl
  have h0 := lw_ret (p := X.p) (l := X.l) (e := X.e) (s := X.s) (m := X.m) (below := X.below) (meth := X.meth) (c := X.c) (b := b) (H := H) (ls := ls) hX.ex hX.cd hX.rt hX.lk hd.1
  rw [← hQ, ← hR1, ← ha] at h0
  exact va_forget (fun q hq => by rw [← hsz]; exact hS.2.2 q hq) (W.widen (by decide) (by decide) h0)
theorem q_lVr {own : String} {cc : ByteArray} {nL : Nat} {ret : Option FieldType} (hX : qOk G X own cc nL ret d) {i n c nf maxL d' b : Nat} {C : String} {T : u_T} {y : MethodName} {bytes : ByteArray} {rt : Option FieldType} {As : List Value} {v : Value} {σ' : qMem} {stk : List Value} (hC : qCt X.l y bytes maxL rt d' G ks ρ σ (.ref b :: As) (some v) ks ρ σ' 0 0) (hw : qVw own i C y bytes maxL rt n) (hn : As.length = n) (hb : ks[b]? = some (c, nf)) (hc : qCl[c]? = some (C, T, nf)) (hdd : d' + 1 ≤ d) (hstk : stk = As.reverse ++ .ref b :: st) (hcat : (st.map fun v => v.category).sum ≤ 8) (hd : qd cc pc (.invokevirtual i) 3 pc') (hce : X.R = room_1) (K : qV G X 147 4386 ks ρ σ' pc' lv (v :: st)) : qV G X 147 4386 ks ρ σ pc lv stk := q_callV hX hC hw hn hb hc hdd hstk hcat (by rw [hce]; exact ⟨by decide, by decide⟩) hd K
end QLAW2
