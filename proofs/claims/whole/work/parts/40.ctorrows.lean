/-! rows of the making phase -/
theorem qprim : ∀ c, c < 13 → ∀ j, j < 65 → qisR c j = true ∨ qFt c j = .int := by decide +kernel
theorem qn65 {c : Nat} {C : String} {T : u_T} {n : Nat} (h : qCl[c]? = some (C, T, n)) : c < 13 ∧ n ≤ 65 := by
  have hc : c < 13 := (List.getElem?_eq_some_iff.mp h).1
  refine ⟨hc, ?_⟩
  match c, hc, h with
  | 0, _, h => cases h; decide
  | 1, _, h => cases h; decide
  | 2, _, h => cases h; decide
  | 3, _, h => cases h; decide
  | 4, _, h => cases h; decide
  | 5, _, h => cases h; decide
  | 6, _, h => cases h; decide
  | 7, _, h => cases h; decide
  | 8, _, h => cases h; decide
  | 9, _, h => cases h; decide
  | 10, _, h => cases h; decide
  | 11, _, h => cases h; decide
  | 12, _, h => cases h; decide
theorem qdef {c j : Nat} (hc : c < 13) (hj : j < 65) : defaultValue (qFt c j) = if qisR c j = true then .null else .int 0 := by
  rcases qprim c hc j hj with h | h
  · rw [if_pos h]
    unfold qisR at h
    cases hf : qFt c j with
    | array _ => rfl
    | object _ => rfl
    | _ => rw [hf] at h; cases h
  · have hr : qisR c j = false := by unfold qisR; rw [h]
    rw [h, hr]
    rfl
/-- one cell more -/
theorem qRp.push {G : qG} {ks ks' : List qKd} {ρ : qRf} {σ : qMem} {H H1 : Heap} {kd : qKd} (hR : qRp G ks ρ σ H) (hks : ks ++ [kd] = ks') (z : H1.size = H.size + 1) (o : ∀ q, q < H.size → H1[q]? = H[q]?) (he : va_at G.1 qCl (G.2.2 ks.length, qent G ρ σ ks.length kd) H1) : qRp G ks' ρ σ H1 := by
  subst hks
  refine ⟨fun k q hq => ?_, by rw [z, hR.2, List.length_append]; rfl⟩
  obtain ⟨kd', h1, rfl⟩ := qwd_inv hq
  by_cases hk : k < ks.length
  · rw [List.getElem?_append_left hk] at h1
    have h2 := hR.1 k _ (qwd_get h1)
    exact h2.kept (o _ h2.lt)
  · have hk2 : k = ks.length := by
      have := (List.getElem?_eq_some_iff.mp h1).1
      rw [List.length_append] at this
      simp at this
      omega
    subst hk2
    rw [List.getElem?_append_right (Nat.le_refl _), Nat.sub_self] at h1
    cases h1
    exact he
section QCTOR
variable {G : qG} {X : qX} {own : String} {cc : ByteArray} {nL : Nat} {ret : Option FieldType} {d nc ns : Nat} {ks ks' : List qKd} {ρ : qRf} {σ : qMem} {pc pc' : Nat} {lv lv' : qLv} {st : List Value}
theorem q_new (hX : qOk G X own cc nL ret d) {i c nf n : Nat} {C : String} {T : u_T} (hc : qCl[c]? = some (C, T, nf)) (w1 : Cond.classLink own i C ∈ qAW) (w2 : Cond.instantiable C nf ∈ qAW) (w3 : Cond.initialized C ∈ qAW) (hlen : ks.length = n) (hn : n < 1048576) (hρ : ∀ j, ρ n j = none) (hσ : ∀ j, σ n j = 0) (hks : ks ++ [(c, nf)] = ks') (hce : nc + 1 ≤ X.R.cells ∧ ns + nf ≤ X.R.slots) (hd : qd cc pc (.new i) 3 pc')
    (K : qV G X (nc + 1) (ns + nf) ks' ρ σ pc' lv (.ref n :: st)) : qV G X nc ns ks ρ σ pc lv st := by
  obtain ⟨hd, rfl⟩ := hd
  intro H locs ls hR hS hl
  have hKn := hX.kn.1.1 c _ hc
  have hh : H.size = G.2.2 n := by rw [hR.2, hX.ad n hn, hlen]
  refine W.newcK hX.ex hX.cd hX.ow (hX.ts _ w1) (hX.ts _ w2) (hX.ts _ w3) rfl hd hce.1 hce.2 hKn.2.1 hh fun H1 kC hkC e1 z1 o1 => ?_
  refine K H1 locs ls (hR.push hks (by rw [hh]; exact z1) (fun q hq => o1 q (by rw [← hh]; exact hq)) ?_) ⟨by rw [z1]; have := hS.1; omega, fun q h1 h2 => (o1 q (by have := hS.1; omega)).trans (hS.2.1 q h1 h2), hS.2.2⟩ hl
  rw [hlen, qent_o (qc13 hc)]
  obtain ⟨h13, h65⟩ := qn65 hc
  refine ⟨_, hc, (u_born (qFt c) hX.ts (qIn hc) hKn hkC e1 (qTy hc)).to (fun j hj => ?_)⟩
  have hj : j < nf := hj
  rw [qdef h13 (by omega)]
  simp [vp_V, hj, qfv, hρ, hσ, va_rf]
theorem q_newa (hX : qOk G X own cc nL ret d) {atype : ArrayType} {ty : FieldType} {tg N n t0 : Nat} {m : Int32} (hty : newarray.typeOf atype = ty) (ht : (qTys G)[t0]? = some (G.2.1 tg, ty)) (hp : (ty = .int ∧ tg = 100) ∨ (ty = .byte ∧ tg = 101) ∨ (ty = .boolean ∧ tg = 102)) (w1 : Cond.arrayClass ty ∈ qAW) (hm : ¬ m < 0) (hN : m.toNatClampNeg = N) (hN2 : N ≤ 1000) (hlen : ks.length = n) (hn : n < 1048576) (hσ : ∀ j, σ n j = 0) (hks : ks ++ [(tg, N)] = ks') (hce : nc + 1 ≤ X.R.cells ∧ ns + N ≤ X.R.slots) (hd : qd cc pc (.newarray atype) 2 pc')
    (K : qV G X (nc + 1) (ns + N) ks' ρ σ pc' lv (.ref n :: st)) : qV G X nc ns ks ρ σ pc lv (.int m :: st) := by
  obtain ⟨hd, rfl⟩ := hd
  subst hty
  intro H locs ls hR hS hl
  have hh : H.size = G.2.2 n := by rw [hR.2, hX.ad n hn, hlen]
  have hbytes : N * componentBytes (newarray.typeOf atype) ≤ 536870912 := by
    have : componentBytes (newarray.typeOf atype) ≤ 8 := by
      rcases hp with ⟨h, -⟩ | ⟨h, -⟩ | ⟨h, -⟩ <;> rw [h] <;> decide
    calc N * componentBytes (newarray.typeOf atype) ≤ 1000 * 8 := Nat.mul_le_mul hN2 this
      _ ≤ _ := by decide
  refine va_newaK hX.ex hX.cd (hX.ts _ w1) rfl hd rfl hm hN hbytes hce.1 hce.2 hh fun H1 cA e1 z1 o1 _ hNm => ?_
  have hcA : cA = G.2.1 tg := by
    have h2 := (hX.kn.1.2 t0 _ ht).2
    have h3 : X.s.vm.findClass ("[" ++ (newarray.typeOf atype).toString) = some (G.2.1 tg) := by
      rcases hp with ⟨h, -⟩ | ⟨h, -⟩ | ⟨h, -⟩ <;> rw [h] at h2 ⊢ <;> exact h2
    exact Option.some.inj (hNm.symm.trans h3)
  subst hcA
  refine K H1 locs ls (hR.push hks (by rw [hh]; exact z1) (fun q hq => o1 q (by rw [← hh]; exact hq)) ?_) ⟨by rw [z1]; have := hS.1; omega, fun q h1 h2 => (o1 q (by have := hS.1; omega)).trans (hS.2.1 q h1 h2), hS.2.2⟩ hl
  rw [hlen, qent_i (by rcases hp with ⟨-, h⟩ | ⟨-, h⟩ | ⟨-, h⟩ <;> omega) (by rcases hp with ⟨-, h⟩ | ⟨-, h⟩ | ⟨-, h⟩ <;> omega)]
  show H1[G.2.2 n]? = some (vp_cell _ _)
  rw [e1, vp_cell_i]
  congr 2
  funext j
  rw [hσ j]
  rcases hp with ⟨h, -⟩ | ⟨h, -⟩ | ⟨h, -⟩ <;> rw [h] <;> rfl
theorem q_putR (hX : qOk G X own cc nL ret d) (hin : X.meth.name = "<init>") {i c j n k t : Nat} {C : String} {T : u_T} (hc : qCl[c]? = some (C, T, n)) (hj : j < n) (hr : qisR c j = true) (hw : Cond.fieldLink own i (T j).1 (T j).2.1 (T j).2.2.1 ∈ qAW) (hfin : (T j).2.2.2 = true) (hdecl : (T j).1 = own) (hk : ks[k]? = some (c, n)) (hlen : ks.length ≤ 1048576) (hd : qd cc pc (.putfield i) 3 pc') (K : qV G X nc ns ks (qru ρ k j (some t)) σ pc' lv st) : qV G X nc ns ks ρ σ pc lv (.ref t :: .ref k :: st) := by
  obtain ⟨hd, rfl⟩ := hd
  intro H locs ls hR hS hl
  have he : (qwd G ks ρ σ)[k]? = some (G.2.2 k, .inr (c, (List.range n).map (qfv G.2.2 ρ σ c k))) := (qwd_get hk).trans (by rw [qent_o (qc13 hc)])
  have hap := va_apart (own := own) hX.ts (qIn hc) (qFt c) (qTy hc) (qNm hc) hX.kn.1 hc
  obtain ⟨r, h1, cell, q1, q2, q3, q4⟩ := hR.1 k _ he
  have hr2 : r = (C, T, n) := Option.some.inj (h1.symm.trans hc)
  subst hr2
  obtain ⟨hS2, hfc, kC, hkC, hkind⟩ := hX.kn.1.1 c _ hc
  obtain ⟨cf, kf, fi, f, hi, hsl⟩ := hS2 j hj
  have hlay := hX.ts _ (qIn hc _ (u_in_lay hj))
  unfold u_lay at hlay
  rw [if_pos hfin] at hlay
  have hst := (u_facts hfc hkC (u_lays hX.ts (qIn hc) hj) hi).1
  have hcf : X.m.cls = cf := by
    obtain ⟨_, _, c', _, _, _, -, -, hf', -, -, -, hown2, -⟩ := Cond.laysFinal_spec hlay
    have e1 : c' = cf := by have := hi.symm.trans hf'; simp at this; exact this.1.symm
    rw [hdecl] at hown2
    rw [← e1]; exact Option.some.inj (hX.ow.symm.trans hown2)
  have hnf : narrow (qFt c j) (.ref (G.2.2 t)) = .ref (G.2.2 t) ∧ fits (qFt c j) (.ref (G.2.2 t)) = true := by
    unfold qisR at hr
    cases hf : qFt c j with
    | array _ => exact ⟨rfl, rfl⟩
    | object _ => exact ⟨rfl, rfl⟩
    | _ => rw [hf] at hr; cases hr
  have h6 := u_fits hfc hkC hkind (Or.inr hlay) hi (qTy hc j hj) hnf.1 hnf.2
  refine W.putFinK hX.ex hX.cd hX.ow (hX.ts _ hw) hi hst hcf hin (by rw [q2]; exact h6) q1 q3 (by rw [hsl]; exact k2_hasslot (q4 j hj)) rfl rfl hd fun H' e1 e2 e3 => ?_
  rw [hsl] at e1 ⊢
  refine K H' _ ls (hR.put (ρ' := qru ρ k j (some t)) (σ' := σ) hX.ad hlen hk ?_ e2 e3 (fun k' kd' h => qent_ru h)) (hS.put e2 e3 (qA_at hX.ad hlen hk)) hl
  rw [qent_o (qc13 hc), qfv_ru hr]
  exact ⟨_, hc, t_OB.to (V := updV (vp_V _) j (.ref (G.2.2 t))) ⟨_, e1, q2, q3, t_set q4 hap hj (.ref (G.2.2 t))⟩ (fun j _ => vp_updV_set (by simp [hj]) (.ref (G.2.2 t)) j)⟩
theorem q_objInit (hX : qOk G X own cc nL ret d) {i k : Nat} (w1 : Cond.methodLink own i objectInit ∈ qAW) (w2 : Cond.instanceMethod objectInit ∈ qAW) (w3 : Cond.code objectInit ⟨#[0xb1]⟩ 1 none ∈ qAW) (hdd : 1 ≤ d) (hcat : (st.map fun v => v.category).sum ≤ 8) (hd : qd cc pc (.invokespecial i) 3 pc') (K : qV G X nc ns ks ρ σ pc' lv st) : qV G X nc ns ks ρ σ pc lv (.ref k :: st) := by
  obtain ⟨hd, rfl⟩ := hd
  have hfr := hX.fr
  have hlo := hX.lo
  intro H locs ls hR hS hl
  exact W.objInit hX.ex hX.cd hX.ow (hX.ts _ w1) (hX.ts _ w2) (hX.ts _ w3) rfl hl.1 rfl hd (by omega) (by show 2 * 0 + _ + _ ≤ _; rw [qcat]; omega) (K H locs ls hR hS hl)
theorem qouter (c : ClassId) (N h0 : Nat) : ∀ i : Nat, Jvm.Free.Multi.outerC c N h0 i = arrV c N (fun j => va_rf (if j < i then some (h0 + 1 + j) else none))
  | 0 => by
    show ({ cls := c, slots := Array.replicate N .null, vm := .none } : Cell) = _
    rw [arrV_new]
    refine congrArg (arrV c N) (funext fun j => ?_)
    simp [va_rf]
  | i + 1 => by
    show (Jvm.Free.Multi.outerC c N h0 i).setSlot i (.ref (h0 + 1 + i)) = _
    rw [qouter c N h0 i, arrV_store]
    refine congrArg (arrV c N) (funext fun j => ?_)
    by_cases e : j = i
    · subst e
      simp [updV, va_rf]
    · by_cases h : j < i
      · simp [updV, e, h, Nat.lt_succ_of_lt h]
      · simp [updV, e, h, show ¬ j < i + 1 by omega]
theorem qarrV_congr {c : ClassId} {N : Nat} {f g : Nat → Value} (h : ∀ j, j < N → f j = g j) : arrV c N f = arrV c N g := by
  unfold arrV
  congr 1
  apply Array.ext
  · simp
  · intro i h1 h2
    simp at h1 ⊢
    exact h i h1
theorem q_mna (hX : qOk G X own cc nL ret d) {i N M n : Nat} {a b : Int32} (w1 : Cond.classLink own i "[[I" ∈ qAW) (w2 : Cond.arrayClass .int ∈ qAW) (ha : ¬ a < 0) (hb : ¬ b < 0) (hN : a.toNatClampNeg = N) (hM : b.toNatClampNeg = M) (hN2 : N ≤ 1000) (hM2 : M ≤ 1000) (hlen : ks.length = n) (hn : n + 1 + N < 1048576) (hσ : ∀ k, n ≤ k → ∀ j, σ k j = 0) (hks : ks ++ (103, N) :: List.replicate N (100, M) = ks') (hce : nc + (1 + N) ≤ X.R.cells ∧ ns + (N + N * M) ≤ X.R.slots) (hd : qd cc pc (.multianewarray i 2) 4 pc')
    (K : qV G X (nc + 1 + N) (ns + N + N * M) ks' (fun x y => if x = n then some (n + 1 + y) else ρ x y) σ pc' lv (.ref n :: st)) : qV G X nc ns ks ρ σ pc lv (.int b :: .int a :: st) := by
  obtain ⟨hd, rfl⟩ := hd
  subst hN
  subst hM
  intro H locs ls hR hS hl
  have hh : H.size = G.2.2 n := by rw [hR.2, hX.ad n (by omega), hlen]
  intro T hT Xs
  have hover : (Cond.arrayOver (.array .int)).before X.args X.s = true := hX.kn.2.2.1
  obtain ⟨vm₁, cA, comp, -, fA, fC, -, -, X', step⟩ := Xs.multianewarray2F hX.ex hX.ow (ty := .int) (hX.ts _ w1) hover (hX.ts _ w2) (g := F0 X.m pc ls ((Value.int b :: .int a :: st).map (qv G.2.2))) rfl (by rw [hX.cd]; exact hd) rfl ha hb (by omega) (by show _ * 4 ≤ _; omega) (by omega) rfl rfl hce.1 hce.2
  have e1 : comp = G.2.1 100 := Option.some.inj (fC.symm.trans (hX.kn.1.2 0 _ rfl).2)
  have e2 : cA = G.2.1 103 := Option.some.inj (fA.symm.trans (hX.kn.1.2 3 _ rfl).2)
  subst e1
  subst e2
  generalize hF : Jvm.Free.Multi.fill (T.setVm vm₁) (G.2.1 103) (G.2.1 100) a.toNatClampNeg b.toNatClampNeg (defaultValue .int) a.toNatClampNeg = F at X' step
  have hTh : (T.setVm vm₁).heap = H := hT
  obtain ⟨f1, f2, -, -⟩ := Jvm.Free.Multi.fill_facts (T.setVm vm₁) (G.2.1 103) (G.2.1 100) a.toNatClampNeg b.toNatClampNeg (defaultValue .int) a.toNatClampNeg
  rw [hF, hTh] at f1 f2
  have hold : ∀ x : Nat, x < H.size → F.heap[x]? = H[x]? := fun x hx => by
    have := Jvm.Free.Multi.fill_old (T.setVm vm₁) (G.2.1 103) (G.2.1 100) a.toNatClampNeg b.toNatClampNeg (defaultValue .int) (a := x) (by rw [hTh]; exact hx) a.toNatClampNeg
    rw [hF, hTh] at this
    exact this
  have hrow : ∀ j : Nat, j < a.toNatClampNeg → F.heap[H.size + 1 + j]? = some (Jvm.Free.Multi.innerC (G.2.1 100) b.toNatClampNeg (defaultValue .int)) := fun j hj => by
    have := Jvm.Free.Multi.fill_inner (T.setVm vm₁) (G.2.1 103) (G.2.1 100) a.toNatClampNeg b.toNatClampNeg (defaultValue .int) a.toNatClampNeg j hj
    rw [hF, hTh] at this
    exact this
  have hRp : qRp G ks' (fun x y => if x = n then some (n + 1 + y) else ρ x y) σ F.heap := by
    subst hks
    refine ⟨fun k q hq => ?_, by rw [f1, hR.2]; simp; omega⟩
    obtain ⟨kd', h1, rfl⟩ := qwd_inv hq
    have hkl : k < n + 1 + a.toNatClampNeg := by
      have := (List.getElem?_eq_some_iff.mp h1).1
      simp at this
      omega
    by_cases hk : k < ks.length
    · rw [List.getElem?_append_left hk] at h1
      have h2 := hR.1 k _ (qwd_get h1)
      have e3 : qent G (fun x y => if x = n then some (n + 1 + y) else ρ x y) σ k kd' = qent G ρ σ k kd' := by
        have : ¬ k = n := by omega
        unfold qent qfv
        simp [this]
      rw [e3]
      exact h2.kept (hold _ h2.lt)
    · by_cases hk2 : k = n
      · subst hk2
        rw [List.getElem?_append_right (by omega), hlen, Nat.sub_self] at h1
        cases h1
        rw [qent_r]
        show F.heap[G.2.2 k]? = some (vp_cell _ _)
        rw [← hh, f2, qouter, vp_cell_q]
        refine congrArg some (qarrV_congr fun j hj => ?_)
        have ek := hX.ad k (by omega)
        have ekj := hX.ad (k + 1 + j) (by omega)
        have hj2 : j < a.toNatClampNeg := hj
        rw [if_pos hj2, if_pos rfl]
        have e5 : H.size + 1 + j = G.2.2 (k + 1 + j) := by rw [hh, ek, ekj]; omega
        show Value.ref (H.size + 1 + j) = Value.ref (G.2.2 (k + 1 + j))
        rw [e5]
      · obtain ⟨j, rfl⟩ : ∃ j, k = n + 1 + j := ⟨k - (n + 1), by omega⟩
        rw [List.getElem?_append_right (by omega), show n + 1 + j - ks.length = j + 1 by omega, List.getElem?_cons_succ] at h1
        have hr := List.eq_of_mem_replicate (List.mem_of_getElem? h1)
        subst hr
        rw [qent_i (by decide) (by decide)]
        show F.heap[G.2.2 (n + 1 + j)]? = some (vp_cell _ _)
        have ea : G.2.2 (n + 1 + j) = H.size + 1 + j := by rw [hX.ad (n + 1 + j) (by omega), hh, hX.ad n (by omega)]; omega
        rw [ea, hrow j (by omega), vp_cell_i]
        refine congrArg some ?_
        show ({ cls := _, slots := Array.replicate _ _, vm := .none } : Cell) = _
        rw [arrV_new]
        refine congrArg _ (funext fun z => ?_)
        rw [hσ (n + 1 + j) (by omega) z]
        rfl
  obtain ⟨t, a1, b1⟩ := K F.heap locs ls hRp ⟨by rw [f1]; have := hS.1; omega, fun q h1 h2 => (hold q (by have := hS.1; omega)).trans (hS.2.1 q h1 h2), hS.2.2⟩ hl F rfl X'
  refine ⟨t, step t ?_, b1⟩
  have e9 : T.heap.size = G.2.2 n := by rw [hT]; exact hh
  rw [e9]
  exact a1
end QCTOR
