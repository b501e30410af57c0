/-! rows of the running phase: nothing is made -/
theorem q00 {R : Room} : 0 + 0 ≤ R.cells ∧ 0 + 0 ≤ R.slots := ⟨Nat.zero_le _, Nat.zero_le _⟩
section QRUN
variable {G : qG} {X : qX} {own : String} {cc : ByteArray} {nL : Nat} {ret : Option FieldType} {d : Nat} {ks : List qKd} {ρ : qRf} {σ : qMem} {pc pc' : Nat} {lv lv' : qLv} {st : List Value}
theorem q_cVr (hX : qOk G X own cc nL ret d) {i n c nf maxL d' b : Nat} {C : String} {T : u_T} {y : MethodName} {bytes : ByteArray} {rt : Option FieldType} {As : List Value} {v : Value} {σ' : qMem} {stk : List Value} (hC : qCt X.l y bytes maxL rt d' G ks ρ σ (.ref b :: As) (some v) ks ρ σ' 0 0) (hw : qVw own i C y bytes maxL rt n) (hn : As.length = n) (hb : ks[b]? = some (c, nf)) (hc : qCl[c]? = some (C, T, nf)) (hdd : d' + 1 ≤ d) (hstk : stk = As.reverse ++ .ref b :: st) (hcat : (st.map fun v => v.category).sum ≤ 8) (hd : qd cc pc (.invokevirtual i) 3 pc') (K : qV G X 0 0 ks ρ σ' pc' lv (v :: st)) : qV G X 0 0 ks ρ σ pc lv stk := q_callV hX hC hw hn hb hc hdd hstk hcat q00 hd K
theorem q_cVv (hX : qOk G X own cc nL ret d) {i n c nf maxL d' b : Nat} {C : String} {T : u_T} {y : MethodName} {bytes : ByteArray} {rt : Option FieldType} {As : List Value} {σ' : qMem} {stk : List Value} (hC : qCt X.l y bytes maxL rt d' G ks ρ σ (.ref b :: As) none ks ρ σ' 0 0) (hw : qVw own i C y bytes maxL rt n) (hn : As.length = n) (hb : ks[b]? = some (c, nf)) (hc : qCl[c]? = some (C, T, nf)) (hdd : d' + 1 ≤ d) (hstk : stk = As.reverse ++ .ref b :: st) (hcat : (st.map fun v => v.category).sum ≤ 8) (hd : qd cc pc (.invokevirtual i) 3 pc') (K : qV G X 0 0 ks ρ σ' pc' lv (st)) : qV G X 0 0 ks ρ σ pc lv stk := q_callV hX hC hw hn hb hc hdd hstk hcat q00 hd K
theorem q_cSr (hX : qOk G X own cc nL ret d) {i n maxL d' : Nat} {y : MethodName} {bytes : ByteArray} {rt : Option FieldType} {As : List Value} {v : Value} {σ' : qMem} {stk : List Value} (hC : qCt X.l y bytes maxL rt d' G ks ρ σ As (some v) ks ρ σ' 0 0) (hw : qSw own i y bytes maxL rt n) (hn : As.length = n) (hdd : d' + 1 ≤ d) (hstk : stk = As.reverse ++ st) (hcat : (st.map fun v => v.category).sum ≤ 8) (hd : qd cc pc (.invokestatic i) 3 pc') (K : qV G X 0 0 ks ρ σ' pc' lv (v :: st)) : qV G X 0 0 ks ρ σ pc lv stk := q_callS hX hC hw hn hdd hstk hcat q00 hd K
theorem q_cSv (hX : qOk G X own cc nL ret d) {i n maxL d' : Nat} {y : MethodName} {bytes : ByteArray} {rt : Option FieldType} {As : List Value} {σ' : qMem} {stk : List Value} (hC : qCt X.l y bytes maxL rt d' G ks ρ σ As none ks ρ σ' 0 0) (hw : qSw own i y bytes maxL rt n) (hn : As.length = n) (hdd : d' + 1 ≤ d) (hstk : stk = As.reverse ++ st) (hcat : (st.map fun v => v.category).sum ≤ 8) (hd : qd cc pc (.invokestatic i) 3 pc') (K : qV G X 0 0 ks ρ σ' pc' lv (st)) : qV G X 0 0 ks ρ σ pc lv stk := q_callS hX hC hw hn hdd hstk hcat q00 hd K
theorem q_cSNr (hX : qOk G X own cc nL ret d) {i n maxL d' : Nat} {host : String} {y : MethodName} {bytes : ByteArray} {rt : Option FieldType} {As : List Value} {v : Value} {σ' : qMem} {stk : List Value} (hC : qCt X.l y bytes maxL rt d' G ks ρ σ As (some v) ks ρ σ' 0 0) (hw : qSNw own i y host bytes maxL rt n) (hn : As.length = n) (hdd : d' + 1 ≤ d) (hstk : stk = As.reverse ++ st) (hcat : (st.map fun v => v.category).sum ≤ 8) (hd : qd cc pc (.invokestatic i) 3 pc') (K : qV G X 0 0 ks ρ σ' pc' lv (v :: st)) : qV G X 0 0 ks ρ σ pc lv stk := q_callSN hX hC hw hn hdd hstk hcat q00 hd K
theorem q_cSNv (hX : qOk G X own cc nL ret d) {i n maxL d' : Nat} {host : String} {y : MethodName} {bytes : ByteArray} {rt : Option FieldType} {As : List Value} {σ' : qMem} {stk : List Value} (hC : qCt X.l y bytes maxL rt d' G ks ρ σ As none ks ρ σ' 0 0) (hw : qSNw own i y host bytes maxL rt n) (hn : As.length = n) (hdd : d' + 1 ≤ d) (hstk : stk = As.reverse ++ st) (hcat : (st.map fun v => v.category).sum ≤ 8) (hd : qd cc pc (.invokestatic i) 3 pc') (K : qV G X 0 0 ks ρ σ' pc' lv (st)) : qV G X 0 0 ks ρ σ pc lv stk := q_callSN hX hC hw hn hdd hstk hcat q00 hd K
theorem q_iretR (hX : qOk G X own cc nL (some .int) d) {v r : Int32} (h : some v = some r) (hT : qTg G X 0 0 ks ρ σ (some (.int r))) (hd : qd cc pc .ireturn 1 pc') : qV G X 0 0 ks ρ σ pc lv [.int v] := by
  cases h
  exact q_iret hX hT hd
theorem q_iretW (hX : qOk G X own cc nL (some .int) d) {v : Int32} {u : Int32 × qMem} (h : some (v, σ) = some u) (hT : qTg G X 0 0 ks ρ u.2 (some (.int u.1))) (hd : qd cc pc .ireturn 1 pc') : qV G X 0 0 ks ρ σ pc lv [.int v] := by
  cases h
  exact q_iret hX hT hd
theorem q_zretR (hX : qOk G X own cc nL (some .boolean) d) {v v' r : Int32} (hv : vp_nar .boolean v = v') (h : some v' = some r) (hT : qTg G X 0 0 ks ρ σ (some (.int r))) (hd : qd cc pc .ireturn 1 pc') : qV G X 0 0 ks ρ σ pc lv [.int v] := by
  cases h
  exact q_zret hX hv hT hd
theorem q_zretW (hX : qOk G X own cc nL (some .boolean) d) {v v' : Int32} {u : Int32 × qMem} (hv : vp_nar .boolean v = v') (h : some (v', σ) = some u) (hT : qTg G X 0 0 ks ρ u.2 (some (.int u.1))) (hd : qd cc pc .ireturn 1 pc') : qV G X 0 0 ks ρ σ pc lv [.int v] := by
  cases h
  exact q_zret hX hv hT hd
theorem q_lretR (hX : qOk G X own cc nL (some .long) d) {v r : Int64} (h : some v = some r) (hT : qTg G X 0 0 ks ρ σ (some (.long r))) (hd : qd cc pc .lreturn 1 pc') : qV G X 0 0 ks ρ σ pc lv [.long v] := by
  cases h
  exact q_lret hX hT hd
theorem q_aretR {C : String} (hX : qOk G X own cc nL (some (.object C)) d) {v r : Nat} (h : some v = some r) (hT : qTg G X 0 0 ks ρ σ (some (.ref (1048576 + r)))) (hd : qd cc pc .areturn 1 pc') : qV G X 0 0 ks ρ σ pc lv [.ref (1048576 + v)] := by
  cases h
  exact q_aret hX hT hd
theorem q_vretW (hX : qOk G X own cc nL none d) {u : qMem} (h : some σ = some u) (hT : qTg G X 0 0 ks ρ u none) (hd : qd cc pc .return_ 1 pc') : qV G X 0 0 ks ρ σ pc lv [] := by
  cases h
  exact q_vret hX hT hd
theorem q_ldcS (hX : qOk G X "ChantryRolls$Deeds" cc nL ret d) {i w : Nat} (hw : w < 12) (hi : qSi.getD w 0 = i) (hd : qd cc pc (.ldc i) 2 pc') {nc ns : Nat} (K : qV G X nc ns ks ρ σ pc' lv (.ref (1048576 + w) :: st)) : qV G X nc ns ks ρ σ pc lv st := by
  obtain ⟨hd, rfl⟩ := hd
  subst hi
  exact fun H locs ls hR hS hl => va_ldcS hX.ex hX.cd hX.ow (hX.kn.2.2.2.1 w hw) hd (K H locs ls hR hS hl)
theorem q_ne32 {x v : Int32} (h : ¬ x = v) : x.toInt ≠ v.toInt := fun e => h (Int32.toInt_inj.mp e)
theorem q_dec0 {α : Type} {c : Prop} [Decidable c] {a b : Option α} {q : α} (h : (if c then a else b) = some q) (hc : c) : a = some q := by rw [if_pos hc] at h; exact h
theorem q_dec1 {α : Type} {c : Prop} [Decidable c] {a b : Option α} {q : α} (h : (if c then a else b) = some q) (hc : ¬ c) : b = some q := by rw [if_neg hc] at h; exact h
end QRUN
