/-! static arrays, arraycopy, String.length and charAt -/
def qcg (sp dp n : Int32) (na nb : Nat) : Bool := !(decide (sp < 0)) && (!(decide (dp < 0)) && (!(decide (n < 0)) && (decide (sp.toNatClampNeg + n.toNatClampNeg ≤ na) && decide (dp.toNatClampNeg + n.toNatClampNeg ≤ nb))))
section QPRIM
variable {G : qG} {X : qX} {own : String} {cc : ByteArray} {nL : Nat} {ret : Option FieldType} {d nc ns : Nat} {ks : List qKd} {ρ : qRf} {σ : qMem} {pc pc' : Nat} {lv lv' : qLv} {st : List Value}
theorem q_getsL (hX : qOk G X "ChantryRolls$Deeds" cc nL ret d) {i : Nat} (hw : Cond.fieldLink "ChantryRolls$Deeds" i "ChantryRolls$Deeds" "LEAST" "[I" ∈ qAW) (hd : qd cc pc (.getstatic i) 3 pc') (K : qV G X nc ns ks ρ σ pc' lv (.ref 1048776 :: st)) : qV G X nc ns ks ρ σ pc lv st := by
  obtain ⟨hd, rfl⟩ := hd
  obtain ⟨-, -, -, -, -, -, k4, k5, k6, k7, k8⟩ := hX.kn
  exact fun H locs ls hR hS hl => va_gets hX.ex hX.cd k4 hS hX.ow (hX.ts _ hw) (fun _ h => h) hd (K H locs ls hR hS hl)
theorem q_getsM (hX : qOk G X "ChantryRolls$Deeds" cc nL ret d) {i : Nat} (hw : Cond.fieldLink "ChantryRolls$Deeds" i "ChantryRolls$Deeds" "MOST" "[I" ∈ qAW) (hd : qd cc pc (.getstatic i) 3 pc') (K : qV G X nc ns ks ρ σ pc' lv (.ref 1048777 :: st)) : qV G X nc ns ks ρ σ pc lv st := by
  obtain ⟨hd, rfl⟩ := hd
  obtain ⟨-, -, -, -, -, -, k4, k5, k6, k7, k8⟩ := hX.kn
  exact fun H locs ls hR hS hl => va_gets hX.ex hX.cd k5 hS hX.ow (hX.ts _ hw) (fun _ h => h) hd (K H locs ls hR hS hl)
theorem q_taldL (hX : qOk G X own cc nL ret d) {i : Int32} (hd : qd cc pc (.iaload) 1 pc') {α : Type} {a : Option α} {q : α} (h : (if qin i 11 = true then a else none) = some q) (K : qin i 11 = true → a = some q → qV G X nc ns ks ρ σ pc' lv (.int (qLeast.getD (qi i) 0) :: st)) : qV G X nc ns ks ρ σ pc lv (.int i :: .ref 1048776 :: st) := by
  obtain ⟨hd, rfl⟩ := hd
  obtain ⟨hin, h⟩ := qg_pos h
  obtain ⟨-, -, -, -, -, -, k4, k5, k6, k7, k8⟩ := hX.kn
  exact fun H locs ls hR hS hl => va_ti hX.ex hX.cd k6 hS (qin_vp hin) rfl hd (K hin h H locs ls hR hS hl)
theorem q_taldM (hX : qOk G X own cc nL ret d) {i : Int32} (hd : qd cc pc (.iaload) 1 pc') {α : Type} {a : Option α} {q : α} (h : (if qin i 11 = true then a else none) = some q) (K : qin i 11 = true → a = some q → qV G X nc ns ks ρ σ pc' lv (.int (qMost.getD (qi i) 0) :: st)) : qV G X nc ns ks ρ σ pc lv (.int i :: .ref 1048777 :: st) := by
  obtain ⟨hd, rfl⟩ := hd
  obtain ⟨hin, h⟩ := qg_pos h
  obtain ⟨-, -, -, -, -, -, k4, k5, k6, k7, k8⟩ := hX.kn
  exact fun H locs ls hR hS hl => va_ti hX.ex hX.cd k7 hS (qin_vp hin) rfl hd (K hin h H locs ls hR hS hl)
theorem qent_cp {G : qG} {ρ : qRf} {σ : qMem} {ka sp kb dp n : Nat} {k' : Nat} {kd : qKd} (h : k' ≠ kb) : qent G ρ (qcp σ ka sp kb dp n) k' kd = qent G ρ σ k' kd := by
  have e : qcp σ ka sp kb dp n k' = σ k' := by
    funext b
    simp [qcp, h]
  unfold qent qfv
  rw [e]
theorem qcp_self {σ : qMem} {ka sp kb dp n : Nat} : qcp σ ka sp kb dp n kb = va_cpy (σ ka) (σ kb) sp dp n := by
  funext b
  simp [qcp, va_cpy]
theorem q_copy (hX : qOk G X own cc nL ret d) {i ka kb na nb : Nat} {sp dp n : Int32} (hka : ks[ka]? = some (100, na)) (hkb : ks[kb]? = some (100, nb)) (hlen : ks.length ≤ 1048576) (w1 : Cond.methodLink own i arraycopyName ∈ qAW) (w2 : Cond.native arraycopyName ∈ qAW) (w3 : Cond.static arraycopyName ∈ qAW) (w4 : Cond.initialized "java/lang/System" ∈ qAW) (hdd : 1 ≤ d) (hcat : (st.map fun v => v.category).sum ≤ 8) (hd : qd cc pc (.invokestatic i) 3 pc')
    {α : Type} {a : Option α} {q : α} (h : (if qcg sp dp n na nb = true then a else none) = some q) (K : a = some q → qV G X nc ns ks ρ (qcp σ ka (qi sp) kb (qi dp) (qi n)) pc' lv st) : qV G X nc ns ks ρ σ pc lv (.int n :: .int dp :: .ref kb :: .int sp :: .ref ka :: st) := by
  obtain ⟨hd, rfl⟩ := hd
  obtain ⟨hg, h⟩ := qg_pos h
  unfold qcg at hg
  simp only [Bool.and_eq_true, Bool.not_eq_true', decide_eq_false_iff_not, decide_eq_true_eq] at hg
  obtain ⟨h1, h2, h3, h4, h5⟩ := hg
  have hfr := hX.fr
  have hlo := hX.lo
  intro H locs ls hR hS hl
  have nn : ∀ z : Int32, ¬ z < 0 → z.toInt = (z.toNatClampNeg : Int) := by
    intro z hz
    have hz0 : (0 : Int) ≤ z.toInt := by
      have := Int32.not_lt.mp hz
      simpa using Int32.le_iff_toInt_le.mp this
    show z.toInt = ((z.toInt.toNat : Nat) : Int)
    omega
  have hc0 : H[G.2.2 ka]? = some (vp_cell (G.2.1 100) (na, .inl (σ ka))) := by
    have h1 := hR.1 ka _ (qwd_get hka)
    rw [qent_i (by decide) (by decide)] at h1
    exact h1
  have hc1 : H[G.2.2 kb]? = some (vp_cell (G.2.1 100) (nb, .inl (σ kb))) := by
    have h1 := hR.1 kb _ (qwd_get hkb)
    rw [qent_i (by decide) (by decide)] at h1
    exact h1
  intro T hT Xs
  obtain ⟨-, k0, hk0, cm0, hkk0⟩ := (hX.kn.1.2 0 _ rfl).1 na (fun j => .int (σ ka j))
  obtain ⟨-, k1, hk1, cm1, hkk1⟩ := (hX.kn.1.2 0 _ rfl).1 nb (fun j => .int (σ kb j))
  obtain ⟨vm', X', step⟩ := Xs.arraycopy hX.ex hX.ow (hX.ts _ w1) (hX.ts _ w2) (hX.ts _ w3) (hX.ts _ w4) (src := G.2.2 ka) (dst := G.2.2 kb) (cs := vp_cell (G.2.1 100) (na, .inl (σ ka))) (cd := vp_cell (G.2.1 100) (nb, .inl (σ kb))) (srcPos := sp) (destPos := dp) (n := n) (by rw [hT]; exact hc0) (by rw [hT]; exact hc1)
    (fun _ h => by cases h) (fun _ h => by cases h) (fun h => by cases h) (fun h => by cases h) hk0 hk1 hkk0 hkk1 (by simp [refKind]) h1 h2 h3
    (by rw [nn sp h1, nn n h3]; show ¬ _ > ((arrV (G.2.1 100) na (fun j => .int (σ ka j))).slots.size : Int); rw [arrV_size]; omega)
    (by rw [nn dp h2, nn n h3]; show ¬ _ > ((arrV (G.2.1 100) nb (fun j => .int (σ kb j))).slots.size : Int); rw [arrV_size]; omega)
    (fun vm₁ _ i hi => by
      have e : (vp_cell (G.2.1 100) (na, .inl (σ ka))).slots.getD (sp.toNatClampNeg + i) .null = .int (σ ka (sp.toNatClampNeg + i)) := by
        show (arrV (G.2.1 100) na (fun j => .int (σ ka j))).slots.getD _ _ = _
        rw [Array.getD_eq_getD_getElem?, arrV_read _ _ (by omega)]
        rfl
      refine ⟨?_, ?_⟩
      · rw [e]
        rfl
      · rw [e]
        exact trivial)
    (g := F0 X.m pc ls ((Value.int n :: .int dp :: .ref kb :: .int sp :: .ref ka :: st).map (qv G.2.2))) rfl (by rw [← hl.1]) (rest := st.map (qv G.2.2)) rfl (by rw [hX.cd]; exact hd) (by omega) (by
      show 2 * 0 + _ + _ ≤ _
      rw [qcat]
      have e9 : nativeFrameWords "java/lang/System" "arraycopy" 5 + 11 ≤ 90 := by decide
      omega)
  have e1 : copied (vp_cell (G.2.1 100) (na, .inl (σ ka))) (vp_cell (G.2.1 100) (nb, .inl (σ kb))) sp dp n = vp_cell (G.2.1 100) (nb, .inl (va_cpy (σ ka) (σ kb) sp.toNatClampNeg dp.toNatClampNeg n.toNatClampNeg)) := va_copied (fun z => .int z) _ _ (σ ka) (σ kb) h4
  rw [e1] at X' step
  have hlt : G.2.2 kb < H.size := (Array.getElem?_eq_some_iff.mp hc1).1
  have hheap : ((T.setVm vm').setCell (G.2.2 kb) (vp_cell (G.2.1 100) (nb, .inl (va_cpy (σ ka) (σ kb) sp.toNatClampNeg dp.toNatClampNeg n.toNatClampNeg)))).heap = H.setIfInBounds (G.2.2 kb) (vp_cell (G.2.1 100) (nb, .inl (va_cpy (σ ka) (σ kb) sp.toNatClampNeg dp.toNatClampNeg n.toNatClampNeg))) := by rw [← hT]; rfl
  have oq : ∀ q : Nat, q ≠ G.2.2 kb → (H.setIfInBounds (G.2.2 kb) (vp_cell (G.2.1 100) (nb, .inl (va_cpy (σ ka) (σ kb) sp.toNatClampNeg dp.toNatClampNeg n.toNatClampNeg))))[q]? = H[q]? := fun q hq => by simp [Array.getElem?_setIfInBounds, Ne.symm hq]
  have hAk := qA_at hX.ad hlen hkb
  obtain ⟨t, a1, b1⟩ := K h _ _ ls (hR.put (σ' := qcp σ ka (qi sp) kb (qi dp) (qi n)) hX.ad hlen hkb (by
      rw [qent_i (by decide) (by decide), qcp_self]
      show (H.setIfInBounds (G.2.2 kb) _)[G.2.2 kb]? = some _
      simp [Array.getElem?_setIfInBounds, hlt]) (by simp) oq (fun k' kd' h => qent_cp h)) ⟨by simp; exact hS.1, fun q g1 g2 => by
      rw [oq q (fun e => g2 (by rw [e]; exact hAk))]
      exact hS.2.1 q g1 g2, fun q hq => by
      rcases List.mem_append.mp hq with h | h
      · exact hS.2.2 q h
      · obtain ⟨z, -, hz⟩ := List.mem_map.mp h
        rw [← hz]
        exact hAk⟩ hl _ hheap X'
  exact ⟨t, step t a1, b1⟩
end QPRIM
