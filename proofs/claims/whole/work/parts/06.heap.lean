/-! rows of the heap -/
theorem qIn {c : Nat} {q : vw_C} (h : qCl[c]? = some q) : ∀ w ∈ u_ws q.1 q.2.1 q.2.2, w ∈ qAW := by
  have hc : c < 13 := (List.getElem?_eq_some_iff.mp h).1
  match c, hc, h with
  | 0, _, h => cases h; exact qIn0
  | 1, _, h => cases h; exact qIn1
  | 2, _, h => cases h; exact qIn2
  | 3, _, h => cases h; exact qIn3
  | 4, _, h => cases h; exact qIn4
  | 5, _, h => cases h; exact qIn5
  | 6, _, h => cases h; exact qIn6
  | 7, _, h => cases h; exact qIn7
  | 8, _, h => cases h; exact qIn8
  | 9, _, h => cases h; exact qIn9
  | 10, _, h => cases h; exact qIn10
  | 11, _, h => cases h; exact qIn11
  | 12, _, h => cases h; exact qIn12
theorem qTy {c : Nat} {C : String} {T : u_T} {n : Nat} (h : qCl[c]? = some (C, T, n)) : ∀ k, k < n → parseFieldDescriptor (T k).2.2.1 = some (qFt c k) := by
  have hc : c < 13 := (List.getElem?_eq_some_iff.mp h).1
  match c, hc, h with
  | 0, _, h => cases h; exact qY0_ok
  | 1, _, h => cases h; exact qY1_ok
  | 2, _, h => cases h; exact qY2_ok
  | 3, _, h => cases h; exact qY3_ok
  | 4, _, h => cases h; exact qY4_ok
  | 5, _, h => cases h; exact qY5_ok
  | 6, _, h => cases h; exact qY6_ok
  | 7, _, h => cases h; exact qY7_ok
  | 8, _, h => cases h; exact qY8_ok
  | 9, _, h => cases h; exact qY9_ok
  | 10, _, h => cases h; exact qY10_ok
  | 11, _, h => cases h; exact qY11_ok
  | 12, _, h => cases h; exact qY12_ok
theorem qNm {c : Nat} {C : String} {T : u_T} {n : Nat} (h : qCl[c]? = some (C, T, n)) : ∀ a, a < n → ∀ b, b < n → a ≠ b → (T a).2.1 ≠ (T b).2.1 := by
  have hc : c < 13 := (List.getElem?_eq_some_iff.mp h).1
  match c, hc, h with
  | 0, _, h => cases h; exact qN0_ok
  | 1, _, h => cases h; exact qN1_ok
  | 2, _, h => cases h; exact qN2_ok
  | 3, _, h => cases h; exact qN3_ok
  | 4, _, h => cases h; exact qN4_ok
  | 5, _, h => cases h; exact qN5_ok
  | 6, _, h => cases h; exact qN6_ok
  | 7, _, h => cases h; exact qN7_ok
  | 8, _, h => cases h; exact qN8_ok
  | 9, _, h => cases h; exact qN9_ok
  | 10, _, h => cases h; exact qN10_ok
  | 11, _, h => cases h; exact qN11_ok
  | 12, _, h => cases h; exact qN12_ok
theorem qc13 {c : Nat} {q : vw_C} (h : qCl[c]? = some q) : c < 100 := by
  have hc : c < 13 := (List.getElem?_eq_some_iff.mp h).1
  omega
/-- a field link: the pool's index i in own is field j of the objects of number c, of n fields; whether it is a reference, whether it is final -/
def qFl (own : String) (i c j n : Nat) (r fin : Bool) : Prop := ∃ (C : String) (T : u_T), qCl[c]? = some (C, T, n) ∧ j < n ∧ qisR c j = r ∧ Cond.fieldLink own i (T j).1 (T j).2.1 (T j).2.2.1 ∈ qAW ∧ (T j).2.2.2 = fin
theorem qD {G : qG} (hA : qAd G) {ks : List qKd} (hl : ks.length ≤ 1048576) {ρ : qRf} {σ : qMem} : va_D (qA G) (qwd G ks ρ σ) := by
  refine ⟨fun i j p q hp hq e => ?_, fun k q hq => ?_⟩
  · obtain ⟨kd, h1, rfl⟩ := qwd_inv hp
    obtain ⟨kd', h2, rfl⟩ := qwd_inv hq
    have hi : i < ks.length := (List.getElem?_eq_some_iff.mp h1).1
    have hj : j < ks.length := (List.getElem?_eq_some_iff.mp h2).1
    have e' : G.2.2 i = G.2.2 j := e
    rw [hA i (by omega), hA j (by omega)] at e'
    omega
  · obtain ⟨kd, h1, rfl⟩ := qwd_inv hq
    have hi : k < ks.length := (List.getElem?_eq_some_iff.mp h1).1
    show G.2.2 0 ≤ G.2.2 k
    rw [hA k (by omega)]
    omega
theorem qfv_mu {ad : Nat → Nat} {ρ : qRf} {σ : qMem} {c k j n : Nat} {v : Int32} (hr : qisR c j = false) : (List.range n).map (qfv ad ρ (qmu σ k j v) c k) = ((List.range n).map (qfv ad ρ σ c k)).set j (.int v) := by
  apply List.ext_getElem?
  intro i
  rw [List.getElem?_set]
  by_cases h : j = i
  · subst h
    by_cases hl : j < n
    · simp [hl, qfv, hr, qmu]
    · simp [hl]
  · rw [if_neg h]
    by_cases hl : i < n
    · simp only [List.getElem?_map, List.getElem?_range hl, Option.map_some, qfv, qmu]
      have : ¬ i = j := fun q => h q.symm
      simp [this]
    · simp [hl]
theorem qfv_ru {ad : Nat → Nat} {ρ : qRf} {σ : qMem} {c k j n : Nat} {v : Option Nat} (hr : qisR c j = true) : (List.range n).map (qfv ad (qru ρ k j v) σ c k) = ((List.range n).map (qfv ad ρ σ c k)).set j (va_rf (v.map ad)) := by
  apply List.ext_getElem?
  intro i
  rw [List.getElem?_set]
  by_cases h : j = i
  · subst h
    by_cases hl : j < n
    · simp [hl, qfv, hr, qru]
    · simp [hl]
  · rw [if_neg h]
    by_cases hl : i < n
    · simp only [List.getElem?_map, List.getElem?_range hl, Option.map_some, qfv, qru]
      have : ¬ i = j := fun q => h q.symm
      simp [this]
    · simp [hl]
theorem qent_ru {G : qG} {ρ : qRf} {σ : qMem} {k j : Nat} {v : Option Nat} {k' : Nat} {kd : qKd} (h : k' ≠ k) : qent G (qru ρ k j v) σ k' kd = qent G ρ σ k' kd := by
  have e : qru ρ k j v k' = ρ k' := by
    funext b
    simp [qru, h]
  unfold qent qfv
  rw [e]
theorem qg_pos {c : Bool} {α : Type} {a : Option α} {q : α} (h : (if c = true then a else none) = some q) : c = true ∧ a = some q := by
  cases c with
  | true => exact ⟨rfl, h⟩
  | false => cases h
section QHEAP
variable {G : qG} {X : qX} {own : String} {cc : ByteArray} {nL : Nat} {ret : Option FieldType} {d nc ns : Nat} {ks : List qKd} {ρ : qRf} {σ : qMem} {pc pc' : Nat} {lv lv' : qLv} {st : List Value}
theorem q_getI (hX : qOk G X own cc nL ret d) {i c j n k : Nat} {fin : Bool} (hf : qFl own i c j n false fin) (hk : ks[k]? = some (c, n)) (hd : qd cc pc (.getfield i) 3 pc') (K : qV G X nc ns ks ρ σ pc' lv (.int (σ k j) :: st)) : qV G X nc ns ks ρ σ pc lv (.ref k :: st) := by
  obtain ⟨hd, rfl⟩ := hd
  obtain ⟨C, T, hc, hj, hr, hw, -⟩ := hf
  intro H locs ls hR hS hl
  refine va_get (v := .int (σ k j)) hX.ex hX.cd hX.ts (qIn hc) hX.ow hX.kn.1 hR.1 k ((qwd_get hk).trans (by rw [qent_o (qc13 hc)])) hc j hj (hX.ts _ hw) (fun _ h => h) ?_ hd (K H locs ls hR hS hl)
  simp [hj, qfv, hr]
theorem q_getR (hX : qOk G X own cc nL ret d) {i c j n k t : Nat} {fin : Bool} (hf : qFl own i c j n true fin) (hk : ks[k]? = some (c, n)) (ht : ρ k j = some t) (hd : qd cc pc (.getfield i) 3 pc') (K : qV G X nc ns ks ρ σ pc' lv (.ref t :: st)) : qV G X nc ns ks ρ σ pc lv (.ref k :: st) := by
  obtain ⟨hd, rfl⟩ := hd
  obtain ⟨C, T, hc, hj, hr, hw, -⟩ := hf
  intro H locs ls hR hS hl
  refine va_get (v := .ref (G.2.2 t)) hX.ex hX.cd hX.ts (qIn hc) hX.ow hX.kn.1 hR.1 k ((qwd_get hk).trans (by rw [qent_o (qc13 hc)])) hc j hj (hX.ts _ hw) (fun _ h => h) ?_ hd (K H locs ls hR hS hl)
  simp [hj, qfv, hr, ht, va_rf]
theorem qRp.put {H H1 : Heap} (hR : qRp G ks ρ σ H) (hA : qAd G) (hlen : ks.length ≤ 1048576) {k : Nat} {kd : qKd} {ρ' : qRf} {σ' : qMem} (hk : ks[k]? = some kd) (he : va_at G.1 qCl (G.2.2 k, qent G ρ' σ' k kd) H1) (z : H1.size = H.size) (oq : ∀ q, q ≠ G.2.2 k → H1[q]? = H[q]?) (ho : ∀ k' kd', k' ≠ k → qent G ρ' σ' k' kd' = qent G ρ σ k' kd') : qRp G ks ρ' σ' H1 := by
  have h1 := hR.1.set (qD hA hlen) (qwd_get hk) he oq
  rw [qwd_set hk rfl ho] at h1
  exact ⟨h1, by rw [z]; exact hR.2⟩
theorem qA_at (hA : qAd G) (hlen : ks.length ≤ 1048576) {k : Nat} {kd : qKd} (hk : ks[k]? = some kd) : qA G (G.2.2 k) := (qD (ρ := fun _ _ => none) (σ := fun _ _ => 0) hA hlen).2 k _ (qwd_get hk)
theorem q_putI (hX : qOk G X own cc nL ret d) {i c j n k : Nat} {v : Int32} (hf : qFl own i c j n false false) (hk : ks[k]? = some (c, n)) (hty : qFt c j = .int) (hlen : ks.length ≤ 1048576) (hd : qd cc pc (.putfield i) 3 pc') (K : qV G X nc ns ks ρ (qmu σ k j v) pc' lv st) : qV G X nc ns ks ρ σ pc lv (.int v :: .ref k :: st) := by
  obtain ⟨hd, rfl⟩ := hd
  obtain ⟨C, T, hc, hj, hr, hw, hfin⟩ := hf
  intro H locs ls hR hS hl
  have he : (qwd G ks ρ σ)[k]? = some (G.2.2 k, .inr (c, (List.range n).map (qfv G.2.2 ρ σ c k))) := (qwd_get hk).trans (by rw [qent_o (qc13 hc)])
  have hap := va_apart (own := own) hX.ts (qIn hc) (qFt c) (qTy hc) (qNm hc) hX.kn.1 hc
  obtain ⟨r, h1, cell, q1, q2, q3, q4⟩ := hR.1 k _ he
  have hr2 : r = (C, T, n) := Option.some.inj (h1.symm.trans hc)
  subst hr2
  obtain ⟨hS2, hfc, kC, hkC, hkind⟩ := hX.kn.1.1 c _ hc
  obtain ⟨cf, kf, fi, f, hi, hsl⟩ := hS2 j hj
  have hlay := hX.ts _ (qIn hc _ (u_in_lay hj))
  unfold u_lay at hlay
  rw [if_neg (by rw [hfin]; decide)] at hlay
  have hst := (u_facts hfc hkC (u_lays hX.ts (qIn hc) hj) hi).1
  have h6 := u_store hfc hkC hkind hlay hi (by rw [qTy hc j hj, hty]) (v := .int v) rfl rfl
  refine W.putK hX.ex hX.cd (f := f) ⟨hX.ow, hX.ts _ hw, ⟨_, _, _, hi⟩, hst⟩ (by rw [q2]; exact h6) q1 q3 (by rw [hsl]; exact k2_hasslot (q4 j hj)) rfl rfl hd fun H' e1 e2 e3 => ?_
  rw [hsl] at e1 ⊢
  refine K H' _ ls (hR.put (σ' := qmu σ k j v) hX.ad hlen hk ?_ e2 e3 (fun k' kd' h => qent_mu h)) (hS.put e2 e3 (qA_at hX.ad hlen hk)) hl
  rw [qent_o (qc13 hc), qfv_mu hr]
  exact ⟨_, hc, t_OB.to (V := updV (vp_V _) j (.int v)) ⟨_, e1, q2, q3, t_set q4 hap hj (.int v)⟩ (fun j _ => vp_updV_set (by simp [hj]) (.int v) j)⟩
theorem q_iald (hX : qOk G X own cc nL ret d) {n k : Nat} {i : Int32} (hk : ks[k]? = some (100, n)) (hd : qd cc pc (.iaload) 1 pc') {α : Type} {a : Option α} {q : α} (h : (if qin i n = true then a else none) = some q) (K : qin i n = true → a = some q → qV G X nc ns ks ρ σ pc' lv (.int (σ k (qi i)) :: st)) : qV G X nc ns ks ρ σ pc lv (.int i :: .ref k :: st) := by
  obtain ⟨hd, rfl⟩ := hd
  obtain ⟨hin, h⟩ := qg_pos h
  exact fun H locs ls hR hS hl => va_iald hX.ex hX.cd hX.kn.1 hR.1 k 0 ((qwd_get hk).trans (by rw [qent_i (by decide) (by decide)])) rfl (qin_vp hin) hd (K hin h H locs ls hR hS hl)
theorem q_bald (hX : qOk G X own cc nL ret d) {n k : Nat} {i : Int32} (hk : ks[k]? = some (101, n)) (hd : qd cc pc (.baload) 1 pc') {α : Type} {a : Option α} {q : α} (h : (if qin i n = true then a else none) = some q) (K : qin i n = true → a = some q → qV G X nc ns ks ρ σ pc' lv (.int (σ k (qi i)) :: st)) : qV G X nc ns ks ρ σ pc lv (.int i :: .ref k :: st) := by
  obtain ⟨hd, rfl⟩ := hd
  obtain ⟨hin, h⟩ := qg_pos h
  exact fun H locs ls hR hS hl => va_bald hX.ex hX.cd hX.kn.1 hR.1 k 1 ((qwd_get hk).trans (by rw [qent_i (by decide) (by decide)])) rfl (qin_vp hin) hd (K hin h H locs ls hR hS hl)
theorem q_zald (hX : qOk G X own cc nL ret d) {n k : Nat} {i : Int32} (hk : ks[k]? = some (102, n)) (hd : qd cc pc (.baload) 1 pc') {α : Type} {a : Option α} {q : α} (h : (if qin i n = true then a else none) = some q) (K : qin i n = true → a = some q → qV G X nc ns ks ρ σ pc' lv (.int (σ k (qi i)) :: st)) : qV G X nc ns ks ρ σ pc lv (.int i :: .ref k :: st) := by
  obtain ⟨hd, rfl⟩ := hd
  obtain ⟨hin, h⟩ := qg_pos h
  exact fun H locs ls hR hS hl => va_zald hX.ex hX.cd hX.kn.1 hR.1 k 2 ((qwd_get hk).trans (by rw [qent_i (by decide) (by decide)])) rfl (qin_vp hin) hd (K hin h H locs ls hR hS hl)
theorem q_aald (hX : qOk G X own cc nL ret d) {n k t : Nat} {i : Int32} (hk : ks[k]? = some (103, n)) (hd : qd cc pc (.aaload) 1 pc') {α : Type} {a : Option α} {q : α} (h : (if qin i n = true then a else none) = some q) (ht : qin i n = true → ρ k (qi i) = some t) (K : qin i n = true → a = some q → qV G X nc ns ks ρ σ pc' lv (.ref t :: st)) : qV G X nc ns ks ρ σ pc lv (.int i :: .ref k :: st) := by
  obtain ⟨hd, rfl⟩ := hd
  obtain ⟨hin, h⟩ := qg_pos h
  intro H locs ls hR hS hl
  have hv := qin_vp hin
  have hlt : i.toNatClampNeg < n := Nat.not_le.mp fun q => hv (Or.inr q)
  have hc : H[G.2.2 k]? = some (vp_cell (G.2.1 103) (n, .inr (.inr (.inr (.inr (fun j => (ρ k j).map G.2.2)))))) := hR.1 k _ (qwd_get hk)
  refine W.aald (v := .ref (G.2.2 t)) (ty := .array .int) hX.ex hX.cd hc ((hX.kn.1.2 3 _ rfl).1 n (fun j => va_rf ((ρ k j).map G.2.2))) rfl (fun q => by cases q) (by show ¬ (i < 0 ∨ (arrV _ _ _).slots.size ≤ _); rw [arrV_size]; exact hv) ?_ rfl rfl hd (K hin h H locs ls hR hS hl)
  show (arrV _ _ _).slots[_]? = _
  rw [arrV_read _ _ hlt]
  have e : ρ k i.toNatClampNeg = some t := ht hin
  show some (va_rf ((ρ k i.toNatClampNeg).map G.2.2)) = _
  rw [e]
  rfl
theorem q_alen (hX : qOk G X own cc nL ret d) {tg n k : Nat} {v : Int32} (hk : ks[k]? = some (tg, n)) (ht : tg = 100 ∨ tg = 101 ∨ tg = 102) (hv : Int32.ofNat n = v) (hd : qd cc pc (.arraylength) 1 pc') (K : qV G X nc ns ks ρ σ pc' lv (.int v :: st)) : qV G X nc ns ks ρ σ pc lv (.ref k :: st) := by
  obtain ⟨hd, rfl⟩ := hd
  intro H locs ls hR hS hl
  rcases ht with rfl | rfl | rfl
  · exact va_alen hX.ex hX.cd hX.kn.1 hR.1 k 0 ((qwd_get hk).trans (by rw [qent_i (by decide) (by decide)])) rfl hv hd (K H locs ls hR hS hl)
  · exact va_alen hX.ex hX.cd hX.kn.1 hR.1 k 1 ((qwd_get hk).trans (by rw [qent_i (by decide) (by decide)])) rfl hv hd (K H locs ls hR hS hl)
  · exact va_alen hX.ex hX.cd hX.kn.1 hR.1 k 2 ((qwd_get hk).trans (by rw [qent_i (by decide) (by decide)])) rfl hv hd (K H locs ls hR hS hl)
theorem q_iast (hX : qOk G X own cc nL ret d) {n k : Nat} {i x : Int32} (hk : ks[k]? = some (100, n)) (hlen : ks.length ≤ 1048576) (hd : qd cc pc (.iastore) 1 pc') {α : Type} {a : Option α} {q : α} (h : (if qin i n = true then a else none) = some q) (K : qin i n = true → a = some q → qV G X nc ns ks ρ (qmu σ k (qi i) x) pc' lv st) : qV G X nc ns ks ρ σ pc lv (.int x :: .int i :: .ref k :: st) := by
  obtain ⟨hd, rfl⟩ := hd
  obtain ⟨hin, h⟩ := qg_pos h
  intro H locs ls hR hS hl
  have hv := qin_vp hin
  have hc : H[G.2.2 k]? = some (vp_cell (G.2.1 100) (n, .inl (σ k))) := by
    have h1 := hR.1 k _ (qwd_get hk)
    rw [qent_i (by decide) (by decide)] at h1
    exact h1
  refine W.iast hX.ex hX.cd hc ((hX.kn.1.2 0 _ rfl).1 n (fun j => .int (σ k j))) (fun q => by cases q) (by show ¬ (i < 0 ∨ (arrV _ _ _).slots.size ≤ _); rw [arrV_size]; exact hv) rfl rfl hd fun H1 e z oq => ?_
  refine K hin h H1 _ ls (hR.put (σ' := qmu σ k (qi i) x) hX.ad hlen hk ?_ z oq (fun k' kd' h => qent_mu h)) (hS.put z oq (qA_at hX.ad hlen hk)) hl
  rw [qent_i (by decide) (by decide), qmu_self]
  show H1[G.2.2 k]? = some (vp_cell _ _)
  rw [e, vp_cell_i, vp_cell_i, arrV_store]
  congr 2
  funext q
  by_cases hq : q = i.toNatClampNeg
  · subst hq
    simp [updV, upd]
  · simp [updV, upd, hq]
theorem q_bast (hX : qOk G X own cc nL ret d) {n k : Nat} {i x : Int32} (hk : ks[k]? = some (101, n)) (hlen : ks.length ≤ 1048576) (hd : qd cc pc (.bastore) 1 pc') {α : Type} {a : Option α} {q : α} (h : (if qin i n = true then a else none) = some q) (K : qin i n = true → a = some q → qV G X nc ns ks ρ (qmu σ k (qi i) (vp_nar .byte x)) pc' lv st) : qV G X nc ns ks ρ σ pc lv (.int x :: .int i :: .ref k :: st) := by
  obtain ⟨hd, rfl⟩ := hd
  obtain ⟨hin, h⟩ := qg_pos h
  intro H locs ls hR hS hl
  have hv := qin_vp hin
  have hc : H[G.2.2 k]? = some (vp_cell (G.2.1 101) (n, .inl (σ k))) := by
    have h1 := hR.1 k _ (qwd_get hk)
    rw [qent_i (by decide) (by decide)] at h1
    exact h1
  refine W.bast hX.ex hX.cd hc ((hX.kn.1.2 1 _ rfl).1 n (fun j => .int (σ k j))) (fun q => by cases q) (by show ¬ (i < 0 ∨ (arrV _ _ _).slots.size ≤ _); rw [arrV_size]; exact hv) rfl rfl hd fun H1 e z oq => ?_
  refine K hin h H1 _ ls (hR.put (σ' := qmu σ k (qi i) (vp_nar .byte x)) hX.ad hlen hk ?_ z oq (fun k' kd' h => qent_mu h)) (hS.put z oq (qA_at hX.ad hlen hk)) hl
  rw [qent_i (by decide) (by decide), qmu_self]
  show H1[G.2.2 k]? = some (vp_cell _ _)
  rw [e, vp_cell_i, vp_cell_i, arrV_store]
  congr 2
  funext q
  by_cases hq : q = i.toNatClampNeg
  · subst hq
    simp [updV, upd, vp_nar]
    try rfl
  · simp [updV, upd, hq]
theorem q_zast (hX : qOk G X own cc nL ret d) {n k : Nat} {i x : Int32} (hk : ks[k]? = some (102, n)) (hlen : ks.length ≤ 1048576) (hd : qd cc pc (.bastore) 1 pc') {α : Type} {a : Option α} {q : α} (h : (if qin i n = true then a else none) = some q) (K : qin i n = true → a = some q → qV G X nc ns ks ρ (qmu σ k (qi i) (vp_nar .boolean x)) pc' lv st) : qV G X nc ns ks ρ σ pc lv (.int x :: .int i :: .ref k :: st) := by
  obtain ⟨hd, rfl⟩ := hd
  obtain ⟨hin, h⟩ := qg_pos h
  intro H locs ls hR hS hl
  have hv := qin_vp hin
  have hc : H[G.2.2 k]? = some (vp_cell (G.2.1 102) (n, .inl (σ k))) := by
    have h1 := hR.1 k _ (qwd_get hk)
    rw [qent_i (by decide) (by decide)] at h1
    exact h1
  refine W.zast hX.ex hX.cd hc ((hX.kn.1.2 2 _ rfl).1 n (fun j => .int (σ k j))) (fun q => by cases q) (by show ¬ (i < 0 ∨ (arrV _ _ _).slots.size ≤ _); rw [arrV_size]; exact hv) rfl rfl hd fun H1 e z oq => ?_
  refine K hin h H1 _ ls (hR.put (σ' := qmu σ k (qi i) (vp_nar .boolean x)) hX.ad hlen hk ?_ z oq (fun k' kd' h => qent_mu h)) (hS.put z oq (qA_at hX.ad hlen hk)) hl
  rw [qent_i (by decide) (by decide), qmu_self]
  show H1[G.2.2 k]? = some (vp_cell _ _)
  rw [e, vp_cell_i, vp_cell_i, arrV_store]
  congr 2
  funext q
  by_cases hq : q = i.toNatClampNeg
  · subst hq
    simp [updV, upd, vp_nar]
    try rfl
  · simp [updV, upd, hq]
end QHEAP
