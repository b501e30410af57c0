/-! the start -/
theorem lt8 {b : Nat} (h : b < 8) : b = 0 ∨ b = 1 ∨ b = 2 ∨ b = 3 ∨ b = 4 ∨ b = 5 ∨ b = 6 ∨ b = 7 := by omega
theorem qF_lane (b : Nat) : qσF 2 b = qσF 105 b := by
  by_cases c : b < 8
  · rcases lt8 c with rfl | rfl | rfl | rfl | rfl | rfl | rfl | rfl <;> rfl
  · rw [qF_8 (by omega) (by decide), qF_8 (by omega) (by decide)]
theorem qF_vow (b : Nat) : qσF 32 b = qσF 116 b := by
  by_cases c : b < 8
  · rcases lt8 c with rfl | rfl | rfl | rfl | rfl | rfl | rfl | rfl <;> rfl
  · rw [qF_8 (by omega) (by decide), qF_8 (by omega) (by decide)]
theorem qF_pri (b : Nat) : qσF 66 b = qσF 132 b := by
  by_cases c : b < 8
  · rcases lt8 c with rfl | rfl | rfl | rfl | rfl | rfl | rfl | rfl <;> rfl
  · rw [qF_8 (by omega) (by decide), qF_8 (by omega) (by decide)]
theorem qF_l1 : ∀ s, s < 8 → qσF 2 s = -1 := by decide +kernel
theorem qF_v1 : ∀ s, s < 8 → qσF 32 s = nI 1 := by decide +kernel
theorem qF_n1 : ∀ s, s < 12 → qσF 68 s = -1000000 := by decide +kernel
theorem qF_e {k k' : Nat} (h : k ≠ 2 ∧ k ≠ 32 ∧ k ≠ 66 ∧ k ≠ 68 ∧ k ≠ 105 ∧ k ≠ 116 ∧ k ≠ 132) (h' : k' ≠ 2 ∧ k' ≠ 32 ∧ k' ≠ 66 ∧ k' ≠ 68 ∧ k' ≠ 105 ∧ k' ≠ 116 ∧ k' ≠ 132) : qσF k = qσF k' := funext fun b => by rw [qF_0 h, qF_0 h']
theorem Inv_0 : Inv qσF := by
  have z : ∀ {k : Nat} (b : Nat), (k ≠ 2 ∧ k ≠ 32 ∧ k ≠ 66 ∧ k ≠ 68 ∧ k ≠ 105 ∧ k ≠ 116 ∧ k ≠ 132) → qσF k b = nI 0 := fun b h => qF_0 h
  have no : ∀ {P : Nat → Prop} i, i < 0 → P i := fun i hi => absurd hi (Nat.not_lt_zero _)
  refine ⟨⟨qF_e (by decide) (by decide), 0, by omega, z _ (by decide), z _ (by decide)⟩, ⟨0, by omega, z _ (by decide), z _ (by decide)⟩, ?_, ?_, ⟨funext qF_lane, qF_e (by decide) (by decide), fun s hs i hi => ?_, fun s hs => Or.inl (qF_l1 s hs), fun s hs => ⟨0, by omega, z _ (by decide)⟩⟩, ⟨0, by omega, z _ (by decide), z _ (by decide), fun p hp => absurd hp (Nat.not_lt_zero _)⟩, ⟨⟨0, by omega, z _ (by decide), z _ (by decide)⟩, fun i hi => ?_⟩, ⟨funext qF_vow, fun p hp => ⟨1, by omega, by omega, qF_v1 p hp⟩⟩, ⟨qF_e (by decide) (by decide), qF_e (by decide) (by decide), qF_e (by decide) (by decide), 0, by omega, z _ (by decide), z _ (by decide)⟩, ⟨qF_e (by decide) (by decide), qF_e (by decide) (by decide), qF_e (by decide) (by decide), qF_e (by decide) (by decide), 0, by omega, z _ (by decide), z _ (by decide), fun i hi => absurd hi (Nat.not_lt_zero _)⟩, ⟨qF_e (by decide) (by decide), qF_e (by decide) (by decide)⟩, ⟨qF_e (by decide) (by decide), qF_e (by decide) (by decide), qF_e (by decide) (by decide), 0, by omega, z _ (by decide), z _ (by decide)⟩, ⟨qF_e (by decide) (by decide), qF_e (by decide) (by decide), qF_e (by decide) (by decide), 0, by omega, z _ (by decide), z _ (by decide), fun i hi => absurd hi (Nat.not_lt_zero _)⟩, ⟨qF_e (by decide) (by decide), qF_e (by decide) (by decide), qF_e (by decide) (by decide), 0, by omega, z _ (by decide), z _ (by decide), fun i hi => absurd hi (Nat.not_lt_zero _)⟩, funext qF_pri, ⟨qF_e (by decide) (by decide), fun p i hp hi => ?_, 0, by omega, z _ (by decide), fun p hp => ⟨fun w => absurd w (Nat.not_lt_zero _), Or.inr (qF_n1 p hp), 0, by omega, z _ (by decide), fun i hi => absurd hi (Nat.not_lt_zero _)⟩⟩, ⟨0, 0, by omega, by omega, z _ (by decide), z _ (by decide), z _ (by decide), fun i hi => absurd hi (Nat.not_lt_zero _), fun i j _ hj => absurd hj (Nat.not_lt_zero _), fun i hi => absurd hi (Nat.not_lt_zero _), fun i hi => absurd hi (Nat.not_lt_zero _), fun i hi => absurd hi (Nat.not_lt_zero _)⟩, ⟨qF_e (by decide) (by decide), qF_e (by decide) (by decide), qF_e (by decide) (by decide), 0, 0, by omega, z _ (by decide), z _ (by decide), by omega, z _ (by decide), fun i hi => absurd hi (Nat.not_lt_zero _), fun i j _ hj => absurd hj (Nat.not_lt_zero _)⟩, ⟨qF_e (by decide) (by decide), qF_e (by decide) (by decide), qF_e (by decide) (by decide), 0, 0, 0, 0, fun i => i, by omega, z _ (by decide), z _ (by decide), by omega, z _ (by decide), by omega, z _ (by decide), by omega, z _ (by decide), fun i hi => absurd hi (Nat.not_lt_zero _), ⟨fun i hi => absurd hi (Nat.not_lt_zero _), fun i j _ hj => absurd hj (Nat.not_lt_zero _)⟩, fun i hi => absurd hi (Nat.not_lt_zero _)⟩⟩
  · show qσF 0 16 = qσF 104 1
    rw [qF_0 (by decide), qF_0 (by decide)]
  · show qσF 27 2 = qσF 104 9
    rw [qF_0 (by decide), qF_0 (by decide)]
  · rw [qF_0 (by omega), qF_0 (by decide)]
  · rw [qF_0 (by decide), qF_0 (by decide)]
    exact ⟨rfl, by decide, by decide⟩
  · rw [qF_0 (by omega), qF_0 (by omega), qF_0 (by omega), qF_0 (by omega)]
    exact ⟨rfl, rfl⟩
theorem law_pure (xs : Nat → Int32) (L : Nat) (hL : L ≤ 3072) : ∃ f : Nat, 1000 ≤ f ∧ qfix2 (p_law_l18 f xs L) f qσF (0 : Int32) = some 1 := by
  obtain ⟨f, hf⟩ : ∃ f : Nat, 200000000 < f := ⟨200000001, by omega⟩
  have h := law_loop (f := f) (xs := xs) hf hL (L + 6) 0 f qσF Inv_0 (by omega) (by omega) (by omega)
  exact ⟨f, by omega, h⟩
