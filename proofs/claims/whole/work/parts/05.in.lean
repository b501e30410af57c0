/-! rows of the heap -/
theorem qIn0 : ∀ w ∈ u_ws qR0 qT0 17, w ∈ qAW := by decide +kernel
theorem qIn1 : ∀ w ∈ u_ws qR1 qT1 3, w ∈ qAW := by decide +kernel
theorem qIn2 : ∀ w ∈ u_ws qR2 qT2 2, w ∈ qAW := by decide +kernel
theorem qIn3 : ∀ w ∈ u_ws qR3 qT3 6, w ∈ qAW := by decide +kernel
theorem qIn4 : ∀ w ∈ u_ws qR4 qT4 4, w ∈ qAW := by decide +kernel
theorem qIn5 : ∀ w ∈ u_ws qR5 qT5 4, w ∈ qAW := by decide +kernel
theorem qIn6 : ∀ w ∈ u_ws qR6 qT6 6, w ∈ qAW := by decide +kernel
theorem qIn7 : ∀ w ∈ u_ws qR7 qT7 10, w ∈ qAW := by decide +kernel
theorem qIn8 : ∀ w ∈ u_ws qR8 qT8 5, w ∈ qAW := by decide +kernel
theorem qIn9 : ∀ w ∈ u_ws qR9 qT9 11, w ∈ qAW := by decide +kernel
theorem qIn10 : ∀ w ∈ u_ws qR10 qT10 4, w ∈ qAW := by decide +kernel
theorem qIn11 : ∀ w ∈ u_ws qR11 qT11 11, w ∈ qAW := by decide +kernel
theorem qIn12 : ∀ w ∈ u_ws qR12 qT12 65, w ∈ qAW := by decide +kernel
