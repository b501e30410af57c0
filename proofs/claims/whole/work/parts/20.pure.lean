/-! loops: the least fixed point by fuel, curried -/
def qfix1 {A0 R : Type} (F : (A0 → Option R) → A0 → Option R) : Nat → A0 → Option R
  | 0, _ => none
  | n + 1, a0 => F (qfix1 F n) a0
theorem qfix1_ind {A0 R : Type} {F : (A0 → Option R) → A0 → Option R} {u : R} {P : A0 → Prop} (hF : ∀ k : A0 → Option R, (∀ a0, k a0 = some u → P a0) → ∀ a0, F k a0 = some u → P a0) : ∀ n a0, qfix1 F n a0 = some u → P a0
  | 0, _, h => by cases h
  | n + 1, a0, h => hF (qfix1 F n) (qfix1_ind hF n) a0 h
theorem qfix1_s {A0 R : Type} {F : (A0 → Option R) → A0 → Option R} {n : Nat} {a0 : A0} : qfix1 F (n + 1) a0 = F (qfix1 F n) a0 := rfl
def qfix2 {A0 A1 R : Type} (F : (A0 → A1 → Option R) → A0 → A1 → Option R) : Nat → A0 → A1 → Option R
  | 0, _, _ => none
  | n + 1, a0, a1 => F (qfix2 F n) a0 a1
theorem qfix2_ind {A0 A1 R : Type} {F : (A0 → A1 → Option R) → A0 → A1 → Option R} {u : R} {P : A0 → A1 → Prop} (hF : ∀ k : A0 → A1 → Option R, (∀ a0 a1, k a0 a1 = some u → P a0 a1) → ∀ a0 a1, F k a0 a1 = some u → P a0 a1) : ∀ n a0 a1, qfix2 F n a0 a1 = some u → P a0 a1
  | 0, _, _, h => by cases h
  | n + 1, a0, a1, h => hF (qfix2 F n) (qfix2_ind hF n) a0 a1 h
theorem qfix2_s {A0 A1 R : Type} {F : (A0 → A1 → Option R) → A0 → A1 → Option R} {n : Nat} {a0 : A0} {a1 : A1} : qfix2 F (n + 1) a0 a1 = F (qfix2 F n) a0 a1 := rfl
def qfix3 {A0 A1 A2 R : Type} (F : (A0 → A1 → A2 → Option R) → A0 → A1 → A2 → Option R) : Nat → A0 → A1 → A2 → Option R
  | 0, _, _, _ => none
  | n + 1, a0, a1, a2 => F (qfix3 F n) a0 a1 a2
theorem qfix3_ind {A0 A1 A2 R : Type} {F : (A0 → A1 → A2 → Option R) → A0 → A1 → A2 → Option R} {u : R} {P : A0 → A1 → A2 → Prop} (hF : ∀ k : A0 → A1 → A2 → Option R, (∀ a0 a1 a2, k a0 a1 a2 = some u → P a0 a1 a2) → ∀ a0 a1 a2, F k a0 a1 a2 = some u → P a0 a1 a2) : ∀ n a0 a1 a2, qfix3 F n a0 a1 a2 = some u → P a0 a1 a2
  | 0, _, _, _, h => by cases h
  | n + 1, a0, a1, a2, h => hF (qfix3 F n) (qfix3_ind hF n) a0 a1 a2 h
theorem qfix3_s {A0 A1 A2 R : Type} {F : (A0 → A1 → A2 → Option R) → A0 → A1 → A2 → Option R} {n : Nat} {a0 : A0} {a1 : A1} {a2 : A2} : qfix3 F (n + 1) a0 a1 a2 = F (qfix3 F n) a0 a1 a2 := rfl
def qfix4 {A0 A1 A2 A3 R : Type} (F : (A0 → A1 → A2 → A3 → Option R) → A0 → A1 → A2 → A3 → Option R) : Nat → A0 → A1 → A2 → A3 → Option R
  | 0, _, _, _, _ => none
  | n + 1, a0, a1, a2, a3 => F (qfix4 F n) a0 a1 a2 a3
theorem qfix4_ind {A0 A1 A2 A3 R : Type} {F : (A0 → A1 → A2 → A3 → Option R) → A0 → A1 → A2 → A3 → Option R} {u : R} {P : A0 → A1 → A2 → A3 → Prop} (hF : ∀ k : A0 → A1 → A2 → A3 → Option R, (∀ a0 a1 a2 a3, k a0 a1 a2 a3 = some u → P a0 a1 a2 a3) → ∀ a0 a1 a2 a3, F k a0 a1 a2 a3 = some u → P a0 a1 a2 a3) : ∀ n a0 a1 a2 a3, qfix4 F n a0 a1 a2 a3 = some u → P a0 a1 a2 a3
  | 0, _, _, _, _, h => by cases h
  | n + 1, a0, a1, a2, a3, h => hF (qfix4 F n) (qfix4_ind hF n) a0 a1 a2 a3 h
theorem qfix4_s {A0 A1 A2 A3 R : Type} {F : (A0 → A1 → A2 → A3 → Option R) → A0 → A1 → A2 → A3 → Option R} {n : Nat} {a0 : A0} {a1 : A1} {a2 : A2} {a3 : A3} : qfix4 F (n + 1) a0 a1 a2 a3 = F (qfix4 F n) a0 a1 a2 a3 := rfl
def qfix5 {A0 A1 A2 A3 A4 R : Type} (F : (A0 → A1 → A2 → A3 → A4 → Option R) → A0 → A1 → A2 → A3 → A4 → Option R) : Nat → A0 → A1 → A2 → A3 → A4 → Option R
  | 0, _, _, _, _, _ => none
  | n + 1, a0, a1, a2, a3, a4 => F (qfix5 F n) a0 a1 a2 a3 a4
theorem qfix5_ind {A0 A1 A2 A3 A4 R : Type} {F : (A0 → A1 → A2 → A3 → A4 → Option R) → A0 → A1 → A2 → A3 → A4 → Option R} {u : R} {P : A0 → A1 → A2 → A3 → A4 → Prop} (hF : ∀ k : A0 → A1 → A2 → A3 → A4 → Option R, (∀ a0 a1 a2 a3 a4, k a0 a1 a2 a3 a4 = some u → P a0 a1 a2 a3 a4) → ∀ a0 a1 a2 a3 a4, F k a0 a1 a2 a3 a4 = some u → P a0 a1 a2 a3 a4) : ∀ n a0 a1 a2 a3 a4, qfix5 F n a0 a1 a2 a3 a4 = some u → P a0 a1 a2 a3 a4
  | 0, _, _, _, _, _, h => by cases h
  | n + 1, a0, a1, a2, a3, a4, h => hF (qfix5 F n) (qfix5_ind hF n) a0 a1 a2 a3 a4 h
theorem qfix5_s {A0 A1 A2 A3 A4 R : Type} {F : (A0 → A1 → A2 → A3 → A4 → Option R) → A0 → A1 → A2 → A3 → A4 → Option R} {n : Nat} {a0 : A0} {a1 : A1} {a2 : A2} {a3 : A3} {a4 : A4} : qfix5 F (n + 1) a0 a1 a2 a3 a4 = F (qfix5 F n) a0 a1 a2 a3 a4 := rfl
def qfix6 {A0 A1 A2 A3 A4 A5 R : Type} (F : (A0 → A1 → A2 → A3 → A4 → A5 → Option R) → A0 → A1 → A2 → A3 → A4 → A5 → Option R) : Nat → A0 → A1 → A2 → A3 → A4 → A5 → Option R
  | 0, _, _, _, _, _, _ => none
  | n + 1, a0, a1, a2, a3, a4, a5 => F (qfix6 F n) a0 a1 a2 a3 a4 a5
theorem qfix6_ind {A0 A1 A2 A3 A4 A5 R : Type} {F : (A0 → A1 → A2 → A3 → A4 → A5 → Option R) → A0 → A1 → A2 → A3 → A4 → A5 → Option R} {u : R} {P : A0 → A1 → A2 → A3 → A4 → A5 → Prop} (hF : ∀ k : A0 → A1 → A2 → A3 → A4 → A5 → Option R, (∀ a0 a1 a2 a3 a4 a5, k a0 a1 a2 a3 a4 a5 = some u → P a0 a1 a2 a3 a4 a5) → ∀ a0 a1 a2 a3 a4 a5, F k a0 a1 a2 a3 a4 a5 = some u → P a0 a1 a2 a3 a4 a5) : ∀ n a0 a1 a2 a3 a4 a5, qfix6 F n a0 a1 a2 a3 a4 a5 = some u → P a0 a1 a2 a3 a4 a5
  | 0, _, _, _, _, _, _, h => by cases h
  | n + 1, a0, a1, a2, a3, a4, a5, h => hF (qfix6 F n) (qfix6_ind hF n) a0 a1 a2 a3 a4 a5 h
theorem qfix6_s {A0 A1 A2 A3 A4 A5 R : Type} {F : (A0 → A1 → A2 → A3 → A4 → A5 → Option R) → A0 → A1 → A2 → A3 → A4 → A5 → Option R} {n : Nat} {a0 : A0} {a1 : A1} {a2 : A2} {a3 : A3} {a4 : A4} {a5 : A5} : qfix6 F (n + 1) a0 a1 a2 a3 a4 a5 = F (qfix6 F n) a0 a1 a2 a3 a4 a5 := rfl
def qfix7 {A0 A1 A2 A3 A4 A5 A6 R : Type} (F : (A0 → A1 → A2 → A3 → A4 → A5 → A6 → Option R) → A0 → A1 → A2 → A3 → A4 → A5 → A6 → Option R) : Nat → A0 → A1 → A2 → A3 → A4 → A5 → A6 → Option R
  | 0, _, _, _, _, _, _, _ => none
  | n + 1, a0, a1, a2, a3, a4, a5, a6 => F (qfix7 F n) a0 a1 a2 a3 a4 a5 a6
theorem qfix7_ind {A0 A1 A2 A3 A4 A5 A6 R : Type} {F : (A0 → A1 → A2 → A3 → A4 → A5 → A6 → Option R) → A0 → A1 → A2 → A3 → A4 → A5 → A6 → Option R} {u : R} {P : A0 → A1 → A2 → A3 → A4 → A5 → A6 → Prop} (hF : ∀ k : A0 → A1 → A2 → A3 → A4 → A5 → A6 → Option R, (∀ a0 a1 a2 a3 a4 a5 a6, k a0 a1 a2 a3 a4 a5 a6 = some u → P a0 a1 a2 a3 a4 a5 a6) → ∀ a0 a1 a2 a3 a4 a5 a6, F k a0 a1 a2 a3 a4 a5 a6 = some u → P a0 a1 a2 a3 a4 a5 a6) : ∀ n a0 a1 a2 a3 a4 a5 a6, qfix7 F n a0 a1 a2 a3 a4 a5 a6 = some u → P a0 a1 a2 a3 a4 a5 a6
  | 0, _, _, _, _, _, _, _, h => by cases h
  | n + 1, a0, a1, a2, a3, a4, a5, a6, h => hF (qfix7 F n) (qfix7_ind hF n) a0 a1 a2 a3 a4 a5 a6 h
theorem qfix7_s {A0 A1 A2 A3 A4 A5 A6 R : Type} {F : (A0 → A1 → A2 → A3 → A4 → A5 → A6 → Option R) → A0 → A1 → A2 → A3 → A4 → A5 → A6 → Option R} {n : Nat} {a0 : A0} {a1 : A1} {a2 : A2} {a3 : A3} {a4 : A4} {a5 : A5} {a6 : A6} : qfix7 F (n + 1) a0 a1 a2 a3 a4 a5 a6 = F (qfix7 F n) a0 a1 a2 a3 a4 a5 a6 := rfl
def qfix8 {A0 A1 A2 A3 A4 A5 A6 A7 R : Type} (F : (A0 → A1 → A2 → A3 → A4 → A5 → A6 → A7 → Option R) → A0 → A1 → A2 → A3 → A4 → A5 → A6 → A7 → Option R) : Nat → A0 → A1 → A2 → A3 → A4 → A5 → A6 → A7 → Option R
  | 0, _, _, _, _, _, _, _, _ => none
  | n + 1, a0, a1, a2, a3, a4, a5, a6, a7 => F (qfix8 F n) a0 a1 a2 a3 a4 a5 a6 a7
theorem qfix8_ind {A0 A1 A2 A3 A4 A5 A6 A7 R : Type} {F : (A0 → A1 → A2 → A3 → A4 → A5 → A6 → A7 → Option R) → A0 → A1 → A2 → A3 → A4 → A5 → A6 → A7 → Option R} {u : R} {P : A0 → A1 → A2 → A3 → A4 → A5 → A6 → A7 → Prop} (hF : ∀ k : A0 → A1 → A2 → A3 → A4 → A5 → A6 → A7 → Option R, (∀ a0 a1 a2 a3 a4 a5 a6 a7, k a0 a1 a2 a3 a4 a5 a6 a7 = some u → P a0 a1 a2 a3 a4 a5 a6 a7) → ∀ a0 a1 a2 a3 a4 a5 a6 a7, F k a0 a1 a2 a3 a4 a5 a6 a7 = some u → P a0 a1 a2 a3 a4 a5 a6 a7) : ∀ n a0 a1 a2 a3 a4 a5 a6 a7, qfix8 F n a0 a1 a2 a3 a4 a5 a6 a7 = some u → P a0 a1 a2 a3 a4 a5 a6 a7
  | 0, _, _, _, _, _, _, _, _, h => by cases h
  | n + 1, a0, a1, a2, a3, a4, a5, a6, a7, h => hF (qfix8 F n) (qfix8_ind hF n) a0 a1 a2 a3 a4 a5 a6 a7 h
theorem qfix8_s {A0 A1 A2 A3 A4 A5 A6 A7 R : Type} {F : (A0 → A1 → A2 → A3 → A4 → A5 → A6 → A7 → Option R) → A0 → A1 → A2 → A3 → A4 → A5 → A6 → A7 → Option R} {n : Nat} {a0 : A0} {a1 : A1} {a2 : A2} {a3 : A3} {a4 : A4} {a5 : A5} {a6 : A6} {a7 : A7} : qfix8 F (n + 1) a0 a1 a2 a3 a4 a5 a6 a7 = F (qfix8 F n) a0 a1 a2 a3 a4 a5 a6 a7 := rfl
def qfix9 {A0 A1 A2 A3 A4 A5 A6 A7 A8 R : Type} (F : (A0 → A1 → A2 → A3 → A4 → A5 → A6 → A7 → A8 → Option R) → A0 → A1 → A2 → A3 → A4 → A5 → A6 → A7 → A8 → Option R) : Nat → A0 → A1 → A2 → A3 → A4 → A5 → A6 → A7 → A8 → Option R
  | 0, _, _, _, _, _, _, _, _, _ => none
  | n + 1, a0, a1, a2, a3, a4, a5, a6, a7, a8 => F (qfix9 F n) a0 a1 a2 a3 a4 a5 a6 a7 a8
theorem qfix9_ind {A0 A1 A2 A3 A4 A5 A6 A7 A8 R : Type} {F : (A0 → A1 → A2 → A3 → A4 → A5 → A6 → A7 → A8 → Option R) → A0 → A1 → A2 → A3 → A4 → A5 → A6 → A7 → A8 → Option R} {u : R} {P : A0 → A1 → A2 → A3 → A4 → A5 → A6 → A7 → A8 → Prop} (hF : ∀ k : A0 → A1 → A2 → A3 → A4 → A5 → A6 → A7 → A8 → Option R, (∀ a0 a1 a2 a3 a4 a5 a6 a7 a8, k a0 a1 a2 a3 a4 a5 a6 a7 a8 = some u → P a0 a1 a2 a3 a4 a5 a6 a7 a8) → ∀ a0 a1 a2 a3 a4 a5 a6 a7 a8, F k a0 a1 a2 a3 a4 a5 a6 a7 a8 = some u → P a0 a1 a2 a3 a4 a5 a6 a7 a8) : ∀ n a0 a1 a2 a3 a4 a5 a6 a7 a8, qfix9 F n a0 a1 a2 a3 a4 a5 a6 a7 a8 = some u → P a0 a1 a2 a3 a4 a5 a6 a7 a8
  | 0, _, _, _, _, _, _, _, _, _, h => by cases h
  | n + 1, a0, a1, a2, a3, a4, a5, a6, a7, a8, h => hF (qfix9 F n) (qfix9_ind hF n) a0 a1 a2 a3 a4 a5 a6 a7 a8 h
theorem qfix9_s {A0 A1 A2 A3 A4 A5 A6 A7 A8 R : Type} {F : (A0 → A1 → A2 → A3 → A4 → A5 → A6 → A7 → A8 → Option R) → A0 → A1 → A2 → A3 → A4 → A5 → A6 → A7 → A8 → Option R} {n : Nat} {a0 : A0} {a1 : A1} {a2 : A2} {a3 : A3} {a4 : A4} {a5 : A5} {a6 : A6} {a7 : A7} {a8 : A8} : qfix9 F (n + 1) a0 a1 a2 a3 a4 a5 a6 a7 a8 = F (qfix9 F n) a0 a1 a2 a3 a4 a5 a6 a7 a8 := rfl
def qfix10 {A0 A1 A2 A3 A4 A5 A6 A7 A8 A9 R : Type} (F : (A0 → A1 → A2 → A3 → A4 → A5 → A6 → A7 → A8 → A9 → Option R) → A0 → A1 → A2 → A3 → A4 → A5 → A6 → A7 → A8 → A9 → Option R) : Nat → A0 → A1 → A2 → A3 → A4 → A5 → A6 → A7 → A8 → A9 → Option R
  | 0, _, _, _, _, _, _, _, _, _, _ => none
  | n + 1, a0, a1, a2, a3, a4, a5, a6, a7, a8, a9 => F (qfix10 F n) a0 a1 a2 a3 a4 a5 a6 a7 a8 a9
theorem qfix10_ind {A0 A1 A2 A3 A4 A5 A6 A7 A8 A9 R : Type} {F : (A0 → A1 → A2 → A3 → A4 → A5 → A6 → A7 → A8 → A9 → Option R) → A0 → A1 → A2 → A3 → A4 → A5 → A6 → A7 → A8 → A9 → Option R} {u : R} {P : A0 → A1 → A2 → A3 → A4 → A5 → A6 → A7 → A8 → A9 → Prop} (hF : ∀ k : A0 → A1 → A2 → A3 → A4 → A5 → A6 → A7 → A8 → A9 → Option R, (∀ a0 a1 a2 a3 a4 a5 a6 a7 a8 a9, k a0 a1 a2 a3 a4 a5 a6 a7 a8 a9 = some u → P a0 a1 a2 a3 a4 a5 a6 a7 a8 a9) → ∀ a0 a1 a2 a3 a4 a5 a6 a7 a8 a9, F k a0 a1 a2 a3 a4 a5 a6 a7 a8 a9 = some u → P a0 a1 a2 a3 a4 a5 a6 a7 a8 a9) : ∀ n a0 a1 a2 a3 a4 a5 a6 a7 a8 a9, qfix10 F n a0 a1 a2 a3 a4 a5 a6 a7 a8 a9 = some u → P a0 a1 a2 a3 a4 a5 a6 a7 a8 a9
  | 0, _, _, _, _, _, _, _, _, _, _, h => by cases h
  | n + 1, a0, a1, a2, a3, a4, a5, a6, a7, a8, a9, h => hF (qfix10 F n) (qfix10_ind hF n) a0 a1 a2 a3 a4 a5 a6 a7 a8 a9 h
theorem qfix10_s {A0 A1 A2 A3 A4 A5 A6 A7 A8 A9 R : Type} {F : (A0 → A1 → A2 → A3 → A4 → A5 → A6 → A7 → A8 → A9 → Option R) → A0 → A1 → A2 → A3 → A4 → A5 → A6 → A7 → A8 → A9 → Option R} {n : Nat} {a0 : A0} {a1 : A1} {a2 : A2} {a3 : A3} {a4 : A4} {a5 : A5} {a6 : A6} {a7 : A7} {a8 : A8} {a9 : A9} : qfix10 F (n + 1) a0 a1 a2 a3 a4 a5 a6 a7 a8 a9 = F (qfix10 F n) a0 a1 a2 a3 a4 a5 a6 a7 a8 a9 := rfl
def p_St_length (f : Nat) (σ : qMem) (w : Nat) : Option Int32 := if w < 12 then some (Int32.ofNat (qSl.getD w 0)) else none
def p_St_charAt (f : Nat) (σ : qMem) (w : Nat) (x1 : Int32) : Option Int32 := if w < 12 then (if qin x1 (qSl.getD w 0) = true then some ((qSb.getD w []).getD (qi x1) 0) else none) else none
def p_Ar_fill_l5 (f : Nat) (x0 : Nat) (nx0 : Nat) (x1 : Int32) (x3 : Int32) (k5 : qMem → Int32 → Option (qMem)) (σ : qMem) (x2 : Int32) : Option (qMem) :=
  if x3 ≤ x2 then
    some σ
  else
    if qin x2 nx0 = true then
    k5 (qmu σ x0 (qi x2) x1) (x2 + (1 : Int32))
    else none
def p_Ar_fill (f : Nat) (σ : qMem) (x0 : Nat) (nx0 : Nat) (x1 : Int32) : Option (qMem) :=
  qfix2 (p_Ar_fill_l5 f x0 nx0 x1 (Int32.ofNat nx0) ) f σ (0 : Int32)
def p_C_outside (f : Nat) (σ : qMem) (x0 : Int32) (x1 : Int32) (x2 : Int32) : Option (Int32) :=
  if x0 < x1 then
    some (1 : Int32)
  else
    if x0 ≤ x2 then
      some (0 : Int32)
    else
      some (1 : Int32)
def p_Sheets_noSuch (f : Nat) (σ : qMem) (x0 : Int32) : Option (Int32) :=
  (p_C_outside f σ x0 (0 : Int32) (7 : Int32)).bind fun u1 =>
  some (vp_nar .boolean u1)
def p_C_found (f : Nat) (σ : qMem) (x1 : Int32) : Option (Int32 × qMem) :=
  some (((-1000010 : Int32) - x1), (qmu σ 0 16 x1))
def p_Sheets_make (f : Nat) (σ : qMem) (x1 : Int32) (x2 : Int32) (x3 : Int32) : Option (qMem) :=
  if qin x1 8 = true then
  if qin x1 8 = true then
  if qin x1 8 = true then
  (p_Ar_fill f (qmu (qmu σ 2 (qi x1) x2) 3 (qi x1) x3) (5 + qi x1) 60 (0 : Int32)).bind fun u4 =>
  some u4
  else none
  else none
  else none
def p_C_foundNothing (f : Nat) (σ : qMem) (x1 : Int32) : Option (Int32 × qMem) :=
  some (x1, (qmu σ 0 16 (0 : Int32)))
def p_C_sheet (f : Nat) (σ : qMem) (x1 : Int32) (x2 : Int32) (x3 : Int32) : Option (Int32 × qMem) :=
  (p_Sheets_noSuch f σ x1).bind fun u1 =>
  if u1 = 0 then
    (p_C_outside f σ x2 (0 : Int32) (2 : Int32)).bind fun u3 =>
    if u3 = 0 then
      if x3 ≤ (60 : Int32) then
        if 0 ≤ x3 then
          (p_Sheets_make f σ x1 x2 x3).bind fun u5 =>
          (p_C_foundNothing f u5 x3).bind fun u7 =>
          some (u7.1, u7.2)
        else
          (p_C_found f σ (4 : Int32)).bind fun u9 =>
          some (u9.1, u9.2)
      else
        some ((-1000001 : Int32), σ)
    else
      some ((-1000001 : Int32), σ)
  else
    some ((-1000001 : Int32), σ)
def p_Sheets_missing (f : Nat) (σ : qMem) (x1 : Int32) : Option (Int32) :=
  if qin x1 8 = true then
  if (σ 2 (qi x1)) = (-1 : Int32) then
    some (1 : Int32)
  else
    some (0 : Int32)
  else none
def p_Sheets_holds (f : Nat) (σ : qMem) (x1 : Int32) (x2 : Int32) (x3 : Int32) : Option (Int32) :=
  if x2 < 0 then
    some (0 : Int32)
  else
    if x3 < 0 then
      some (0 : Int32)
    else
      if qin x1 8 = true then
      if (σ 3 (qi x1)) < x2 then
        some (0 : Int32)
      else
        if qin x1 8 = true then
        if ((σ 3 (qi x1)) - x2) < x3 then
          some (0 : Int32)
        else
          some (1 : Int32)
        else none
      else none
def p_Sheets_lowestBits (f : Nat) (σ : qMem) (x0 : Int32) (x1 : Int32) : Option (Int32) :=
  if x0 = 0 then
    some (x1).toInt8.toInt32
  else
    if x0 = (1 : Int32) then
      some (x1).toInt16.toInt32
    else
      some x1
def p_Sheets_put (f : Nat) (σ : qMem) (x1 : Int32) (x2 : Int32) (x3 : Int32) : Option (Int32 × qMem) :=
  if qin x1 8 = true then
  if qin x1 8 = true then
  (p_Sheets_lowestBits f σ (σ 2 (qi x1)) x3).bind fun u3 =>
  if qin x2 60 = true then
  if qin x1 8 = true then
  if qin x2 60 = true then
  some (((qmu σ (5 + qi x1) (qi x2) u3) (5 + qi x1) (qi x2)), (qmu σ (5 + qi x1) (qi x2) u3))
  else none
  else none
  else none
  else none
  else none
def p_C_set (f : Nat) (σ : qMem) (x1 : Int32) (x2 : Int32) (x3 : Int32) : Option (Int32 × qMem) :=
  (p_Sheets_noSuch f σ x1).bind fun u1 =>
  if u1 = 0 then
    (p_Sheets_missing f σ x1).bind fun u3 =>
    if u3 = 0 then
      (p_Sheets_holds f σ x1 x2 (1 : Int32)).bind fun u5 =>
      if u5 = 0 then
        (p_C_found f σ (2 : Int32)).bind fun u11 =>
        some (u11.1, u11.2)
      else
        (p_Sheets_put f σ x1 x2 x3).bind fun u7 =>
        (p_C_foundNothing f u7.2 u7.1).bind fun u9 =>
        some (u9.1, u9.2)
    else
      (p_C_found f σ (1 : Int32)).bind fun u13 =>
      some (u13.1, u13.2)
  else
    some ((-1000001 : Int32), σ)
def p_Sheets_alike (f : Nat) (σ : qMem) (x1 : Int32) (x2 : Int32) : Option (Int32) :=
  if qin x1 8 = true then
  if qin x2 8 = true then
  if (σ 2 (qi x1)) = (σ 2 (qi x2)) then
    some (1 : Int32)
  else
    some (0 : Int32)
  else none
  else none
def p_Sheets_move (f : Nat) (σ : qMem) (x1 : Int32) (x2 : Int32) (x3 : Int32) (x4 : Int32) (x5 : Int32) : Option (qMem) :=
  if qin x1 8 = true then
  if qin x3 8 = true then
  if qcg x2 x4 x5 60 60 = true then
  some (qcp σ (5 + qi x1) (qi x2) (5 + qi x3) (qi x4) (qi x5))
  else none
  else none
  else none
def p_C_copy_b39 (f : Nat) (σ : qMem) : Option (Int32 × qMem) :=
  (p_C_found f σ (1 : Int32)).bind fun u1 =>
  some (u1.1, u1.2)
def p_C_copy_b92 (f : Nat) (σ : qMem) : Option (Int32 × qMem) :=
  (p_C_found f σ (2 : Int32)).bind fun u3 =>
  some (u3.1, u3.2)
def p_C_copy (f : Nat) (σ : qMem) (x1 : Int32) (x2 : Int32) (x3 : Int32) (x4 : Int32) (x5 : Int32) : Option (Int32 × qMem) :=
  (p_Sheets_noSuch f σ x1).bind fun u5 =>
  if u5 = 0 then
    (p_Sheets_noSuch f σ x3).bind fun u7 =>
    if u7 = 0 then
      (p_Sheets_missing f σ x1).bind fun u9 =>
      if u9 = 0 then
        (p_Sheets_missing f σ x3).bind fun u11 =>
        if u11 = 0 then
          (p_Sheets_alike f σ x1 x3).bind fun u13 =>
          if u13 = 0 then
            (p_C_found f σ (5 : Int32)).bind fun u23 =>
            some (u23.1, u23.2)
          else
            (p_Sheets_holds f σ x1 x2 x5).bind fun u15 =>
            if u15 = 0 then
              p_C_copy_b92 f σ
            else
              (p_Sheets_holds f σ x3 x4 x5).bind fun u17 =>
              if u17 = 0 then
                p_C_copy_b92 f σ
              else
                (p_Sheets_move f σ x1 x2 x3 x4 x5).bind fun u19 =>
                (p_C_foundNothing f u19 x5).bind fun u21 =>
                some (u21.1, u21.2)
        else
          p_C_copy_b39 f σ
      else
        p_C_copy_b39 f σ
    else
      some ((-1000001 : Int32), σ)
  else
    some ((-1000001 : Int32), σ)
def p_Sheets_remove (f : Nat) (σ : qMem) (x1 : Int32) : Option (Int32 × qMem) :=
  if qin x1 8 = true then
  if qin x1 8 = true then
  some (((qmu σ 2 (qi x1) (-1 : Int32)) 3 (qi x1)), (qmu σ 2 (qi x1) (-1 : Int32)))
  else none
  else none
def p_C_drop (f : Nat) (σ : qMem) (x1 : Int32) : Option (Int32 × qMem) :=
  (p_Sheets_noSuch f σ x1).bind fun u1 =>
  if u1 = 0 then
    (p_Sheets_missing f σ x1).bind fun u3 =>
    if u3 = 0 then
      (p_Sheets_remove f σ x1).bind fun u5 =>
      (p_C_foundNothing f u5.2 u5.1).bind fun u7 =>
      some (u7.1, u7.2)
    else
      (p_C_found f σ (1 : Int32)).bind fun u9 =>
      some (u9.1, u9.2)
  else
    some ((-1000001 : Int32), σ)
def p_Deeds_take_l20 (f : Nat) (x1 : Int64) (k20 : qMem → Int32 → Option (Int32 × qMem)) (σ : qMem) (x4 : Int32) : Option (Int32 × qMem) :=
  if x4 < 0 then
    some ((σ 27 1), σ)
  else
    if qin (σ 27 1) 500 = true then
    k20 (qmu (qmu σ 28 (qi (σ 27 1)) (vp_nar .byte ((((x1 >>> ((((8 : Int32) * x4)).toInt64 &&& 63))).toInt32).toInt8.toInt32))) 27 1 (((qmu σ 28 (qi (σ 27 1)) (vp_nar .byte ((((x1 >>> ((((8 : Int32) * x4)).toInt64 &&& 63))).toInt32).toInt8.toInt32))) 27 1) + (1 : Int32))) (x4 + (-1 : Int32))
    else none
def p_Deeds_take (f : Nat) (σ : qMem) (x1 : Int64) (x3 : Int32) : Option (Int32 × qMem) :=
  if x3 ≤ ((500 : Int32) - (σ 27 1)) then
    qfix2 (p_Deeds_take_l20 f x1 ) f σ (x3 - (1 : Int32))
  else
    some ((-1000003 : Int32), σ)
def p_C_feed (f : Nat) (σ : qMem) (x1 : Int64) (x3 : Int32) : Option (Int32 × qMem) :=
  (p_C_outside f σ x3 (1 : Int32) (8 : Int32)).bind fun u1 =>
  if u1 = 0 then
    (p_Deeds_take f σ x1 x3).bind fun u3 =>
    some (u3.1, u3.2)
  else
    some ((-1000001 : Int32), σ)
def p_Promises_size (f : Nat) (σ : qMem) : Option (Int32) :=
  some (σ 13 1)
def p_Deeds_letter (f : Nat) (σ : qMem) (x1 : Int32) : Option (Int32) :=
  if qin x1 500 = true then
  if (σ 28 (qi x1)) < (97 : Int32) then
    some (0 : Int32)
  else
    if qin x1 500 = true then
    if (122 : Int32) < (σ 28 (qi x1)) then
      some (0 : Int32)
    else
      some (1 : Int32)
    else none
  else none
def p_Deeds_figure (f : Nat) (σ : qMem) (x1 : Int32) : Option (Int32) :=
  if qin x1 500 = true then
  if (σ 28 (qi x1)) < (48 : Int32) then
    some (0 : Int32)
  else
    if qin x1 500 = true then
    if (57 : Int32) < (σ 28 (qi x1)) then
      some (0 : Int32)
    else
      some (1 : Int32)
    else none
  else none
def p_Deeds_nextToken_l75 (f : Nat) (σ : qMem) (k75 : Int32 → Option (qMem)) (x1 : Int32) : Option (qMem) :=
  if (σ 27 1) ≤ x1 then
    some (qmu σ 27 5 x1)
  else
    (p_Deeds_letter f σ x1).bind fun u1 =>
    if u1 = 0 then
      some (qmu σ 27 5 x1)
    else
      k75 (x1 + (1 : Int32))
def p_Deeds_nextToken_b127 (f : Nat) (σ : qMem) (x1 : Int32) : Option (qMem) :=
  if (5 : Int32) < (x1 - (σ 27 4)) then
    some (qmu (qmu σ 27 3 (4 : Int32)) 27 5 x1)
  else
    some (qmu (qmu σ 27 3 (2 : Int32)) 27 5 x1)
def p_Deeds_nextToken_l105 (f : Nat) (σ : qMem) (k105 : Int32 → Option (qMem)) (x1 : Int32) : Option (qMem) :=
  if (σ 27 1) ≤ x1 then
    p_Deeds_nextToken_b127 f σ x1
  else
    (p_Deeds_figure f σ x1).bind fun u3 =>
    if u3 = 0 then
      p_Deeds_nextToken_b127 f σ x1
    else
      k105 (x1 + (1 : Int32))
def p_Deeds_nextToken_b41 (f : Nat) (σ : qMem) (x1 : Int32) : Option (qMem) :=
  if x1 < ((qmu σ 27 4 x1) 27 1) then
    (p_Deeds_letter f (qmu σ 27 4 x1) x1).bind fun u5 =>
    if u5 = 0 then
      (p_Deeds_figure f (qmu σ 27 4 x1) x1).bind fun u7 =>
      if u7 = 0 then
        if qin x1 500 = true then
        if ((qmu σ 27 4 x1) 28 (qi x1)) = (59 : Int32) then
          some (qmu (qmu (qmu σ 27 4 x1) 27 3 (3 : Int32)) 27 5 (x1 + (1 : Int32)))
        else
          some (qmu (qmu (qmu σ 27 4 x1) 27 3 (4 : Int32)) 27 5 (x1 + (1 : Int32)))
        else none
      else
        qfix1 (p_Deeds_nextToken_l105 f (qmu σ 27 4 x1) ) f x1
    else
      qfix1 (p_Deeds_nextToken_l75 f (qmu (qmu σ 27 4 x1) 27 3 (1 : Int32)) ) f x1
  else
    some (qmu (qmu (qmu σ 27 4 x1) 27 3 (0 : Int32)) 27 5 x1)
def p_Deeds_nextToken_l5 (f : Nat) (σ : qMem) (k5 : Int32 → Option (qMem)) (x1 : Int32) : Option (qMem) :=
  if (σ 27 1) ≤ x1 then
    p_Deeds_nextToken_b41 f σ x1
  else
    if qin x1 500 = true then
    if (σ 28 (qi x1)) = (32 : Int32) then
      k5 (x1 + (1 : Int32))
    else
      if qin x1 500 = true then
      if (σ 28 (qi x1)) = (10 : Int32) then
        k5 (x1 + (1 : Int32))
      else
        p_Deeds_nextToken_b41 f σ x1
      else none
    else none
def p_Deeds_nextToken (f : Nat) (σ : qMem) : Option (qMem) :=
  qfix1 (p_Deeds_nextToken_l5 f σ ) f (σ 27 5)
def p_Deeds_spells_l28 (f : Nat) (σ : qMem) (x1 : Nat) (k28 : Int32 → Option (Int32)) (x2 : Int32) : Option (Int32) :=
  (p_St_length f σ x1).bind fun u1 =>
  if u1 ≤ x2 then
    some (1 : Int32)
  else
    if qin ((σ 27 4) + x2) 500 = true then
    (p_St_charAt f σ x1 x2).bind fun u4 =>
    if (σ 28 (qi ((σ 27 4) + x2))) = u4 then
      k28 (x2 + (1 : Int32))
    else
      some (0 : Int32)
    else none
def p_Deeds_spells (f : Nat) (σ : qMem) (x1 : Nat) : Option (Int32) :=
  if (σ 27 3) = (1 : Int32) then
    (p_St_length f σ x1).bind fun u6 =>
    if ((σ 27 5) - (σ 27 4)) = u6 then
      qfix1 (p_Deeds_spells_l28 f σ x1 ) f (0 : Int32)
    else
      some (0 : Int32)
  else
    some (0 : Int32)
def p_Promises_begin (f : Nat) (σ : qMem) (x1 : Int32) (x2 : Int32) : Option (qMem) :=
  if qin x1 12 = true then
  (p_Ar_fill f σ (15 + qi x1) 11 (0 : Int32)).bind fun u2 =>
  if qin x1 12 = true then
  if x2 = 0 then
    if qin (0 : Int32) 11 = true then
    if qin x1 12 = true then
    if x2 = 0 then
      if qin (4 : Int32) 11 = true then
      if qin x1 12 = true then
      if qin (6 : Int32) 11 = true then
      some (qmu (qmu (qmu u2 (15 + qi x1) (qi (0 : Int32)) (0 : Int32)) (15 + qi x1) (qi (4 : Int32)) (1 : Int32)) (15 + qi x1) (qi (6 : Int32)) (9999 : Int32))
      else none
      else none
      else none
    else
      if qin (4 : Int32) 11 = true then
      if qin x1 12 = true then
      if qin (6 : Int32) 11 = true then
      some (qmu (qmu (qmu u2 (15 + qi x1) (qi (0 : Int32)) (0 : Int32)) (15 + qi x1) (qi (4 : Int32)) (360 : Int32)) (15 + qi x1) (qi (6 : Int32)) (9999 : Int32))
      else none
      else none
      else none
    else none
    else none
  else
    if qin (0 : Int32) 11 = true then
    if qin x1 12 = true then
    if x2 = 0 then
      if qin (4 : Int32) 11 = true then
      if qin x1 12 = true then
      if qin (6 : Int32) 11 = true then
      some (qmu (qmu (qmu u2 (15 + qi x1) (qi (0 : Int32)) (1 : Int32)) (15 + qi x1) (qi (4 : Int32)) (1 : Int32)) (15 + qi x1) (qi (6 : Int32)) (9999 : Int32))
      else none
      else none
      else none
    else
      if qin (4 : Int32) 11 = true then
      if qin x1 12 = true then
      if qin (6 : Int32) 11 = true then
      some (qmu (qmu (qmu u2 (15 + qi x1) (qi (0 : Int32)) (1 : Int32)) (15 + qi x1) (qi (4 : Int32)) (360 : Int32)) (15 + qi x1) (qi (6 : Int32)) (9999 : Int32))
      else none
      else none
      else none
    else none
    else none
  else none
  else none
def p_Deeds_wordFor (f : Nat) (σ : qMem) (x0 : Int32) : Option (Nat) :=
  if x0 = (1 : Int32) then
    some 2
  else if x0 = (2 : Int32) then
    some 3
  else if x0 = (3 : Int32) then
    some 4
  else if x0 = (4 : Int32) then
    some 5
  else if x0 = (5 : Int32) then
    some 6
  else if x0 = (6 : Int32) then
    some 7
  else if x0 = (7 : Int32) then
    some 8
  else if x0 = (8 : Int32) then
    some 9
  else if x0 = (9 : Int32) then
    some 10
  else
    some 11
def p_Deeds_termSpelt_l2 (f : Nat) (σ : qMem) (k2 : Int32 → Option (Int32)) (x1 : Int32) : Option (Int32) :=
  if (11 : Int32) ≤ x1 then
    some (-1000000 : Int32)
  else
    (p_Deeds_wordFor f σ x1).bind fun u1 =>
    (p_Deeds_spells f σ u1).bind fun u3 =>
    if u3 = 0 then
      k2 (x1 + (1 : Int32))
    else
      some x1
def p_Deeds_termSpelt (f : Nat) (σ : qMem) : Option (Int32) :=
  qfix1 (p_Deeds_termSpelt_l2 f σ ) f (1 : Int32)
def p_Deeds_numberRead_l7 (f : Nat) (σ : qMem) (k7 : Int32 → Int32 → Option (Int32)) (x1 : Int32) (x2 : Int32) : Option (Int32) :=
  if (σ 27 5) ≤ x2 then
    some x1
  else
    if qin x2 500 = true then
    k7 ((((10 : Int32) * x1) + (σ 28 (qi x2))) - (48 : Int32)) (x2 + (1 : Int32))
    else none
def p_Deeds_numberRead (f : Nat) (σ : qMem) : Option (Int32) :=
  qfix2 (p_Deeds_numberRead_l7 f σ ) f (0 : Int32) (σ 27 4)
def p_Promises_tell (f : Nat) (σ : qMem) (x1 : Int32) (x2 : Int32) (x3 : Int32) : Option (qMem) :=
  if qin x1 12 = true then
  if qin x2 11 = true then
  some (qmu σ (15 + qi x1) (qi x2) x3)
  else none
  else none
def p_Deeds_readTerm (f : Nat) (σ : qMem) (x2 : Int32) : Option (Int32 × qMem) :=
  (p_Deeds_termSpelt f σ).bind fun u1 =>
  if u1 = (-1000000 : Int32) then
    some ((1 : Int32), σ)
  else
    (p_Deeds_nextToken f σ).bind fun u3 =>
    if (u3 27 3) = (2 : Int32) then
      (p_Deeds_numberRead f u3).bind fun u5 =>
      if qin u1 11 = true then
      if qin u1 11 = true then
      (p_C_outside f u3 u5 (qLeast.getD (qi u1) 0) (qMost.getD (qi u1) 0)).bind fun u9 =>
      if u9 = 0 then
        (p_Promises_tell f u3 x2 u1 u5).bind fun u11 =>
        (p_Deeds_nextToken f u11).bind fun u13 =>
        some ((0 : Int32), u13)
      else
        some ((2 : Int32), u3)
      else none
      else none
    else
      some ((1 : Int32), u3)
def p_Deeds_readDeed_b86 (f : Nat) (σ : qMem) (x4 : Int32) : Option (Int32 × qMem) :=
  if x4 = 0 then
    (p_Deeds_nextToken f σ).bind fun u1 =>
    some (x4, u1)
  else
    some (x4, σ)
def p_Deeds_readDeed_l51 (f : Nat) (x2 : Int32) (k51 : qMem → Int32 → Int32 → Option (Int32 × qMem)) (σ : qMem) (x4 : Int32) (x5 : Int32) : Option (Int32 × qMem) :=
  if (500 : Int32) < x5 then
    p_Deeds_readDeed_b86 f σ x4
  else
    if x4 = 0 then
      if (σ 27 3) = (3 : Int32) then
        p_Deeds_readDeed_b86 f σ x4
      else
        (p_Deeds_readTerm f σ x2).bind fun u3 =>
        k51 u3.2 u3.1 (x5 + (1 : Int32))
    else
      p_Deeds_readDeed_b86 f σ x4
def p_Deeds_readDeed_b22 (f : Nat) (σ : qMem) (x2 : Int32) (x3 : Int32) : Option (Int32 × qMem) :=
  if x2 < (12 : Int32) then
    (p_Promises_begin f σ x2 x3).bind fun u5 =>
    (p_Deeds_nextToken f u5).bind fun u7 =>
    (p_Deeds_readTerm f u7 x2).bind fun u9 =>
    qfix3 (p_Deeds_readDeed_l51 f x2 ) f u9.2 u9.1 (1 : Int32)
  else
    some ((3 : Int32), σ)
def p_Deeds_readDeed (f : Nat) (σ : qMem) (x2 : Int32) : Option (Int32 × qMem) :=
  (p_Deeds_spells f σ 0).bind fun u11 =>
  if u11 = 0 then
    (p_Deeds_spells f σ 1).bind fun u13 =>
    if u13 = 0 then
      some ((1 : Int32), σ)
    else
      p_Deeds_readDeed_b22 f σ x2 u11
  else
    p_Deeds_readDeed_b22 f σ x2 u11
def p_Promises_keep (f : Nat) (σ : qMem) (x1 : Int32) : Option (qMem) :=
  some (qmu σ 13 1 (if (12 : Int32) < x1 then (12 : Int32) else x1))
def p_Deeds_read_b54 (f : Nat) (σ : qMem) (x2 : Int32) (x3 : Int32) : Option (Int32 × qMem) :=
  if x3 = 0 then
    (p_Promises_keep f (qmu σ 27 1 (0 : Int32)) x2).bind fun u1 =>
    some (x2, u1)
  else
    some (((-1000100 : Int32) - ((qmu (qmu σ 27 1 (0 : Int32)) 27 2 x3) 27 4)), (qmu (qmu σ 27 1 (0 : Int32)) 27 2 x3))
def p_Deeds_read_l19 (f : Nat) (k19 : qMem → Int32 → Int32 → Int32 → Option (Int32 × qMem)) (σ : qMem) (x2 : Int32) (x3 : Int32) (x4 : Int32) : Option (Int32 × qMem) :=
  if (500 : Int32) < x4 then
    p_Deeds_read_b54 f σ x2 x3
  else
    if x3 = 0 then
      if (σ 27 3) = 0 then
        p_Deeds_read_b54 f σ x2 x3
      else
        (p_Deeds_readDeed f σ x2).bind fun u3 =>
        k19 u3.2 (x2 + (1 : Int32)) u3.1 (x4 + (1 : Int32))
    else
      p_Deeds_read_b54 f σ x2 x3
def p_Deeds_read (f : Nat) (σ : qMem) : Option (Int32 × qMem) :=
  (p_Promises_size f σ).bind fun u5 =>
  (p_Deeds_nextToken f (qmu σ 27 5 (0 : Int32))).bind fun u7 =>
  qfix4 (p_Deeds_read_l19 f ) f u7 u5 (0 : Int32) (0 : Int32)
def p_C_deeds (f : Nat) (σ : qMem) : Option (Int32 × qMem) :=
  (p_Deeds_read f σ).bind fun u1 =>
  some (u1.1, u1.2)
def p_Deeds_latestFault (f : Nat) (σ : qMem) : Option (Int32) :=
  some (σ 27 2)
def p_C_fault (f : Nat) (σ : qMem) : Option (Int32) :=
  (p_Deeds_latestFault f σ).bind fun u1 =>
  some u1
def p_Promises_has (f : Nat) (σ : qMem) (x1 : Int32) : Option (Int32) :=
  if x1 < 0 then
    some (0 : Int32)
  else
    if (σ 13 1) ≤ x1 then
      some (0 : Int32)
    else
      some (1 : Int32)
def p_Promises_of (f : Nat) (σ : qMem) (x1 : Int32) (x2 : Int32) : Option (Int32) :=
  if qin x1 12 = true then
  if qin x2 11 = true then
  some (σ (15 + qi x1) (qi x2))
  else none
  else none
def p_C_told (f : Nat) (σ : qMem) (x1 : Int32) (x2 : Int32) : Option (Int32) :=
  (p_Promises_has f σ x1).bind fun u1 =>
  if u1 = 0 then
    some (-1000001 : Int32)
  else
    (p_C_outside f σ x2 (0 : Int32) (10 : Int32)).bind fun u3 =>
    if u3 = 0 then
      (p_Promises_of f σ x1 x2).bind fun u5 =>
      some u5
    else
      some (-1000001 : Int32)
def p_C_noDay (f : Nat) (σ : qMem) (x0 : Int32) : Option (Int32) :=
  (p_C_outside f σ x0 (0 : Int32) (9999 : Int32)).bind fun u1 =>
  some (vp_nar .boolean u1)
def p_Feasts_full (f : Nat) (σ : qMem) : Option (Int32) :=
  if (σ 29 3) < (30 : Int32) then
    some (0 : Int32)
  else
    some (1 : Int32)
def p_Feasts_insert_l6 (f : Nat) (x1 : Int32) (x2 : Int32) (x3 : Int32) (k6 : qMem → Int32 → Option (qMem)) (σ : qMem) (x4 : Int32) : Option (qMem) :=
  if x4 ≤ x1 then
    if qin x1 30 = true then
    if qin x1 30 = true then
    some (qmu (qmu (qmu σ 30 (qi x1) x2) 31 (qi x1) x3) 29 2 (((qmu (qmu σ 30 (qi x1) x2) 31 (qi x1) x3) 29 2) + (1 : Int32)))
    else none
    else none
  else
    if qin (x4 - (1 : Int32)) 30 = true then
    if qin x4 30 = true then
    if qin (x4 - (1 : Int32)) 30 = true then
    if qin x4 30 = true then
    k6 (qmu (qmu σ 30 (qi x4) (σ 30 (qi (x4 - (1 : Int32))))) 31 (qi x4) ((qmu σ 30 (qi x4) (σ 30 (qi (x4 - (1 : Int32))))) 31 (qi (x4 - (1 : Int32))))) (x4 + (-1 : Int32))
    else none
    else none
    else none
    else none
def p_Feasts_insert (f : Nat) (σ : qMem) (x1 : Int32) (x2 : Int32) (x3 : Int32) : Option (qMem) :=
  qfix2 (p_Feasts_insert_l6 f x1 x2 x3 ) f σ (σ 29 2)
def p_Feasts_add_b73 (f : Nat) (σ : qMem) (x1 : Int32) (x2 : Int32) (x3 : Int32) : Option (Int32 × qMem) :=
  (p_Feasts_insert f σ x3 x1 x2).bind fun u1 =>
  some ((u1 29 3), u1)
def p_Feasts_add_b36 (f : Nat) (σ : qMem) (x1 : Int32) (x2 : Int32) (x3 : Int32) : Option (Int32 × qMem) :=
  if (σ 29 2) ≤ x3 then
    p_Feasts_add_b73 f σ x1 x2 x3
  else
    if qin x3 30 = true then
    if (σ 30 (qi x3)) = x1 then
      if qin x3 30 = true then
      if qin x3 30 = true then
      some (((qmu σ 31 (qi x3) (if (σ 31 (qi x3)) < x2 then x2 else (σ 31 (qi x3)))) 29 3), (qmu σ 31 (qi x3) (if (σ 31 (qi x3)) < x2 then x2 else (σ 31 (qi x3)))))
      else none
      else none
    else
      p_Feasts_add_b73 f σ x1 x2 x3
    else none
def p_Feasts_add_l12 (f : Nat) (σ : qMem) (x1 : Int32) (x2 : Int32) (k12 : Int32 → Option (Int32 × qMem)) (x3 : Int32) : Option (Int32 × qMem) :=
  if (σ 29 2) ≤ x3 then
    p_Feasts_add_b36 f σ x1 x2 x3
  else
    if qin x3 30 = true then
    if x1 ≤ (σ 30 (qi x3)) then
      p_Feasts_add_b36 f σ x1 x2 x3
    else
      k12 (x3 + (1 : Int32))
    else none
def p_Feasts_add (f : Nat) (σ : qMem) (x1 : Int32) (x2 : Int32) : Option (Int32 × qMem) :=
  qfix1 (p_Feasts_add_l12 f (qmu σ 29 3 ((σ 29 3) + (1 : Int32))) x1 x2 ) f (0 : Int32)
def p_C_feast (f : Nat) (σ : qMem) (x1 : Int32) (x2 : Int32) : Option (Int32 × qMem) :=
  (p_C_noDay f σ x1).bind fun u1 =>
  if u1 = 0 then
    (p_C_outside f σ x2 (1 : Int32) (2 : Int32)).bind fun u3 =>
    if u3 = 0 then
      (p_Feasts_full f σ).bind fun u5 =>
      if u5 = 0 then
        (p_Feasts_add f σ x1 x2).bind fun u7 =>
        some (u7.1, u7.2)
      else
        some ((-1000003 : Int32), σ)
    else
      some ((-1000001 : Int32), σ)
  else
    some ((-1000001 : Int32), σ)
def p_Feasts_dayBehind_l13 (f : Nat) (σ : qMem) (k13 : Int32 → Int32 → Option (Int32)) (x2 : Int32) (x3 : Int32) : Option (Int32) :=
  if (σ 29 2) ≤ x3 then
    some x2
  else
    if qin x3 30 = true then
    if (σ 30 (qi x3)) = x2 then
      k13 (x2 + (1 : Int32)) (x3 + (1 : Int32))
    else
      some x2
    else none
def p_Feasts_dayBehind (f : Nat) (σ : qMem) (x1 : Int32) : Option (Int32) :=
  if qin x1 30 = true then
  qfix2 (p_Feasts_dayBehind_l13 f σ ) f ((σ 30 (qi x1)) + (1 : Int32)) (x1 + (1 : Int32))
  else none
def p_Feasts_wantedTill_b114 (f : Nat) (k34 : Int32 → Int32 → Option (Int32)) (σ : qMem) (x1 : Int32) (x3 : Int32) (x4 : Int32) (x5 : Int32) (x6 : Int32) (x7 : Int32) (x8 : Int32) (s0 : Int32) : Option (Int32) :=
  if x8 = 0 then
    k34 x6 (x7 + (1 : Int32))
  else
    if s0 = 0 then
      k34 (x6 + (-1 : Int32)) (x7 + (1 : Int32))
    else
      k34 x6 (x7 + (1 : Int32))
def p_Feasts_wantedTill_b113 (f : Nat) (k34 : Int32 → Int32 → Option (Int32)) (σ : qMem) (x1 : Int32) (x3 : Int32) (x4 : Int32) (x5 : Int32) (x6 : Int32) (x7 : Int32) (x8 : Int32) : Option (Int32) :=
  p_Feasts_wantedTill_b114 f k34 σ x1 x3 x4 x5 x6 x7 x8 (0 : Int32)
def p_Feasts_wantedTill_b85 (f : Nat) (k34 : Int32 → Int32 → Option (Int32)) (σ : qMem) (x1 : Int32) (x3 : Int32) (x4 : Int32) (x5 : Int32) (x6 : Int32) (x7 : Int32) (s0 : Int32) : Option (Int32) :=
  if qin x7 30 = true then
  if (σ 31 (qi x7)) = (1 : Int32) then
    (p_Feasts_dayBehind f σ x7).bind fun u2 =>
    if x4 < u2 then
      p_Feasts_wantedTill_b113 f k34 σ x1 x3 x4 x5 x6 x7 s0
    else
      p_Feasts_wantedTill_b114 f k34 σ x1 x3 x4 x5 x6 x7 s0 (1 : Int32)
  else
    p_Feasts_wantedTill_b113 f k34 σ x1 x3 x4 x5 x6 x7 s0
  else none
def p_Feasts_wantedTill_b84 (f : Nat) (k34 : Int32 → Int32 → Option (Int32)) (σ : qMem) (x1 : Int32) (x3 : Int32) (x4 : Int32) (x5 : Int32) (x6 : Int32) (x7 : Int32) : Option (Int32) :=
  p_Feasts_wantedTill_b85 f k34 σ x1 x3 x4 x5 x6 x7 (0 : Int32)
def p_Feasts_wantedTill_l34 (f : Nat) (σ : qMem) (x1 : Int32) (x3 : Int32) (x4 : Int32) (x5 : Int32) (k34 : Int32 → Int32 → Option (Int32)) (x6 : Int32) (x7 : Int32) : Option (Int32) :=
  if (σ 29 2) ≤ x7 then
    some x6
  else
    if qin x7 30 = true then
    if x5 < (σ 30 (qi x7)) then
      some x6
    else
      if qin x7 30 = true then
      if (σ 30 (qi x7)) < x1 then
        p_Feasts_wantedTill_b84 f k34 σ x1 x3 x4 x5 x6 x7
      else
        if qin x7 30 = true then
        if x3 = 0 then none else
        if (((σ 30 (qi x7)) - x1) - ((σ 30 (qi x7)) - x1) / x3 * x3) = 0 then
          p_Feasts_wantedTill_b85 f k34 σ x1 x3 x4 x5 x6 x7 (1 : Int32)
        else
          p_Feasts_wantedTill_b84 f k34 σ x1 x3 x4 x5 x6 x7
        else none
      else none
    else none
def p_Feasts_wantedTill (f : Nat) (σ : qMem) (x1 : Int32) (x2 : Int32) (x3 : Int32) (x4 : Int32) : Option (Int32) :=
  if x3 < (1 : Int32) then
    some (0 : Int32)
  else
    if x1 ≤ (if x4 < x2 then x4 else x2) then
      if x3 = 0 then none else
      qfix2 (p_Feasts_wantedTill_l34 f σ x1 x3 x4 (if x4 < x2 then x4 else x2) ) f ((((if x4 < x2 then x4 else x2) - x1) / x3) + (1 : Int32)) (0 : Int32)
    else
      some (0 : Int32)
def p_C_wantedTill (f : Nat) (σ : qMem) (x1 : Int32) (x2 : Int32) : Option (Int32) :=
  (p_Promises_of f σ x1 (5 : Int32)).bind fun u1 =>
  (p_Promises_of f σ x1 (6 : Int32)).bind fun u3 =>
  (p_Promises_of f σ x1 (4 : Int32)).bind fun u5 =>
  (p_Feasts_wantedTill f σ u1 u3 u5 x2).bind fun u7 =>
  some u7
def p_Joins_has (f : Nat) (σ : qMem) (x1 : Int32) (x2 : Int32) : Option (Int32) :=
  if qin x1 10 = true then
  if (σ 49 (qi x1)) = x2 then
    some (1 : Int32)
  else
    if qin x1 10 = true then
    if (σ 50 (qi x1)) = x2 then
      some (1 : Int32)
    else
      some (0 : Int32)
    else none
  else none
def p_Joins_otherOf_l2 (f : Nat) (σ : qMem) (x1 : Int32) (x2 : Int32) (k2 : Int32 → Option (Int32)) (x3 : Int32) : Option (Int32) :=
  if (σ 48 4) ≤ x3 then
    some (-1000000 : Int32)
  else
    (p_Joins_has f σ x3 x1).bind fun u1 =>
    if u1 = 0 then
      k2 (x3 + (1 : Int32))
    else
      if qin x3 10 = true then
      if x2 < (σ 51 (qi x3)) then
        k2 (x3 + (1 : Int32))
      else
        if qin x3 10 = true then
        if (σ 52 (qi x3)) ≤ x2 then
          k2 (x3 + (1 : Int32))
        else
          if qin x3 10 = true then
          if (σ 49 (qi x3)) = x1 then
            if qin x3 10 = true then
            some (σ 50 (qi x3))
            else none
          else
            if qin x3 10 = true then
            some (σ 49 (qi x3))
            else none
          else none
        else none
      else none
def p_Joins_otherOf (f : Nat) (σ : qMem) (x1 : Int32) (x2 : Int32) : Option (Int32) :=
  qfix1 (p_Joins_otherOf_l2 f σ x1 x2 ) f (0 : Int32)
def p_Lines_countTill_l6 (f : Nat) (σ : qMem) (x1 : Int32) (x2 : Int32) (k6 : Int32 → Int32 → Option (Int32)) (x4 : Int32) (x5 : Int32) : Option (Int32) :=
  if (σ 42 9) ≤ x5 then
    some x4
  else
    if qin x5 60 = true then
    if (σ 46 (qi x5)) = 0 then
      k6 x4 (x5 + (1 : Int32))
    else
      if qin x5 60 = true then
      if x2 < (σ 44 (qi x5)) then
        k6 x4 (x5 + (1 : Int32))
      else
        if qin x5 60 = true then
        if (σ 43 (qi x5)) = x1 then
          k6 (x4 + (1 : Int32)) (x5 + (1 : Int32))
        else
          if qin x5 60 = true then
          (p_Joins_otherOf f σ x1 (σ 44 (qi x5))).bind fun u5 =>
          if qin x5 60 = true then
          if u5 = (σ 43 (qi x5)) then
            k6 (x4 + (1 : Int32)) (x5 + (1 : Int32))
          else
            k6 x4 (x5 + (1 : Int32))
          else none
          else none
        else none
      else none
    else none
def p_Lines_countTill (f : Nat) (σ : qMem) (x1 : Int32) (x2 : Int32) : Option (Int32) :=
  qfix2 (p_Lines_countTill_l6 f σ x1 x2 ) f (0 : Int32) (0 : Int32)
def p_C_owedTill (f : Nat) (σ : qMem) (x1 : Int32) (x2 : Int32) : Option (Int32) :=
  (p_C_wantedTill f σ x1 x2).bind fun u1 =>
  (p_Lines_countTill f σ x1 x2).bind fun u3 =>
  some (if (0 : Int32) < (u1 - u3) then (u1 - u3) else (0 : Int32))
def p_C_count (f : Nat) (σ : qMem) (x1 : Int32) (x2 : Int32) (x3 : Int32) : Option (Int32) :=
  (p_Promises_has f σ x1).bind fun u1 =>
  if u1 = 0 then
    some (-1000001 : Int32)
  else
    (p_C_noDay f σ x2).bind fun u3 =>
    if u3 = 0 then
      (p_C_outside f σ x3 (0 : Int32) (2 : Int32)).bind fun u5 =>
      if u5 = 0 then
        if x3 = (0 : Int32) then
          (p_C_wantedTill f σ x1 x2).bind fun u7 =>
          some u7
        else if x3 = (1 : Int32) then
          (p_Lines_countTill f σ x1 x2).bind fun u9 =>
          some u9
        else
          (p_C_owedTill f σ x1 x2).bind fun u11 =>
          some u11
      else
        some (-1000001 : Int32)
    else
      some (-1000001 : Int32)
def p_Promises_isObit (f : Nat) (σ : qMem) (x1 : Int32) : Option (Int32) :=
  if qin x1 12 = true then
  if qin (0 : Int32) 11 = true then
  if (σ (15 + qi x1) (qi (0 : Int32))) = (1 : Int32) then
    some (1 : Int32)
  else
    some (0 : Int32)
  else none
  else none
def p_Acts_takes_b20 (f : Nat) (σ : qMem) (x1 : Int32) (x2 : Int32) (x3 : Int32) (s0 : Int32) : Option (Int32) :=
  if qin x1 10 = true then
  if (σ 38 (qi x1)) < x2 then
    some (0 : Int32)
  else
    if qin x1 10 = true then
    if x3 < (σ 39 (qi x1)) then
      some (0 : Int32)
    else
      if qin x1 10 = true then
      if (σ 40 (qi x1)) < x3 then
        some (0 : Int32)
      else
        if s0 = 0 then
          some (1 : Int32)
        else
          some (0 : Int32)
      else none
    else none
  else none
def p_Acts_takes_b19 (f : Nat) (σ : qMem) (x1 : Int32) (x2 : Int32) (x3 : Int32) : Option (Int32) :=
  p_Acts_takes_b20 f σ x1 x2 x3 (0 : Int32)
def p_Acts_takes (f : Nat) (σ : qMem) (x1 : Int32) (x2 : Int32) (x3 : Int32) (x4 : Int32) : Option (Int32) :=
  if x4 = 0 then
    p_Acts_takes_b19 f σ x1 x2 x3
  else
    if qin x1 10 = true then
    if (σ 41 (qi x1)) = (1 : Int32) then
      p_Acts_takes_b20 f σ x1 x2 x3 (1 : Int32)
    else
      p_Acts_takes_b19 f σ x1 x2 x3
    else none
def p_Acts_dayOfTaking_l37 (f : Nat) (σ : qMem) (x2 : Int32) (x3 : Int32) (x4 : Int32) (k37 : Int32 → Int32 → Option (Int32)) (x5 : Int32) (x6 : Int32) : Option (Int32) :=
  if (σ 37 5) ≤ x6 then
    some x5
  else
    (p_Acts_takes f σ x6 x2 x3 x4).bind fun u1 =>
    if u1 = 0 then
      k37 x5 (x6 + (1 : Int32))
    else
      if x5 = (-1000000 : Int32) then
        if qin x6 10 = true then
        k37 (σ 38 (qi x6)) (x6 + (1 : Int32))
        else none
      else
        if qin x6 10 = true then
        if x5 ≤ (σ 38 (qi x6)) then
          k37 x5 (x6 + (1 : Int32))
        else
          if qin x6 10 = true then
          k37 (σ 38 (qi x6)) (x6 + (1 : Int32))
          else none
        else none
def p_Acts_dayOfTaking (f : Nat) (σ : qMem) (x1 : Int32) : Option (Int32) :=
  (p_Promises_of f σ x1 (5 : Int32)).bind fun u6 =>
  (p_Promises_of f σ x1 (1 : Int32)).bind fun u8 =>
  (p_Promises_isObit f σ x1).bind fun u10 =>
  qfix2 (p_Acts_dayOfTaking_l37 f σ u6 u8 u10 ) f (-1000000 : Int32) (0 : Int32)
def p_Acts_takenBy (f : Nat) (σ : qMem) (x1 : Int32) (x2 : Int32) : Option (Int32) :=
  (p_Acts_dayOfTaking f σ x1).bind fun u1 =>
  if u1 = (-1000000 : Int32) then
    some (0 : Int32)
  else
    if x2 < u1 then
      some (0 : Int32)
    else
      some (1 : Int32)
def p_Acts_ended (f : Nat) (σ : qMem) (x1 : Int32) (x2 : Int32) : Option (Int32) :=
  (p_Promises_of f σ x1 (6 : Int32)).bind fun u1 =>
  if u1 < x2 then
    some (1 : Int32)
  else
    (p_Acts_takenBy f σ x1 x2).bind fun u3 =>
    if u3 = 0 then
      some (0 : Int32)
    else
      some (1 : Int32)
def p_Spans_covers_33_l2 (f : Nat) (σ : qMem) (x1 : Int32) (x2 : Int32) (k2 : Int32 → Option (Int32)) (x3 : Int32) : Option (Int32) :=
  if (σ 33 3) ≤ x3 then
    some (0 : Int32)
  else
    if qin x3 20 = true then
    if (σ 34 (qi x3)) = x1 then
      if qin x3 20 = true then
      if x2 < (σ 35 (qi x3)) then
        k2 (x3 + (1 : Int32))
      else
        if qin x3 20 = true then
        if (σ 36 (qi x3)) < x2 then
          k2 (x3 + (1 : Int32))
        else
          some (1 : Int32)
        else none
      else none
    else
      k2 (x3 + (1 : Int32))
    else none
def p_Spans_covers_33 (f : Nat) (σ : qMem) (x1 : Int32) (x2 : Int32) : Option (Int32) :=
  qfix1 (p_Spans_covers_33_l2 f σ x1 x2 ) f (0 : Int32)
def p_Lines_sameAltar (f : Nat) (σ : qMem) (x1 : Int32) (x2 : Int32) : Option (Int32) :=
  if qin x1 60 = true then
  (p_Promises_of f σ (σ 43 (qi x1)) (2 : Int32)).bind fun u2 =>
  if qin x2 60 = true then
  (p_Promises_of f σ (σ 43 (qi x2)) (2 : Int32)).bind fun u5 =>
  if u2 = u5 then
    some (1 : Int32)
  else
    some (0 : Int32)
  else none
  else none
def p_Lines_standsAt_b196 (f : Nat) (k84 : Int32 → Int32 → Option (Int32)) (σ : qMem) (x2 : Int32) (x4 : Int32) (x5 : Int32) (x6 : Int32) (x7 : Int32) (x8 : Int32) : Option (Int32) :=
  if x8 = 0 then
    k84 (x6 + (0 : Int32)) (x7 + (-1 : Int32))
  else
    k84 (x6 + (1 : Int32)) (x7 + (-1 : Int32))
def p_Lines_standsAt_b151 (f : Nat) (k84 : Int32 → Int32 → Option (Int32)) (σ : qMem) (x2 : Int32) (x4 : Int32) (x5 : Int32) (x6 : Int32) (x7 : Int32) (s0 : Int32) : Option (Int32) :=
  if qin x7 60 = true then
  if qin (σ 47 (qi x7)) 60 = true then
  if qin x2 60 = true then
  if (σ 45 (qi (σ 47 (qi x7)))) = (σ 45 (qi x2)) then
    if s0 = 0 then
      if qin x7 60 = true then
      (p_Lines_sameAltar f σ (σ 47 (qi x7)) x2).bind fun u5 =>
      if u5 = 0 then
        p_Lines_standsAt_b196 f k84 σ x2 x4 x5 x6 x7 s0
      else
        some (0 : Int32)
      else none
    else
      some (0 : Int32)
  else
    p_Lines_standsAt_b196 f k84 σ x2 x4 x5 x6 x7 s0
  else none
  else none
  else none
def p_Lines_standsAt_b217 (f : Nat) (σ : qMem) (x4 : Int32) (x6 : Int32) : Option (Int32) :=
  if qin x4 8 = true then
  if (σ 32 (qi x4)) ≤ x6 then
    some (0 : Int32)
  else
    some (1 : Int32)
  else none
def p_Lines_standsAt_l84 (f : Nat) (σ : qMem) (x2 : Int32) (x4 : Int32) (x5 : Int32) (k84 : Int32 → Int32 → Option (Int32)) (x6 : Int32) (x7 : Int32) : Option (Int32) :=
  if x7 < 0 then
    p_Lines_standsAt_b217 f σ x4 x6
  else
    if qin x7 60 = true then
    if qin (σ 47 (qi x7)) 60 = true then
    if (σ 44 (qi (σ 47 (qi x7)))) = x5 then
      if qin x7 60 = true then
      if qin (σ 47 (qi x7)) 60 = true then
      if (σ 46 (qi (σ 47 (qi x7)))) = 0 then
        k84 x6 (x7 + (-1 : Int32))
      else
        if qin x7 60 = true then
        if qin (σ 47 (qi x7)) 60 = true then
        (p_Promises_of f σ (σ 43 (qi (σ 47 (qi x7)))) (3 : Int32)).bind fun u14 =>
        if u14 = x4 then
          p_Lines_standsAt_b151 f k84 σ x2 x4 x5 x6 x7 (1 : Int32)
        else
          p_Lines_standsAt_b151 f k84 σ x2 x4 x5 x6 x7 (0 : Int32)
        else none
        else none
      else none
      else none
    else
      p_Lines_standsAt_b217 f σ x4 x6
    else none
    else none
def p_Lines_standsAt (f : Nat) (σ : qMem) (x1 : Int32) : Option (Int32) :=
  if qin x1 60 = true then
  if qin (σ 47 (qi x1)) 60 = true then
  (p_Promises_of f σ (σ 43 (qi (σ 47 (qi x1)))) (3 : Int32)).bind fun u18 =>
  if qin (σ 47 (qi x1)) 60 = true then
  (p_Promises_of f σ (σ 43 (qi (σ 47 (qi x1)))) (5 : Int32)).bind fun u21 =>
  if (σ 44 (qi (σ 47 (qi x1)))) < u21 then
    some (0 : Int32)
  else
    (p_Acts_ended f σ (σ 43 (qi (σ 47 (qi x1)))) (σ 44 (qi (σ 47 (qi x1))))).bind fun u23 =>
    if u23 = 0 then
      (p_Spans_covers_33 f σ u18 (σ 44 (qi (σ 47 (qi x1))))).bind fun u25 =>
      if u25 = 0 then
        qfix2 (p_Lines_standsAt_l84 f σ (σ 47 (qi x1)) u18 (σ 44 (qi (σ 47 (qi x1)))) ) f (0 : Int32) (x1 - (1 : Int32))
      else
        some (0 : Int32)
    else
      some (0 : Int32)
  else none
  else none
  else none
def p_Lines_judge_l2 (f : Nat) (k2 : qMem → Int32 → Option (qMem)) (σ : qMem) (x1 : Int32) : Option (qMem) :=
  if (σ 42 9) ≤ x1 then
    some σ
  else
    if qin x1 60 = true then
    (p_Lines_standsAt f σ x1).bind fun u2 =>
    if qin (σ 47 (qi x1)) 60 = true then
    k2 (qmu σ 46 (qi (σ 47 (qi x1))) (vp_nar .boolean u2)) (x1 + (1 : Int32))
    else none
    else none
def p_Lines_judge (f : Nat) (σ : qMem) : Option (qMem) :=
  qfix2 (p_Lines_judge_l2 f ) f σ (0 : Int32)
def p_C_vow (f : Nat) (σ : qMem) (x1 : Int32) (x2 : Int32) : Option (Int32 × qMem) :=
  (p_C_outside f σ x1 (0 : Int32) (7 : Int32)).bind fun u1 =>
  if u1 = 0 then
    (p_C_outside f σ x2 (1 : Int32) (3 : Int32)).bind fun u3 =>
    if u3 = 0 then
      if qin x1 8 = true then
      if qin x1 8 = true then
      (p_Lines_judge f (qmu σ 32 (qi x1) x2)).bind fun u7 =>
      some ((σ 32 (qi x1)), u7)
      else none
      else none
    else
      some ((-1000001 : Int32), σ)
  else
    some ((-1000001 : Int32), σ)
def p_C_noSpan (f : Nat) (σ : qMem) (x0 : Int32) (x1 : Int32) : Option (Int32) :=
  (p_C_noDay f σ x0).bind fun u1 =>
  if u1 = 0 then
    (p_C_outside f σ x1 x0 (9999 : Int32)).bind fun u3 =>
    if u3 = 0 then
      some (0 : Int32)
    else
      some (1 : Int32)
  else
    some (1 : Int32)
def p_Spans_full_33 (f : Nat) (σ : qMem) : Option (Int32) :=
  if (σ 33 3) < (20 : Int32) then
    some (0 : Int32)
  else
    some (1 : Int32)
def p_Spans_full_59 (f : Nat) (σ : qMem) : Option (Int32) :=
  if (σ 59 3) < (20 : Int32) then
    some (0 : Int32)
  else
    some (1 : Int32)
def p_Spans_add_33 (f : Nat) (σ : qMem) (x1 : Int32) (x2 : Int32) (x3 : Int32) : Option (Int32 × qMem) :=
  if qin (σ 33 3) 20 = true then
  if qin ((qmu σ 34 (qi (σ 33 3)) x1) 33 3) 20 = true then
  if qin ((qmu (qmu σ 34 (qi (σ 33 3)) x1) 35 (qi ((qmu σ 34 (qi (σ 33 3)) x1) 33 3)) x2) 33 3) 20 = true then
  some (((qmu (qmu (qmu (qmu σ 34 (qi (σ 33 3)) x1) 35 (qi ((qmu σ 34 (qi (σ 33 3)) x1) 33 3)) x2) 36 (qi ((qmu (qmu σ 34 (qi (σ 33 3)) x1) 35 (qi ((qmu σ 34 (qi (σ 33 3)) x1) 33 3)) x2) 33 3)) x3) 33 3 (((qmu (qmu (qmu σ 34 (qi (σ 33 3)) x1) 35 (qi ((qmu σ 34 (qi (σ 33 3)) x1) 33 3)) x2) 36 (qi ((qmu (qmu σ 34 (qi (σ 33 3)) x1) 35 (qi ((qmu σ 34 (qi (σ 33 3)) x1) 33 3)) x2) 33 3)) x3) 33 3) + (1 : Int32))) 33 3), (qmu (qmu (qmu (qmu σ 34 (qi (σ 33 3)) x1) 35 (qi ((qmu σ 34 (qi (σ 33 3)) x1) 33 3)) x2) 36 (qi ((qmu (qmu σ 34 (qi (σ 33 3)) x1) 35 (qi ((qmu σ 34 (qi (σ 33 3)) x1) 33 3)) x2) 33 3)) x3) 33 3 (((qmu (qmu (qmu σ 34 (qi (σ 33 3)) x1) 35 (qi ((qmu σ 34 (qi (σ 33 3)) x1) 33 3)) x2) 36 (qi ((qmu (qmu σ 34 (qi (σ 33 3)) x1) 35 (qi ((qmu σ 34 (qi (σ 33 3)) x1) 33 3)) x2) 33 3)) x3) 33 3) + (1 : Int32))))
  else none
  else none
  else none
def p_Spans_add_59 (f : Nat) (σ : qMem) (x1 : Int32) (x2 : Int32) (x3 : Int32) : Option (Int32 × qMem) :=
  if qin (σ 59 3) 20 = true then
  if qin ((qmu σ 60 (qi (σ 59 3)) x1) 59 3) 20 = true then
  if qin ((qmu (qmu σ 60 (qi (σ 59 3)) x1) 61 (qi ((qmu σ 60 (qi (σ 59 3)) x1) 59 3)) x2) 59 3) 20 = true then
  some (((qmu (qmu (qmu (qmu σ 60 (qi (σ 59 3)) x1) 61 (qi ((qmu σ 60 (qi (σ 59 3)) x1) 59 3)) x2) 62 (qi ((qmu (qmu σ 60 (qi (σ 59 3)) x1) 61 (qi ((qmu σ 60 (qi (σ 59 3)) x1) 59 3)) x2) 59 3)) x3) 59 3 (((qmu (qmu (qmu σ 60 (qi (σ 59 3)) x1) 61 (qi ((qmu σ 60 (qi (σ 59 3)) x1) 59 3)) x2) 62 (qi ((qmu (qmu σ 60 (qi (σ 59 3)) x1) 61 (qi ((qmu σ 60 (qi (σ 59 3)) x1) 59 3)) x2) 59 3)) x3) 59 3) + (1 : Int32))) 59 3), (qmu (qmu (qmu (qmu σ 60 (qi (σ 59 3)) x1) 61 (qi ((qmu σ 60 (qi (σ 59 3)) x1) 59 3)) x2) 62 (qi ((qmu (qmu σ 60 (qi (σ 59 3)) x1) 61 (qi ((qmu σ 60 (qi (σ 59 3)) x1) 59 3)) x2) 59 3)) x3) 59 3 (((qmu (qmu (qmu σ 60 (qi (σ 59 3)) x1) 61 (qi ((qmu σ 60 (qi (σ 59 3)) x1) 59 3)) x2) 62 (qi ((qmu (qmu σ 60 (qi (σ 59 3)) x1) 61 (qi ((qmu σ 60 (qi (σ 59 3)) x1) 59 3)) x2) 59 3)) x3) 59 3) + (1 : Int32))))
  else none
  else none
  else none
def p_C_sick (f : Nat) (σ : qMem) (x1 : Int32) (x2 : Int32) (x3 : Int32) : Option (Int32 × qMem) :=
  (p_C_outside f σ x1 (0 : Int32) (7 : Int32)).bind fun u1 =>
  if u1 = 0 then
    (p_C_noSpan f σ x2 x3).bind fun u3 =>
    if u3 = 0 then
      (p_Spans_full_33 f σ).bind fun u5 =>
      if u5 = 0 then
        (p_Spans_add_33 f σ x1 x2 x3).bind fun u7 =>
        (p_Lines_judge f u7.2).bind fun u9 =>
        some (u7.1, u9)
      else
        some ((-1000003 : Int32), σ)
    else
      some ((-1000001 : Int32), σ)
  else
    some ((-1000001 : Int32), σ)
def p_C_noLine (f : Nat) (σ : qMem) (x1 : Int32) (x2 : Int32) (x3 : Int32) : Option (Int32) :=
  (p_Promises_has f σ x1).bind fun u1 =>
  if u1 = 0 then
    some (1 : Int32)
  else
    (p_C_noDay f σ x2).bind fun u3 =>
    if u3 = 0 then
      (p_C_outside f σ x3 (0 : Int32) (4 : Int32)).bind fun u5 =>
      if u5 = 0 then
        some (0 : Int32)
      else
        some (1 : Int32)
    else
      some (1 : Int32)
def p_Lines_full (f : Nat) (σ : qMem) : Option (Int32) :=
  if (σ 42 9) < (60 : Int32) then
    some (0 : Int32)
  else
    some (1 : Int32)
def p_Lines_isBehind (f : Nat) (σ : qMem) (x1 : Int32) (x2 : Int32) (x3 : Int32) : Option (Int32) :=
  if qin x1 60 = true then
  if x2 < (σ 44 (qi x1)) then
    some (1 : Int32)
  else
    if qin x1 60 = true then
    if (σ 44 (qi x1)) = x2 then
      if qin x1 60 = true then
      if (σ 45 (qi x1)) ≤ x3 then
        some (0 : Int32)
      else
        some (1 : Int32)
      else none
    else
      some (0 : Int32)
    else none
  else none
def p_Lines_add_b79 (f : Nat) (σ : qMem) (x4 : Int32) (x5 : Int32) : Option (Int32 × qMem) :=
  if qin x5 60 = true then
  some (x4, (qmu (qmu σ 47 (qi x5) x4) 42 9 (((qmu σ 47 (qi x5) x4) 42 9) + (1 : Int32))))
  else none
def p_Lines_add_l34 (f : Nat) (x2 : Int32) (x3 : Int32) (x4 : Int32) (k34 : qMem → Int32 → Option (Int32 × qMem)) (σ : qMem) (x5 : Int32) : Option (Int32 × qMem) :=
  if x5 ≤ 0 then
    p_Lines_add_b79 f σ x4 x5
  else
    if qin (x5 - (1 : Int32)) 60 = true then
    (p_Lines_isBehind f σ (σ 47 (qi (x5 - (1 : Int32)))) x2 x3).bind fun u3 =>
    if u3 = 0 then
      p_Lines_add_b79 f σ x4 x5
    else
      if qin (x5 - (1 : Int32)) 60 = true then
      if qin x5 60 = true then
      k34 (qmu σ 47 (qi x5) (σ 47 (qi (x5 - (1 : Int32))))) (x5 + (-1 : Int32))
      else none
      else none
    else none
def p_Lines_add (f : Nat) (σ : qMem) (x1 : Int32) (x2 : Int32) (x3 : Int32) : Option (Int32 × qMem) :=
  if qin (σ 42 9) 60 = true then
  if qin (σ 42 9) 60 = true then
  if qin (σ 42 9) 60 = true then
  qfix2 (p_Lines_add_l34 f x2 x3 (σ 42 9) ) f (qmu (qmu (qmu σ 43 (qi (σ 42 9)) x1) 44 (qi (σ 42 9)) x2) 45 (qi (σ 42 9)) x3) (σ 42 9)
  else none
  else none
  else none
def p_C_say (f : Nat) (σ : qMem) (x1 : Int32) (x2 : Int32) (x3 : Int32) : Option (Int32 × qMem) :=
  (p_C_noLine f σ x1 x2 x3).bind fun u1 =>
  if u1 = 0 then
    (p_Lines_full f σ).bind fun u3 =>
    if u3 = 0 then
      (p_Lines_add f σ x1 x2 x3).bind fun u5 =>
      (p_Lines_judge f u5.2).bind fun u7 =>
      some (u5.1, u7)
    else
      some ((-1000003 : Int32), σ)
  else
    some ((-1000001 : Int32), σ)
def p_Sheets_item (f : Nat) (σ : qMem) (x1 : Int32) (x2 : Int32) : Option (Int32) :=
  if qin x1 8 = true then
  if qin x2 60 = true then
  some (σ (5 + qi x1) (qi x2))
  else none
  else none
def p_C_lines_l64 (f : Nat) (x1 : Int32) (x2 : Int32) (x3 : Int32) (k64 : qMem → Int32 → Int32 → Option (Int32 × qMem)) (σ : qMem) (x4 : Int32) (x5 : Int32) : Option (Int32 × qMem) :=
  if (x2 + ((3 : Int32) * x3)) ≤ x5 then
    (p_Lines_judge f σ).bind fun u1 =>
    (p_C_foundNothing f u1 x4).bind fun u3 =>
    some (u3.1, u3.2)
  else
    (p_Sheets_item f σ x1 x5).bind fun u5 =>
    (p_Sheets_item f σ x1 (x5 + (1 : Int32))).bind fun u7 =>
    (p_Sheets_item f σ x1 (x5 + (2 : Int32))).bind fun u9 =>
    (p_C_noLine f σ u5 u7 u9).bind fun u11 =>
    if u11 = 0 then
      (p_Lines_full f σ).bind fun u13 =>
      if u13 = 0 then
        (p_Lines_add f σ u5 u7 u9).bind fun u15 =>
        k64 u15.2 (x4 + (1 : Int32)) (x5 + (3 : Int32))
      else
        k64 σ x4 (x5 + (3 : Int32))
    else
      k64 σ x4 (x5 + (3 : Int32))
def p_C_lines (f : Nat) (σ : qMem) (x1 : Int32) (x2 : Int32) (x3 : Int32) : Option (Int32 × qMem) :=
  (p_Sheets_noSuch f σ x1).bind fun u17 =>
  if u17 = 0 then
    (p_C_outside f σ x3 (1 : Int32) (20 : Int32)).bind fun u19 =>
    if u19 = 0 then
      (p_Sheets_missing f σ x1).bind fun u21 =>
      if u21 = 0 then
        (p_Sheets_holds f σ x1 x2 ((3 : Int32) * x3)).bind fun u23 =>
        if u23 = 0 then
          (p_C_found f σ (2 : Int32)).bind fun u25 =>
          some (u25.1, u25.2)
        else
          qfix3 (p_C_lines_l64 f x1 x2 x3 ) f σ (0 : Int32) x2
      else
        (p_C_found f σ (1 : Int32)).bind fun u27 =>
        some (u27.1, u27.2)
    else
      some ((-1000001 : Int32), σ)
  else
    some ((-1000001 : Int32), σ)
def p_Lines_size (f : Nat) (σ : qMem) : Option (Int32) :=
  some (σ 42 9)
def p_Lines_isGood (f : Nat) (σ : qMem) (x1 : Int32) : Option (Int32) :=
  if qin x1 60 = true then
  some (vp_nar .boolean (σ 46 (qi x1)))
  else none
def p_C_good (f : Nat) (σ : qMem) (x1 : Int32) : Option (Int32) :=
  (p_Lines_size f σ).bind fun u1 =>
  (p_C_outside f σ x1 (0 : Int32) (u1 - (1 : Int32))).bind fun u3 =>
  if u3 = 0 then
    (p_Lines_isGood f σ x1).bind fun u5 =>
    if u5 = 0 then
      some (0 : Int32)
    else
      some (1 : Int32)
  else
    some (-1000001 : Int32)
def p_Joins_holdsFrom_l2 (f : Nat) (σ : qMem) (x1 : Int32) (x2 : Int32) (k2 : Int32 → Option (Int32)) (x3 : Int32) : Option (Int32) :=
  if (σ 48 4) ≤ x3 then
    some (0 : Int32)
  else
    (p_Joins_has f σ x3 x1).bind fun u1 =>
    if u1 = 0 then
      k2 (x3 + (1 : Int32))
    else
      if qin x3 10 = true then
      if (σ 52 (qi x3)) ≤ x2 then
        k2 (x3 + (1 : Int32))
      else
        some (1 : Int32)
      else none
def p_Joins_holdsFrom (f : Nat) (σ : qMem) (x1 : Int32) (x2 : Int32) : Option (Int32) :=
  qfix1 (p_Joins_holdsFrom_l2 f σ x1 x2 ) f (0 : Int32)
def p_Joins_full (f : Nat) (σ : qMem) : Option (Int32) :=
  if (σ 48 4) < (10 : Int32) then
    some (0 : Int32)
  else
    some (1 : Int32)
def p_Joins_add (f : Nat) (σ : qMem) (x1 : Int32) (x2 : Int32) (x3 : Int32) : Option (qMem) :=
  if qin (σ 48 4) 10 = true then
  if qin ((qmu σ 49 (qi (σ 48 4)) x1) 48 4) 10 = true then
  if qin ((qmu (qmu σ 49 (qi (σ 48 4)) x1) 50 (qi ((qmu σ 49 (qi (σ 48 4)) x1) 48 4)) x2) 48 4) 10 = true then
  if qin ((qmu (qmu (qmu σ 49 (qi (σ 48 4)) x1) 50 (qi ((qmu σ 49 (qi (σ 48 4)) x1) 48 4)) x2) 51 (qi ((qmu (qmu σ 49 (qi (σ 48 4)) x1) 50 (qi ((qmu σ 49 (qi (σ 48 4)) x1) 48 4)) x2) 48 4)) x3) 48 4) 10 = true then
  some (qmu (qmu (qmu (qmu (qmu σ 49 (qi (σ 48 4)) x1) 50 (qi ((qmu σ 49 (qi (σ 48 4)) x1) 48 4)) x2) 51 (qi ((qmu (qmu σ 49 (qi (σ 48 4)) x1) 50 (qi ((qmu σ 49 (qi (σ 48 4)) x1) 48 4)) x2) 48 4)) x3) 52 (qi ((qmu (qmu (qmu σ 49 (qi (σ 48 4)) x1) 50 (qi ((qmu σ 49 (qi (σ 48 4)) x1) 48 4)) x2) 51 (qi ((qmu (qmu σ 49 (qi (σ 48 4)) x1) 50 (qi ((qmu σ 49 (qi (σ 48 4)) x1) 48 4)) x2) 48 4)) x3) 48 4)) (10000 : Int32)) 48 4 (((qmu (qmu (qmu (qmu σ 49 (qi (σ 48 4)) x1) 50 (qi ((qmu σ 49 (qi (σ 48 4)) x1) 48 4)) x2) 51 (qi ((qmu (qmu σ 49 (qi (σ 48 4)) x1) 50 (qi ((qmu σ 49 (qi (σ 48 4)) x1) 48 4)) x2) 48 4)) x3) 52 (qi ((qmu (qmu (qmu σ 49 (qi (σ 48 4)) x1) 50 (qi ((qmu σ 49 (qi (σ 48 4)) x1) 48 4)) x2) 51 (qi ((qmu (qmu σ 49 (qi (σ 48 4)) x1) 50 (qi ((qmu σ 49 (qi (σ 48 4)) x1) 48 4)) x2) 48 4)) x3) 48 4)) (10000 : Int32)) 48 4) + (1 : Int32)))
  else none
  else none
  else none
  else none
def p_C_join (f : Nat) (σ : qMem) (x1 : Int32) (x2 : Int32) (x3 : Int32) : Option (Int32 × qMem) :=
  (p_Promises_has f σ x1).bind fun u1 =>
  if u1 = 0 then
    some ((-1000001 : Int32), σ)
  else
    (p_Promises_has f σ x2).bind fun u3 =>
    if u3 = 0 then
      some ((-1000001 : Int32), σ)
    else
      if x1 = x2 then
        some ((-1000001 : Int32), σ)
      else
        (p_C_noDay f σ x3).bind fun u5 =>
        if u5 = 0 then
          (p_Joins_holdsFrom f σ x1 x3).bind fun u7 =>
          if u7 = 0 then
            (p_Joins_holdsFrom f σ x2 x3).bind fun u9 =>
            if u9 = 0 then
              (p_Joins_full f σ).bind fun u11 =>
              if u11 = 0 then
                (p_Joins_add f σ x1 x2 x3).bind fun u13 =>
                some ((1 : Int32), u13)
              else
                some ((-1000003 : Int32), σ)
            else
              some ((-1000002 : Int32), σ)
          else
            some ((-1000002 : Int32), σ)
        else
          some ((-1000001 : Int32), σ)
def p_Joins_part_l7 (f : Nat) (σ : qMem) (x1 : Int32) (x2 : Int32) (k7 : Int32 → Option (Int32 × qMem)) (x3 : Int32) : Option (Int32 × qMem) :=
  if x3 < 0 then
    some ((0 : Int32), σ)
  else
    (p_Joins_has f σ x3 x1).bind fun u1 =>
    if u1 = 0 then
      k7 (x3 + (-1 : Int32))
    else
      if qin x3 10 = true then
      if (σ 52 (qi x3)) = (10000 : Int32) then
        if qin x3 10 = true then
        if (σ 51 (qi x3)) < x2 then
          if qin x3 10 = true then
          some ((1 : Int32), (qmu σ 52 (qi x3) x2))
          else none
        else
          some ((0 : Int32), σ)
        else none
      else
        some ((0 : Int32), σ)
      else none
def p_Joins_part (f : Nat) (σ : qMem) (x1 : Int32) (x2 : Int32) : Option (Int32 × qMem) :=
  qfix1 (p_Joins_part_l7 f σ x1 x2 ) f ((σ 48 4) - (1 : Int32))
def p_C_split (f : Nat) (σ : qMem) (x1 : Int32) (x2 : Int32) : Option (Int32 × qMem) :=
  (p_Promises_has f σ x1).bind fun u1 =>
  if u1 = 0 then
    some ((-1000001 : Int32), σ)
  else
    (p_C_noDay f σ x2).bind fun u3 =>
    if u3 = 0 then
      (p_Joins_part f σ x1 x2).bind fun u5 =>
      if u5.1 = 0 then
        some ((-1000002 : Int32), u5.2)
      else
        some ((1 : Int32), u5.2)
    else
      some ((-1000001 : Int32), σ)
def p_C_noHouse (f : Nat) (σ : qMem) (x0 : Int32) : Option (Int32) :=
  (p_C_outside f σ x0 (0 : Int32) (5 : Int32)).bind fun u1 =>
  some (vp_nar .boolean u1)
def p_Houses_changeRent (f : Nat) (σ : qMem) (x1 : Int32) (x2 : Int32) : Option (Int32 × qMem) :=
  if qin x1 6 = true then
  if qin x1 6 = true then
  some ((σ 54 (qi x1)), (qmu σ 54 (qi x1) x2))
  else none
  else none
def p_Houses_changeShrink (f : Nat) (σ : qMem) (x1 : Int32) (x2 : Int32) : Option (Int32 × qMem) :=
  if qin x1 6 = true then
  if qin x1 6 = true then
  some ((σ 55 (qi x1)), (qmu σ 55 (qi x1) x2))
  else none
  else none
def p_C_house_b30 (f : Nat) (σ : qMem) (x1 : Int32) (x2 : Int32) (x3 : Int32) (s0 : Int32) (s1 : Int32) (s2 : Int32) : Option (Int32 × qMem) :=
  (p_C_outside f σ s0 s1 s2).bind fun u1 =>
  if u1 = 0 then
    if x2 = 0 then
      (p_Houses_changeRent f σ x1 x3).bind fun u5 =>
      some (u5.1, u5.2)
    else
      (p_Houses_changeShrink f σ x1 x3).bind fun u3 =>
      some (u3.1, u3.2)
  else
    some ((-1000001 : Int32), σ)
def p_C_house (f : Nat) (σ : qMem) (x1 : Int32) (x2 : Int32) (x3 : Int32) : Option (Int32 × qMem) :=
  (p_C_noHouse f σ x1).bind fun u7 =>
  if u7 = 0 then
    (p_C_outside f σ x2 (0 : Int32) (1 : Int32)).bind fun u9 =>
    if u9 = 0 then
      if x2 = 0 then
        p_C_house_b30 f σ x1 x2 x3 x3 (0 : Int32) (10000 : Int32)
      else
        p_C_house_b30 f σ x1 x2 x3 x3 (0 : Int32) (100 : Int32)
    else
      some ((-1000001 : Int32), σ)
  else
    some ((-1000001 : Int32), σ)
def p_C_noYear (f : Nat) (σ : qMem) (x0 : Int32) : Option (Int32) :=
  (p_C_outside f σ x0 (0 : Int32) (27 : Int32)).bind fun u1 =>
  some (vp_nar .boolean u1)
def p_Houses_repairsFull (f : Nat) (σ : qMem) : Option (Int32) :=
  if (σ 53 5) < (20 : Int32) then
    some (0 : Int32)
  else
    some (1 : Int32)
def p_Houses_addRepair (f : Nat) (σ : qMem) (x1 : Int32) (x2 : Int32) (x3 : Int32) : Option (Int32 × qMem) :=
  if qin (σ 53 5) 20 = true then
  if qin ((qmu σ 56 (qi (σ 53 5)) x1) 53 5) 20 = true then
  if qin ((qmu (qmu σ 56 (qi (σ 53 5)) x1) 57 (qi ((qmu σ 56 (qi (σ 53 5)) x1) 53 5)) x2) 53 5) 20 = true then
  some (((qmu (qmu (qmu (qmu σ 56 (qi (σ 53 5)) x1) 57 (qi ((qmu σ 56 (qi (σ 53 5)) x1) 53 5)) x2) 58 (qi ((qmu (qmu σ 56 (qi (σ 53 5)) x1) 57 (qi ((qmu σ 56 (qi (σ 53 5)) x1) 53 5)) x2) 53 5)) x3) 53 5 (((qmu (qmu (qmu σ 56 (qi (σ 53 5)) x1) 57 (qi ((qmu σ 56 (qi (σ 53 5)) x1) 53 5)) x2) 58 (qi ((qmu (qmu σ 56 (qi (σ 53 5)) x1) 57 (qi ((qmu σ 56 (qi (σ 53 5)) x1) 53 5)) x2) 53 5)) x3) 53 5) + (1 : Int32))) 53 5), (qmu (qmu (qmu (qmu σ 56 (qi (σ 53 5)) x1) 57 (qi ((qmu σ 56 (qi (σ 53 5)) x1) 53 5)) x2) 58 (qi ((qmu (qmu σ 56 (qi (σ 53 5)) x1) 57 (qi ((qmu σ 56 (qi (σ 53 5)) x1) 53 5)) x2) 53 5)) x3) 53 5 (((qmu (qmu (qmu σ 56 (qi (σ 53 5)) x1) 57 (qi ((qmu σ 56 (qi (σ 53 5)) x1) 53 5)) x2) 58 (qi ((qmu (qmu σ 56 (qi (σ 53 5)) x1) 57 (qi ((qmu σ 56 (qi (σ 53 5)) x1) 53 5)) x2) 53 5)) x3) 53 5) + (1 : Int32))))
  else none
  else none
  else none
def p_C_repair (f : Nat) (σ : qMem) (x1 : Int32) (x2 : Int32) (x3 : Int32) : Option (Int32 × qMem) :=
  (p_C_noHouse f σ x1).bind fun u1 =>
  if u1 = 0 then
    (p_C_noYear f σ x2).bind fun u3 =>
    if u3 = 0 then
      (p_C_outside f σ x3 (1 : Int32) (10000 : Int32)).bind fun u5 =>
      if u5 = 0 then
        (p_Houses_repairsFull f σ).bind fun u7 =>
        if u7 = 0 then
          (p_Houses_addRepair f σ x1 x2 x3).bind fun u9 =>
          some (u9.1, u9.2)
        else
          some ((-1000003 : Int32), σ)
      else
        some ((-1000001 : Int32), σ)
    else
      some ((-1000001 : Int32), σ)
  else
    some ((-1000001 : Int32), σ)
def p_Houses_emptiesFull (f : Nat) (σ : qMem) : Option (Int32) :=
  (p_Spans_full_59 f σ).bind fun u1 =>
  some (vp_nar .boolean u1)
def p_Houses_addEmpty (f : Nat) (σ : qMem) (x1 : Int32) (x2 : Int32) (x3 : Int32) : Option (Int32 × qMem) :=
  (p_Spans_add_59 f σ x1 x2 x3).bind fun u1 =>
  some (u1.1, u1.2)
def p_C_empty (f : Nat) (σ : qMem) (x1 : Int32) (x2 : Int32) (x3 : Int32) : Option (Int32 × qMem) :=
  (p_C_noHouse f σ x1).bind fun u1 =>
  if u1 = 0 then
    (p_C_noSpan f σ x2 x3).bind fun u3 =>
    if u3 = 0 then
      (p_Houses_emptiesFull f σ).bind fun u5 =>
      if u5 = 0 then
        (p_Houses_addEmpty f σ x1 x2 x3).bind fun u7 =>
        some (u7.1, u7.2)
      else
        some ((-1000003 : Int32), σ)
    else
      some ((-1000001 : Int32), σ)
  else
    some ((-1000001 : Int32), σ)
def p_Spans_nextSpan_59_l6 (f : Nat) (σ : qMem) (x1 : Int32) (x2 : Int32) (k6 : Int32 → Int32 → Option (Int32)) (x3 : Int32) (x4 : Int32) : Option (Int32) :=
  if (σ 59 3) ≤ x4 then
    some x3
  else
    if qin x4 20 = true then
    if (σ 60 (qi x4)) = x1 then
      if qin x4 20 = true then
      if (σ 62 (qi x4)) < x2 then
        k6 x3 (x4 + (1 : Int32))
      else
        if x3 = (-1000000 : Int32) then
          k6 x4 (x4 + (1 : Int32))
        else
          if qin x4 20 = true then
          if qin x3 20 = true then
          if (σ 61 (qi x3)) ≤ (σ 61 (qi x4)) then
            k6 x3 (x4 + (1 : Int32))
          else
            k6 x4 (x4 + (1 : Int32))
          else none
          else none
      else none
    else
      k6 x3 (x4 + (1 : Int32))
    else none
def p_Spans_nextSpan_59 (f : Nat) (σ : qMem) (x1 : Int32) (x2 : Int32) : Option (Int32) :=
  qfix2 (p_Spans_nextSpan_59_l6 f σ x1 x2 ) f (-1000000 : Int32) (0 : Int32)
def p_Spans_daysWithin_59_l9 (f : Nat) (σ : qMem) (x1 : Int32) (x3 : Int32) (k9 : Int32 → Int32 → Int32 → Option (Int32)) (x4 : Int32) (x5 : Int32) (x6 : Int32) : Option (Int32) :=
  if (σ 59 3) ≤ x6 then
    some x4
  else
    if x3 < x5 then
      some x4
    else
      (p_Spans_nextSpan_59 f σ x1 x5).bind fun u1 =>
      if u1 = (-1000000 : Int32) then
        some x4
      else
        if qin u1 20 = true then
        if (σ 61 (qi u1)) ≤ x3 then
          if qin u1 20 = true then
          if qin u1 20 = true then
          k9 (x4 + (((if x3 < (σ 62 (qi u1)) then x3 else (σ 62 (qi u1))) - (if (σ 61 (qi u1)) < x5 then x5 else (σ 61 (qi u1)))) + (1 : Int32))) ((if x3 < (σ 62 (qi u1)) then x3 else (σ 62 (qi u1))) + (1 : Int32)) (x6 + (1 : Int32))
          else none
          else none
        else
          some x4
        else none
def p_Spans_daysWithin_59 (f : Nat) (σ : qMem) (x1 : Int32) (x2 : Int32) (x3 : Int32) : Option (Int32) :=
  qfix3 (p_Spans_daysWithin_59_l9 f σ x1 x3 ) f (0 : Int32) x2 (0 : Int32)
def p_Houses_repairsIn_l5 (f : Nat) (σ : qMem) (x1 : Int32) (x2 : Int32) (k5 : Int32 → Int32 → Option (Int32)) (x3 : Int32) (x4 : Int32) : Option (Int32) :=
  if (σ 53 5) ≤ x4 then
    some x3
  else
    if qin x4 20 = true then
    if (σ 56 (qi x4)) = x1 then
      if qin x4 20 = true then
      if (σ 57 (qi x4)) = x2 then
        if qin x4 20 = true then
        k5 (x3 + (σ 58 (qi x4))) (x4 + (1 : Int32))
        else none
      else
        k5 x3 (x4 + (1 : Int32))
      else none
    else
      k5 x3 (x4 + (1 : Int32))
    else none
def p_Houses_repairsIn (f : Nat) (σ : qMem) (x1 : Int32) (x2 : Int32) : Option (Int32) :=
  qfix2 (p_Houses_repairsIn_l5 f σ x1 x2 ) f (0 : Int32) (0 : Int32)
def p_Houses_rentIn_l10 (f : Nat) (σ : qMem) (x1 : Int32) (x2 : Int32) (k10 : Int32 → Int32 → Option (Int32)) (x3 : Int32) (x4 : Int32) : Option (Int32) :=
  if x2 ≤ x4 then
    (p_Spans_daysWithin_59 f σ x1 (x2 * (360 : Int32)) (((x2 * (360 : Int32)) + (360 : Int32)) - (1 : Int32))).bind fun u1 =>
    (p_Houses_repairsIn f σ x1 x2).bind fun u3 =>
    some (if (0 : Int32) < ((x3 - u3) - ((x3 * u1) / (360 : Int32))) then ((x3 - u3) - ((x3 * u1) / (360 : Int32))) else (0 : Int32))
  else
    if qin x1 6 = true then
    k10 (x3 - ((x3 * (σ 55 (qi x1))) / (100 : Int32))) (x4 + (1 : Int32))
    else none
def p_Houses_rentIn (f : Nat) (σ : qMem) (x1 : Int32) (x2 : Int32) : Option (Int32) :=
  if qin x1 6 = true then
  qfix2 (p_Houses_rentIn_l10 f σ x1 x2 ) f (σ 54 (qi x1)) (0 : Int32)
  else none
def p_C_rent (f : Nat) (σ : qMem) (x1 : Int32) (x2 : Int32) : Option (Int32) :=
  (p_C_noHouse f σ x1).bind fun u1 =>
  if u1 = 0 then
    (p_C_noYear f σ x2).bind fun u3 =>
    if u3 = 0 then
      (p_Houses_rentIn f σ x1 x2).bind fun u5 =>
      some u5
    else
      some (-1000001 : Int32)
  else
    some (-1000001 : Int32)
def p_C_ownShare (f : Nat) (σ : qMem) (x1 : Int32) (x2 : Int32) : Option (Int32) :=
  (p_Promises_of f σ x1 (7 : Int32)).bind fun u1 =>
  (p_Houses_rentIn f σ u1 x2).bind fun u3 =>
  (p_Promises_of f σ x1 (8 : Int32)).bind fun u5 =>
  some ((u3 * u5) / (100 : Int32))
def p_C_comesTo (f : Nat) (σ : qMem) (x1 : Int32) (x2 : Int32) : Option (Int32) :=
  (p_C_ownShare f σ x1 x2).bind fun u1 =>
  (p_Joins_otherOf f σ x1 (x2 * (360 : Int32))).bind fun u3 =>
  if u3 = (-1000000 : Int32) then
    some u1
  else
    (p_C_ownShare f σ u3 x2).bind fun u5 =>
    some (u1 + u5)
def p_C_feeds (f : Nat) (σ : qMem) (x1 : Int32) (x2 : Int32) : Option (Int32) :=
  (p_C_comesTo f σ x1 x2).bind fun u1 =>
  if qin (0 : Int32) 3 = true then
  if u1 < (σ 66 (qi (0 : Int32))) then
    some (0 : Int32)
  else
    some (1 : Int32)
  else none
def p_C_comes (f : Nat) (σ : qMem) (x1 : Int32) (x2 : Int32) (x3 : Int32) : Option (Int32) :=
  (p_Promises_has f σ x1).bind fun u1 =>
  if u1 = 0 then
    some (-1000001 : Int32)
  else
    (p_C_noYear f σ x2).bind fun u3 =>
    if u3 = 0 then
      (p_C_outside f σ x3 (0 : Int32) (1 : Int32)).bind fun u5 =>
      if u5 = 0 then
        if x3 = 0 then
          (p_C_comesTo f σ x1 x2).bind fun u9 =>
          some u9
        else
          (p_C_feeds f σ x1 x2).bind fun u7 =>
          if u7 = 0 then
            some (0 : Int32)
          else
            some (1 : Int32)
      else
        some (-1000001 : Int32)
    else
      some (-1000001 : Int32)
def p_C_fails_l43 (f : Nat) (σ : qMem) (x1 : Int32) (k43 : Int32 → Option (Int32)) (x2 : Int32) : Option (Int32) :=
  if (27 : Int32) < x2 then
    some (-1000000 : Int32)
  else
    (p_C_feeds f σ x1 x2).bind fun u1 =>
    if u1 = 0 then
      some x2
    else
      k43 (x2 + (1 : Int32))
def p_C_fails (f : Nat) (σ : qMem) (x1 : Int32) : Option (Int32) :=
  (p_Promises_has f σ x1).bind fun u3 =>
  if u3 = 0 then
    some (-1000001 : Int32)
  else
    (p_Promises_isObit f σ x1).bind fun u5 =>
    if u5 = 0 then
      (p_Promises_of f σ x1 (5 : Int32)).bind fun u7 =>
      qfix1 (p_C_fails_l43 f σ x1 ) f (u7 / (360 : Int32))
    else
      some (-1000000 : Int32)
def p_C_price_b23 (f : Nat) (σ : qMem) (x1 : Int32) (x2 : Int32) (s0 : Int32) (s1 : Int32) (s2 : Int32) : Option (Int32 × qMem) :=
  (p_C_outside f σ s0 s1 s2).bind fun u1 =>
  if u1 = 0 then
    if qin x1 3 = true then
    if qin x1 3 = true then
    some ((σ 66 (qi x1)), (qmu σ 66 (qi x1) x2))
    else none
    else none
  else
    some ((-1000001 : Int32), σ)
def p_C_price (f : Nat) (σ : qMem) (x1 : Int32) (x2 : Int32) : Option (Int32 × qMem) :=
  (p_C_outside f σ x1 (0 : Int32) (2 : Int32)).bind fun u5 =>
  if u5 = 0 then
    if x1 = 0 then
      p_C_price_b23 f σ x1 x2 x2 (0 : Int32) (10000 : Int32)
    else
      p_C_price_b23 f σ x1 x2 x2 (0 : Int32) (99 : Int32)
  else
    some ((-1000001 : Int32), σ)
def p_C_obitCost (f : Nat) (σ : qMem) (x1 : Int32) : Option (Int32) :=
  (p_Promises_of f σ x1 (9 : Int32)).bind fun u1 =>
  if qin (1 : Int32) 3 = true then
  (p_Promises_of f σ x1 (10 : Int32)).bind fun u4 =>
  if qin (2 : Int32) 3 = true then
  some ((u1 * (σ 66 (qi (1 : Int32)))) + (u4 * (σ 66 (qi (2 : Int32)))))
  else none
  else none
def p_C_spent_l36 (f : Nat) (σ : qMem) (x2 : Int32) (x3 : Int32) (k36 : Int32 → Int32 → Option (Int32)) (x4 : Int32) (x5 : Int32) : Option (Int32) :=
  (p_Promises_size f σ).bind fun u1 =>
  if u1 ≤ x5 then
    some x4
  else
    (p_Promises_isObit f σ x5).bind fun u3 =>
    if u3 = 0 then
      k36 x4 (x5 + (1 : Int32))
    else
      (p_C_wantedTill f σ x5 x3).bind fun u5 =>
      (p_C_wantedTill f σ x5 (x2 - (1 : Int32))).bind fun u7 =>
      (p_C_obitCost f σ x5).bind fun u9 =>
      k36 (x4 + ((u5 - u7) * u9)) (x5 + (1 : Int32))
def p_C_spent (f : Nat) (σ : qMem) (x1 : Int32) : Option (Int32) :=
  (p_C_noYear f σ x1).bind fun u11 =>
  if u11 = 0 then
    qfix2 (p_C_spent_l36 f σ (x1 * (360 : Int32)) (if (9999 : Int32) < (((x1 * (360 : Int32)) + (360 : Int32)) - (1 : Int32)) then (9999 : Int32) else (((x1 * (360 : Int32)) + (360 : Int32)) - (1 : Int32))) ) f (0 : Int32) (0 : Int32)
  else
    some (-1000001 : Int32)
def p_Namings_begin (f : Nat) (σ : qMem) (x1 : Int32) (x2 : Int32) : Option (qMem) :=
  if qin x1 12 = true then
  if qin x1 12 = true then
  some (qmu (qmu σ 68 (qi x1) x2) 69 (qi x1) (0 : Int32))
  else none
  else none
def p_Namings_addPatron (f : Nat) (σ : qMem) (x1 : Int32) (x2 : Int32) (x3 : Int32) : Option (qMem) :=
  if qin x1 12 = true then
  if (4 : Int32) ≤ (σ 69 (qi x1)) then
    some σ
  else
    if qin x1 12 = true then
    if qin (σ 69 (qi x1)) 4 = true then
    if qin x1 12 = true then
    if qin (σ 69 (qi x1)) 4 = true then
    if qin x1 12 = true then
    some (qmu (qmu (qmu σ (71 + qi x1) (qi (σ 69 (qi x1))) x2) (84 + qi x1) (qi (σ 69 (qi x1))) x3) 69 (qi x1) ((σ 69 (qi x1)) + (1 : Int32)))
    else none
    else none
    else none
    else none
    else none
  else none
def p_C_vacant_l157 (f : Nat) (x1 : Int32) (x3 : Int32) (x4 : Int32) (x5 : Int32) (k157 : qMem → Int32 → Option (Int32 × qMem)) (σ : qMem) (x6 : Int32) : Option (Int32 × qMem) :=
  if (x4 + ((2 : Int32) * x5)) ≤ x6 then
    (p_C_foundNothing f σ x5).bind fun u1 =>
    some (u1.1, u1.2)
  else
    (p_Sheets_item f σ x3 x6).bind fun u3 =>
    (p_Sheets_item f σ x3 (x6 + (1 : Int32))).bind fun u5 =>
    (p_Namings_addPatron f σ x1 u3 u5).bind fun u7 =>
    k157 u7 (x6 + (2 : Int32))
def p_C_vacant_l82 (f : Nat) (σ : qMem) (x1 : Int32) (x2 : Int32) (x3 : Int32) (x4 : Int32) (x5 : Int32) (k82 : Int32 → Option (Int32 × qMem)) (x6 : Int32) : Option (Int32 × qMem) :=
  if (x4 + ((2 : Int32) * x5)) ≤ x6 then
    (p_Namings_begin f σ x1 x2).bind fun u9 =>
    qfix2 (p_C_vacant_l157 f x1 x3 x4 x5 ) f u9 x4
  else
    (p_Sheets_item f σ x3 x6).bind fun u11 =>
    (p_C_outside f σ u11 (0 : Int32) (9 : Int32)).bind fun u13 =>
    if u13 = 0 then
      (p_Sheets_item f σ x3 (x6 + (1 : Int32))).bind fun u15 =>
      (p_C_outside f σ u15 (1 : Int32) (400 : Int32)).bind fun u17 =>
      if u17 = 0 then
        k82 (x6 + (2 : Int32))
      else
        some ((-1000001 : Int32), σ)
    else
      some ((-1000001 : Int32), σ)
def p_C_vacant (f : Nat) (σ : qMem) (x1 : Int32) (x2 : Int32) (x3 : Int32) (x4 : Int32) (x5 : Int32) : Option (Int32 × qMem) :=
  (p_Promises_has f σ x1).bind fun u19 =>
  if u19 = 0 then
    some ((-1000001 : Int32), σ)
  else
    (p_C_noDay f σ x2).bind fun u21 =>
    if u21 = 0 then
      (p_Sheets_noSuch f σ x3).bind fun u23 =>
      if u23 = 0 then
        (p_C_outside f σ x5 (0 : Int32) (4 : Int32)).bind fun u25 =>
        if u25 = 0 then
          (p_Sheets_missing f σ x3).bind fun u27 =>
          if u27 = 0 then
            (p_Sheets_holds f σ x3 x4 ((2 : Int32) * x5)).bind fun u29 =>
            if u29 = 0 then
              (p_C_found f σ (2 : Int32)).bind fun u31 =>
              some (u31.1, u31.2)
            else
              qfix1 (p_C_vacant_l82 f σ x1 x2 x3 x4 x5 ) f x4
          else
            (p_C_found f σ (1 : Int32)).bind fun u33 =>
            some (u33.1, u33.2)
        else
          some ((-1000001 : Int32), σ)
      else
        some ((-1000001 : Int32), σ)
    else
      some ((-1000001 : Int32), σ)
def p_Namings_whoNames_l34 (f : Nat) (σ : qMem) (x1 : Int32) (x2 : Int32) (k34 : Int32 → Int32 → Option (Int32)) (x3 : Int32) (x4 : Int32) : Option (Int32) :=
  if qin x1 12 = true then
  if (σ 69 (qi x1)) ≤ x4 then
    some (10 : Int32)
  else
    if qin x1 12 = true then
    if qin x4 4 = true then
    if (x3 + (σ (84 + qi x1) (qi x4))) ≤ x2 then
      k34 (x3 + (σ (84 + qi x1) (qi x4))) (x4 + (1 : Int32))
    else
      if qin x1 12 = true then
      if qin x4 4 = true then
      some (σ (71 + qi x1) (qi x4))
      else none
      else none
    else none
    else none
  else none
def p_Namings_whoNames (f : Nat) (σ : qMem) (x1 : Int32) (x2 : Int32) : Option (Int32) :=
  if qin x1 12 = true then
  if (σ 68 (qi x1)) = (-1000000 : Int32) then
    some (-1000000 : Int32)
  else
    if qin x1 12 = true then
    if (σ 68 (qi x1)) ≤ x2 then
      if qin x1 12 = true then
      qfix2 (p_Namings_whoNames_l34 f σ x1 x2 ) f (σ 68 (qi x1)) (0 : Int32)
      else none
    else
      some (-1000000 : Int32)
    else none
  else none
def p_C_turn (f : Nat) (σ : qMem) (x1 : Int32) (x2 : Int32) : Option (Int32) :=
  (p_Promises_has f σ x1).bind fun u1 =>
  if u1 = 0 then
    some (-1000001 : Int32)
  else
    (p_C_noDay f σ x2).bind fun u3 =>
    if u3 = 0 then
      (p_Namings_whoNames f σ x1 x2).bind fun u5 =>
      some u5
    else
      some (-1000001 : Int32)
def p_Acts_full (f : Nat) (σ : qMem) : Option (Int32) :=
  if (σ 37 5) < (10 : Int32) then
    some (0 : Int32)
  else
    some (1 : Int32)
def p_Acts_add (f : Nat) (σ : qMem) (x1 : Int32) (x2 : Int32) (x3 : Int32) (x4 : Int32) : Option (Int32 × qMem) :=
  if qin (σ 37 5) 10 = true then
  if qin ((qmu σ 38 (qi (σ 37 5)) x1) 37 5) 10 = true then
  if qin ((qmu (qmu σ 38 (qi (σ 37 5)) x1) 39 (qi ((qmu σ 38 (qi (σ 37 5)) x1) 37 5)) x2) 37 5) 10 = true then
  if qin ((qmu (qmu (qmu σ 38 (qi (σ 37 5)) x1) 39 (qi ((qmu σ 38 (qi (σ 37 5)) x1) 37 5)) x2) 40 (qi ((qmu (qmu σ 38 (qi (σ 37 5)) x1) 39 (qi ((qmu σ 38 (qi (σ 37 5)) x1) 37 5)) x2) 37 5)) x3) 37 5) 10 = true then
  some (((qmu (qmu (qmu (qmu (qmu σ 38 (qi (σ 37 5)) x1) 39 (qi ((qmu σ 38 (qi (σ 37 5)) x1) 37 5)) x2) 40 (qi ((qmu (qmu σ 38 (qi (σ 37 5)) x1) 39 (qi ((qmu σ 38 (qi (σ 37 5)) x1) 37 5)) x2) 37 5)) x3) 41 (qi ((qmu (qmu (qmu σ 38 (qi (σ 37 5)) x1) 39 (qi ((qmu σ 38 (qi (σ 37 5)) x1) 37 5)) x2) 40 (qi ((qmu (qmu σ 38 (qi (σ 37 5)) x1) 39 (qi ((qmu σ 38 (qi (σ 37 5)) x1) 37 5)) x2) 37 5)) x3) 37 5)) x4) 37 5 (((qmu (qmu (qmu (qmu σ 38 (qi (σ 37 5)) x1) 39 (qi ((qmu σ 38 (qi (σ 37 5)) x1) 37 5)) x2) 40 (qi ((qmu (qmu σ 38 (qi (σ 37 5)) x1) 39 (qi ((qmu σ 38 (qi (σ 37 5)) x1) 37 5)) x2) 37 5)) x3) 41 (qi ((qmu (qmu (qmu σ 38 (qi (σ 37 5)) x1) 39 (qi ((qmu σ 38 (qi (σ 37 5)) x1) 37 5)) x2) 40 (qi ((qmu (qmu σ 38 (qi (σ 37 5)) x1) 39 (qi ((qmu σ 38 (qi (σ 37 5)) x1) 37 5)) x2) 37 5)) x3) 37 5)) x4) 37 5) + (1 : Int32))) 37 5), (qmu (qmu (qmu (qmu (qmu σ 38 (qi (σ 37 5)) x1) 39 (qi ((qmu σ 38 (qi (σ 37 5)) x1) 37 5)) x2) 40 (qi ((qmu (qmu σ 38 (qi (σ 37 5)) x1) 39 (qi ((qmu σ 38 (qi (σ 37 5)) x1) 37 5)) x2) 37 5)) x3) 41 (qi ((qmu (qmu (qmu σ 38 (qi (σ 37 5)) x1) 39 (qi ((qmu σ 38 (qi (σ 37 5)) x1) 37 5)) x2) 40 (qi ((qmu (qmu σ 38 (qi (σ 37 5)) x1) 39 (qi ((qmu σ 38 (qi (σ 37 5)) x1) 37 5)) x2) 37 5)) x3) 37 5)) x4) 37 5 (((qmu (qmu (qmu (qmu σ 38 (qi (σ 37 5)) x1) 39 (qi ((qmu σ 38 (qi (σ 37 5)) x1) 37 5)) x2) 40 (qi ((qmu (qmu σ 38 (qi (σ 37 5)) x1) 39 (qi ((qmu σ 38 (qi (σ 37 5)) x1) 37 5)) x2) 37 5)) x3) 41 (qi ((qmu (qmu (qmu σ 38 (qi (σ 37 5)) x1) 39 (qi ((qmu σ 38 (qi (σ 37 5)) x1) 37 5)) x2) 40 (qi ((qmu (qmu σ 38 (qi (σ 37 5)) x1) 39 (qi ((qmu σ 38 (qi (σ 37 5)) x1) 37 5)) x2) 37 5)) x3) 37 5)) x4) 37 5) + (1 : Int32))))
  else none
  else none
  else none
  else none
def p_C_act (f : Nat) (σ : qMem) (x1 : Int32) (x2 : Int32) (x3 : Int32) (x4 : Int32) : Option (Int32 × qMem) :=
  (p_C_noDay f σ x1).bind fun u1 =>
  if u1 = 0 then
    (p_C_outside f σ x2 (0 : Int32) (99 : Int32)).bind fun u3 =>
    if u3 = 0 then
      (p_C_outside f σ x3 x2 (99 : Int32)).bind fun u5 =>
      if u5 = 0 then
        (p_C_outside f σ x4 (0 : Int32) (1 : Int32)).bind fun u7 =>
        if u7 = 0 then
          (p_Acts_full f σ).bind fun u9 =>
          if u9 = 0 then
            (p_Acts_add f σ x1 x2 x3 x4).bind fun u11 =>
            (p_Lines_judge f u11.2).bind fun u13 =>
            some (u11.1, u13)
          else
            some ((-1000003 : Int32), σ)
        else
          some ((-1000001 : Int32), σ)
      else
        some ((-1000001 : Int32), σ)
    else
      some ((-1000001 : Int32), σ)
  else
    some ((-1000001 : Int32), σ)
def p_C_taken (f : Nat) (σ : qMem) (x1 : Int32) : Option (Int32) :=
  (p_Promises_has f σ x1).bind fun u1 =>
  if u1 = 0 then
    some (-1000001 : Int32)
  else
    (p_Acts_dayOfTaking f σ x1).bind fun u3 =>
    some u3
def p_C_pension_l25 (f : Nat) (σ : qMem) (x1 : Int32) (x2 : Int32) (k25 : Int32 → Int32 → Option (Int32)) (x3 : Int32) (x4 : Int32) : Option (Int32) :=
  (p_Promises_size f σ).bind fun u1 =>
  if u1 ≤ x4 then
    some (if (200 : Int32) < x3 then (200 : Int32) else x3)
  else
    (p_Promises_of f σ x4 (3 : Int32)).bind fun u3 =>
    if u3 = x1 then
      (p_Acts_takenBy f σ x4 x2).bind fun u5 =>
      if u5 = 0 then
        k25 x3 (x4 + (1 : Int32))
      else
        (p_Acts_dayOfTaking f σ x4).bind fun u7 =>
        (p_C_comesTo f σ x4 (if (0 : Int32) < ((u7 / (360 : Int32)) - (1 : Int32)) then ((u7 / (360 : Int32)) - (1 : Int32)) else (0 : Int32))).bind fun u9 =>
        k25 (x3 + (u9 / (2 : Int32))) (x4 + (1 : Int32))
    else
      k25 x3 (x4 + (1 : Int32))
def p_C_pension (f : Nat) (σ : qMem) (x1 : Int32) (x2 : Int32) : Option (Int32) :=
  (p_C_outside f σ x1 (0 : Int32) (7 : Int32)).bind fun u11 =>
  if u11 = 0 then
    (p_C_noDay f σ x2).bind fun u13 =>
    if u13 = 0 then
      qfix2 (p_C_pension_l25 f σ x1 x2 ) f (0 : Int32) (0 : Int32)
    else
      some (-1000001 : Int32)
  else
    some (-1000001 : Int32)
def p_Houses_bidsFull (f : Nat) (σ : qMem) : Option (Int32) :=
  if (σ 53 10) < (20 : Int32) then
    some (0 : Int32)
  else
    some (1 : Int32)
def p_Houses_addBid (f : Nat) (σ : qMem) (x1 : Int32) (x2 : Int32) (x3 : Int32) : Option (Int32 × qMem) :=
  if qin (σ 53 10) 20 = true then
  if qin ((qmu σ 63 (qi (σ 53 10)) x1) 53 10) 20 = true then
  if qin ((qmu (qmu σ 63 (qi (σ 53 10)) x1) 64 (qi ((qmu σ 63 (qi (σ 53 10)) x1) 53 10)) x2) 53 10) 20 = true then
  some (((qmu (qmu (qmu (qmu σ 63 (qi (σ 53 10)) x1) 64 (qi ((qmu σ 63 (qi (σ 53 10)) x1) 53 10)) x2) 65 (qi ((qmu (qmu σ 63 (qi (σ 53 10)) x1) 64 (qi ((qmu σ 63 (qi (σ 53 10)) x1) 53 10)) x2) 53 10)) x3) 53 10 (((qmu (qmu (qmu σ 63 (qi (σ 53 10)) x1) 64 (qi ((qmu σ 63 (qi (σ 53 10)) x1) 53 10)) x2) 65 (qi ((qmu (qmu σ 63 (qi (σ 53 10)) x1) 64 (qi ((qmu σ 63 (qi (σ 53 10)) x1) 53 10)) x2) 53 10)) x3) 53 10) + (1 : Int32))) 53 10), (qmu (qmu (qmu (qmu σ 63 (qi (σ 53 10)) x1) 64 (qi ((qmu σ 63 (qi (σ 53 10)) x1) 53 10)) x2) 65 (qi ((qmu (qmu σ 63 (qi (σ 53 10)) x1) 64 (qi ((qmu σ 63 (qi (σ 53 10)) x1) 53 10)) x2) 53 10)) x3) 53 10 (((qmu (qmu (qmu σ 63 (qi (σ 53 10)) x1) 64 (qi ((qmu σ 63 (qi (σ 53 10)) x1) 53 10)) x2) 65 (qi ((qmu (qmu σ 63 (qi (σ 53 10)) x1) 64 (qi ((qmu σ 63 (qi (σ 53 10)) x1) 53 10)) x2) 53 10)) x3) 53 10) + (1 : Int32))))
  else none
  else none
  else none
def p_C_bid (f : Nat) (σ : qMem) (x1 : Int32) (x2 : Int32) (x3 : Int32) : Option (Int32 × qMem) :=
  (p_C_noHouse f σ x1).bind fun u1 =>
  if u1 = 0 then
    (p_C_outside f σ x2 (0 : Int32) (9 : Int32)).bind fun u3 =>
    if u3 = 0 then
      (p_C_outside f σ x3 (1 : Int32) (100000 : Int32)).bind fun u5 =>
      if u5 = 0 then
        (p_Houses_bidsFull f σ).bind fun u7 =>
        if u7 = 0 then
          (p_Houses_addBid f σ x1 x2 x3).bind fun u9 =>
          some (u9.1, u9.2)
        else
          some ((-1000003 : Int32), σ)
      else
        some ((-1000001 : Int32), σ)
    else
      some ((-1000001 : Int32), σ)
  else
    some ((-1000001 : Int32), σ)
def p_Acts_wholeHouseTakenBy_l5 (f : Nat) (σ : qMem) (x1 : Int32) (x2 : Int32) (k5 : Int32 → Int32 → Option (Int32)) (x3 : Int32) (x4 : Int32) : Option (Int32) :=
  (p_Promises_size f σ).bind fun u1 =>
  if u1 ≤ x4 then
    some (vp_nar .boolean x3)
  else
    (p_Promises_of f σ x4 (7 : Int32)).bind fun u3 =>
    if u3 = x1 then
      (p_Acts_takenBy f σ x4 x2).bind fun u5 =>
      if u5 = 0 then
        some (0 : Int32)
      else
        k5 (1 : Int32) (x4 + (1 : Int32))
    else
      k5 x3 (x4 + (1 : Int32))
def p_Acts_wholeHouseTakenBy (f : Nat) (σ : qMem) (x1 : Int32) (x2 : Int32) : Option (Int32) :=
  qfix2 (p_Acts_wholeHouseTakenBy_l5 f σ x1 x2 ) f (0 : Int32) (0 : Int32)
def p_Houses_greatestBidder_l8 (f : Nat) (σ : qMem) (x1 : Int32) (k8 : Int32 → Int32 → Int32 → Option (Int32)) (x2 : Int32) (x3 : Int32) (x4 : Int32) : Option (Int32) :=
  if (σ 53 10) ≤ x4 then
    some x2
  else
    if qin x4 20 = true then
    if (σ 63 (qi x4)) = x1 then
      if qin x4 20 = true then
      if (σ 65 (qi x4)) ≤ x3 then
        k8 x2 x3 (x4 + (1 : Int32))
      else
        if qin x4 20 = true then
        if qin x4 20 = true then
        k8 (σ 64 (qi x4)) (σ 65 (qi x4)) (x4 + (1 : Int32))
        else none
        else none
      else none
    else
      k8 x2 x3 (x4 + (1 : Int32))
    else none
def p_Houses_greatestBidder (f : Nat) (σ : qMem) (x1 : Int32) : Option (Int32) :=
  qfix3 (p_Houses_greatestBidder_l8 f σ x1 ) f (-1000000 : Int32) (0 : Int32) (0 : Int32)
def p_C_sold (f : Nat) (σ : qMem) (x1 : Int32) (x2 : Int32) : Option (Int32) :=
  (p_C_noHouse f σ x1).bind fun u1 =>
  if u1 = 0 then
    (p_C_noDay f σ x2).bind fun u3 =>
    if u3 = 0 then
      (p_Acts_wholeHouseTakenBy f σ x1 x2).bind fun u5 =>
      if u5 = 0 then
        some (-1000000 : Int32)
      else
        (p_Houses_greatestBidder f σ x1).bind fun u7 =>
        some u7
    else
      some (-1000001 : Int32)
  else
    some (-1000001 : Int32)
def p_Promises_areThere (f : Nat) (σ : qMem) (x1 : Int32) : Option (Int32) :=
  if x1 ≤ 0 then
    some (0 : Int32)
  else
    if ((1 : Int32) <<< ((σ 13 1) &&& 31)) ≤ x1 then
      some (0 : Int32)
    else
      some (1 : Int32)
def p_In_bitCount (f : Nat) (σ : qMem) (x0 : Int32) : Option (Int32) :=
  some ((((((((x0 - (((x0).toUInt32 >>> (((1 : Int32)).toUInt32 &&& Int32.toUInt32 31)).toInt32 &&& (1431655765 : Int32))) &&& (858993459 : Int32)) + ((((x0 - (((x0).toUInt32 >>> (((1 : Int32)).toUInt32 &&& Int32.toUInt32 31)).toInt32 &&& (1431655765 : Int32)))).toUInt32 >>> (((2 : Int32)).toUInt32 &&& Int32.toUInt32 31)).toInt32 &&& (858993459 : Int32))) + (((((x0 - (((x0).toUInt32 >>> (((1 : Int32)).toUInt32 &&& Int32.toUInt32 31)).toInt32 &&& (1431655765 : Int32))) &&& (858993459 : Int32)) + ((((x0 - (((x0).toUInt32 >>> (((1 : Int32)).toUInt32 &&& Int32.toUInt32 31)).toInt32 &&& (1431655765 : Int32)))).toUInt32 >>> (((2 : Int32)).toUInt32 &&& Int32.toUInt32 31)).toInt32 &&& (858993459 : Int32)))).toUInt32 >>> (((4 : Int32)).toUInt32 &&& Int32.toUInt32 31)).toInt32) &&& (252645135 : Int32)) + (((((((x0 - (((x0).toUInt32 >>> (((1 : Int32)).toUInt32 &&& Int32.toUInt32 31)).toInt32 &&& (1431655765 : Int32))) &&& (858993459 : Int32)) + ((((x0 - (((x0).toUInt32 >>> (((1 : Int32)).toUInt32 &&& Int32.toUInt32 31)).toInt32 &&& (1431655765 : Int32)))).toUInt32 >>> (((2 : Int32)).toUInt32 &&& Int32.toUInt32 31)).toInt32 &&& (858993459 : Int32))) + (((((x0 - (((x0).toUInt32 >>> (((1 : Int32)).toUInt32 &&& Int32.toUInt32 31)).toInt32 &&& (1431655765 : Int32))) &&& (858993459 : Int32)) + ((((x0 - (((x0).toUInt32 >>> (((1 : Int32)).toUInt32 &&& Int32.toUInt32 31)).toInt32 &&& (1431655765 : Int32)))).toUInt32 >>> (((2 : Int32)).toUInt32 &&& Int32.toUInt32 31)).toInt32 &&& (858993459 : Int32)))).toUInt32 >>> (((4 : Int32)).toUInt32 &&& Int32.toUInt32 31)).toInt32) &&& (252645135 : Int32))).toUInt32 >>> (((8 : Int32)).toUInt32 &&& Int32.toUInt32 31)).toInt32) + ((((((((x0 - (((x0).toUInt32 >>> (((1 : Int32)).toUInt32 &&& Int32.toUInt32 31)).toInt32 &&& (1431655765 : Int32))) &&& (858993459 : Int32)) + ((((x0 - (((x0).toUInt32 >>> (((1 : Int32)).toUInt32 &&& Int32.toUInt32 31)).toInt32 &&& (1431655765 : Int32)))).toUInt32 >>> (((2 : Int32)).toUInt32 &&& Int32.toUInt32 31)).toInt32 &&& (858993459 : Int32))) + (((((x0 - (((x0).toUInt32 >>> (((1 : Int32)).toUInt32 &&& Int32.toUInt32 31)).toInt32 &&& (1431655765 : Int32))) &&& (858993459 : Int32)) + ((((x0 - (((x0).toUInt32 >>> (((1 : Int32)).toUInt32 &&& Int32.toUInt32 31)).toInt32 &&& (1431655765 : Int32)))).toUInt32 >>> (((2 : Int32)).toUInt32 &&& Int32.toUInt32 31)).toInt32 &&& (858993459 : Int32)))).toUInt32 >>> (((4 : Int32)).toUInt32 &&& Int32.toUInt32 31)).toInt32) &&& (252645135 : Int32)) + (((((((x0 - (((x0).toUInt32 >>> (((1 : Int32)).toUInt32 &&& Int32.toUInt32 31)).toInt32 &&& (1431655765 : Int32))) &&& (858993459 : Int32)) + ((((x0 - (((x0).toUInt32 >>> (((1 : Int32)).toUInt32 &&& Int32.toUInt32 31)).toInt32 &&& (1431655765 : Int32)))).toUInt32 >>> (((2 : Int32)).toUInt32 &&& Int32.toUInt32 31)).toInt32 &&& (858993459 : Int32))) + (((((x0 - (((x0).toUInt32 >>> (((1 : Int32)).toUInt32 &&& Int32.toUInt32 31)).toInt32 &&& (1431655765 : Int32))) &&& (858993459 : Int32)) + ((((x0 - (((x0).toUInt32 >>> (((1 : Int32)).toUInt32 &&& Int32.toUInt32 31)).toInt32 &&& (1431655765 : Int32)))).toUInt32 >>> (((2 : Int32)).toUInt32 &&& Int32.toUInt32 31)).toInt32 &&& (858993459 : Int32)))).toUInt32 >>> (((4 : Int32)).toUInt32 &&& Int32.toUInt32 31)).toInt32) &&& (252645135 : Int32))).toUInt32 >>> (((8 : Int32)).toUInt32 &&& Int32.toUInt32 31)).toInt32)).toUInt32 >>> (((16 : Int32)).toUInt32 &&& Int32.toUInt32 31)).toInt32) &&& (63 : Int32))
def p_Dawn_canAllHaveAnHour_l18 (f : Nat) (x1 : Int32) (k18 : qMem → Int32 → Option (Int32 × qMem)) (σ : qMem) (x2 : Int32) : Option (Int32 × qMem) :=
  if (σ 96 6) ≤ x2 then
    some ((1 : Int32), σ)
  else
    if ((x1 >>> (x2 &&& 31)) &&& (1 : Int32)) = (1 : Int32) then
      if qin x2 8 = true then
      (p_Promises_of f σ (σ 97 (qi x2)) (2 : Int32)).bind fun u2 =>
      if qin x2 8 = true then
      (p_Promises_of f σ (σ 97 (qi x2)) (3 : Int32)).bind fun u5 =>
      if qin u2 4 = true then
      if qin u2 4 = true then
      if qin u5 8 = true then
      if qin u5 8 = true then
      if qin x2 8 = true then
      if ((qmu (qmu σ 101 (qi u2) ((σ 101 (qi u2)) + (1 : Int32))) 102 (qi u5) (((qmu σ 101 (qi u2) ((σ 101 (qi u2)) + (1 : Int32))) 102 (qi u5)) + (1 : Int32))) 99 (qi x2)) = 0 then
        if qin u2 4 = true then
        if (5 : Int32) < ((qmu (qmu σ 101 (qi u2) ((σ 101 (qi u2)) + (1 : Int32))) 102 (qi u5) (((qmu σ 101 (qi u2) ((σ 101 (qi u2)) + (1 : Int32))) 102 (qi u5)) + (1 : Int32))) 101 (qi u2)) then
          some ((0 : Int32), (qmu (qmu σ 101 (qi u2) ((σ 101 (qi u2)) + (1 : Int32))) 102 (qi u5) (((qmu σ 101 (qi u2) ((σ 101 (qi u2)) + (1 : Int32))) 102 (qi u5)) + (1 : Int32))))
        else
          if qin u5 8 = true then
          if qin u5 8 = true then
          if ((qmu (qmu σ 101 (qi u2) ((σ 101 (qi u2)) + (1 : Int32))) 102 (qi u5) (((qmu σ 101 (qi u2) ((σ 101 (qi u2)) + (1 : Int32))) 102 (qi u5)) + (1 : Int32))) 102 (qi u5)) ≤ ((qmu (qmu σ 101 (qi u2) ((σ 101 (qi u2)) + (1 : Int32))) 102 (qi u5) (((qmu σ 101 (qi u2) ((σ 101 (qi u2)) + (1 : Int32))) 102 (qi u5)) + (1 : Int32))) 32 (qi u5)) then
            k18 (qmu (qmu σ 101 (qi u2) ((σ 101 (qi u2)) + (1 : Int32))) 102 (qi u5) (((qmu σ 101 (qi u2) ((σ 101 (qi u2)) + (1 : Int32))) 102 (qi u5)) + (1 : Int32))) (x2 + (1 : Int32))
          else
            some ((0 : Int32), (qmu (qmu σ 101 (qi u2) ((σ 101 (qi u2)) + (1 : Int32))) 102 (qi u5) (((qmu σ 101 (qi u2) ((σ 101 (qi u2)) + (1 : Int32))) 102 (qi u5)) + (1 : Int32))))
          else none
          else none
        else none
      else
        some ((0 : Int32), (qmu (qmu σ 101 (qi u2) ((σ 101 (qi u2)) + (1 : Int32))) 102 (qi u5) (((qmu σ 101 (qi u2) ((σ 101 (qi u2)) + (1 : Int32))) 102 (qi u5)) + (1 : Int32))))
      else none
      else none
      else none
      else none
      else none
      else none
      else none
    else
      k18 σ (x2 + (1 : Int32))
def p_Dawn_canAllHaveAnHour (f : Nat) (σ : qMem) (x1 : Int32) : Option (Int32 × qMem) :=
  (p_Ar_fill f σ 101 4 (0 : Int32)).bind fun u15 =>
  (p_Ar_fill f u15 102 8 (0 : Int32)).bind fun u17 =>
  qfix2 (p_Dawn_canAllHaveAnHour_l18 f x1 ) f u17 (0 : Int32)
def p_Dawn_findLargest_l60 (f : Nat) (k60 : qMem → Int32 → Option (qMem)) (σ : qMem) (x1 : Int32) : Option (qMem) :=
  if ((1 : Int32) <<< ((σ 96 6) &&& 31)) ≤ x1 then
    some σ
  else
    if qin x1 256 = true then
    if (σ 100 (qi x1)) = 0 then
      if qin x1 256 = true then
      k60 (qmu σ 100 (qi x1) (vp_nar .boolean (0 : Int32))) (x1 + (1 : Int32))
      else none
    else
      (p_In_bitCount f σ x1).bind fun u3 =>
      if u3 = (σ 96 8) then
        if qin x1 256 = true then
        k60 (qmu σ 100 (qi x1) (vp_nar .boolean (1 : Int32))) (x1 + (1 : Int32))
        else none
      else
        if qin x1 256 = true then
        k60 (qmu σ 100 (qi x1) (vp_nar .boolean (0 : Int32))) (x1 + (1 : Int32))
        else none
    else none
def p_Dawn_findLargest_l7 (f : Nat) (k7 : qMem → Int32 → Option (qMem)) (σ : qMem) (x1 : Int32) : Option (qMem) :=
  if ((1 : Int32) <<< ((σ 96 6) &&& 31)) ≤ x1 then
    qfix2 (p_Dawn_findLargest_l60 f ) f σ (0 : Int32)
  else
    (p_Dawn_canAllHaveAnHour f σ x1).bind fun u7 =>
    if qin x1 256 = true then
    if qin x1 256 = true then
    if ((qmu u7.2 100 (qi x1) (vp_nar .boolean u7.1)) 100 (qi x1)) = 0 then
      k7 (qmu u7.2 100 (qi x1) (vp_nar .boolean u7.1)) (x1 + (1 : Int32))
    else
      (p_In_bitCount f (qmu u7.2 100 (qi x1) (vp_nar .boolean u7.1)) x1).bind fun u11 =>
      k7 (qmu (qmu u7.2 100 (qi x1) (vp_nar .boolean u7.1)) 96 8 (if ((qmu u7.2 100 (qi x1) (vp_nar .boolean u7.1)) 96 8) < u11 then u11 else ((qmu u7.2 100 (qi x1) (vp_nar .boolean u7.1)) 96 8))) (x1 + (1 : Int32))
    else none
    else none
def p_Dawn_findLargest (f : Nat) (σ : qMem) : Option (qMem) :=
  qfix2 (p_Dawn_findLargest_l7 f ) f (qmu σ 96 8 (0 : Int32)) (0 : Int32)
def p_Dawn_leadsToLargest_l9 (f : Nat) (σ : qMem) (x1 : Int32) (x3 : Int32) (k9 : Int32 → Option (Int32)) (x4 : Int32) : Option (Int32) :=
  if ((1 : Int32) <<< ((σ 96 6) &&& 31)) ≤ x4 then
    some (0 : Int32)
  else
    if qin x4 256 = true then
    if (σ 100 (qi x4)) = 0 then
      k9 (x4 + (1 : Int32))
    else
      if (x4 &&& x3) = x1 then
        some (1 : Int32)
      else
        k9 (x4 + (1 : Int32))
    else none
def p_Dawn_leadsToLargest (f : Nat) (σ : qMem) (x1 : Int32) (x2 : Int32) : Option (Int32) :=
  qfix1 (p_Dawn_leadsToLargest_l9 f σ x1 (((1 : Int32) <<< (x2 &&& 31)) - (1 : Int32)) ) f (0 : Int32)
def p_Dawn_alike (f : Nat) (σ : qMem) (x1 : Int32) (x2 : Int32) (x3 : Int32) : Option (Int32) :=
  if qin x1 8 = true then
  (p_Promises_of f σ (σ 97 (qi x1)) x3).bind fun u2 =>
  if qin x2 8 = true then
  (p_Promises_of f σ (σ 97 (qi x2)) x3).bind fun u5 =>
  if u2 = u5 then
    some (1 : Int32)
  else
    some (0 : Int32)
  else none
  else none
def p_Dawn_isFree_l2 (f : Nat) (σ : qMem) (x1 : Int32) (x2 : Int32) (k2 : Int32 → Option (Int32)) (x3 : Int32) : Option (Int32) :=
  if x1 ≤ x3 then
    some (1 : Int32)
  else
    if qin x3 8 = true then
    if (σ 98 (qi x3)) = x2 then
      (p_Dawn_alike f σ x3 x1 (2 : Int32)).bind fun u2 =>
      if u2 = 0 then
        (p_Dawn_alike f σ x3 x1 (3 : Int32)).bind fun u4 =>
        if u4 = 0 then
          k2 (x3 + (1 : Int32))
        else
          some (0 : Int32)
      else
        some (0 : Int32)
    else
      k2 (x3 + (1 : Int32))
    else none
def p_Dawn_isFree (f : Nat) (σ : qMem) (x1 : Int32) (x2 : Int32) : Option (Int32) :=
  qfix1 (p_Dawn_isFree_l2 f σ x1 x2 ) f (0 : Int32)
def p_Dawn_dealFrom_b73 (f : Nat) (rec_dealFrom : qMem → Int32 → Int32 → Option (Int32 × qMem)) (σ : qMem) (x1 : Int32) (x2 : Int32) : Option (Int32 × qMem) :=
  if qin x1 8 = true then
  (p_Dawn_leadsToLargest f (qmu σ 98 (qi x1) (-1000000 : Int32)) x2 (x1 + (1 : Int32))).bind fun u2 =>
  if u2 = 0 then
    some ((0 : Int32), (qmu σ 98 (qi x1) (-1000000 : Int32)))
  else
    (rec_dealFrom (qmu σ 98 (qi x1) (-1000000 : Int32)) (x1 + (1 : Int32)) x2).bind fun u4 =>
    if u4.1 = 0 then
      some ((0 : Int32), u4.2)
    else
      some ((1 : Int32), u4.2)
  else none
def p_Dawn_dealFrom_l30 (f : Nat) (rec_dealFrom : qMem → Int32 → Int32 → Option (Int32 × qMem)) (x1 : Int32) (x2 : Int32) (x3 : Int32) (k30 : qMem → Int32 → Option (Int32 × qMem)) (σ : qMem) (x4 : Int32) : Option (Int32 × qMem) :=
  if (5 : Int32) ≤ x4 then
    p_Dawn_dealFrom_b73 f rec_dealFrom σ x1 x2
  else
    (p_Dawn_isFree f σ x1 x4).bind fun u6 =>
    if u6 = 0 then
      k30 σ (x4 + (1 : Int32))
    else
      if qin x1 8 = true then
      (rec_dealFrom (qmu σ 98 (qi x1) x4) (x1 + (1 : Int32)) x3).bind fun u9 =>
      if u9.1 = 0 then
        k30 u9.2 (x4 + (1 : Int32))
      else
        some ((1 : Int32), u9.2)
      else none
def p_Dawn_dealFrom_body (f : Nat) (rec_dealFrom : qMem → Int32 → Int32 → Option (Int32 × qMem)) (σ : qMem) (x1 : Int32) (x2 : Int32) : Option (Int32 × qMem) :=
  if x1 < (σ 96 6) then
    (p_Dawn_leadsToLargest f σ (x2 ||| ((1 : Int32) <<< (x1 &&& 31))) (x1 + (1 : Int32))).bind fun u11 =>
    if u11 = 0 then
      p_Dawn_dealFrom_b73 f rec_dealFrom σ x1 x2
    else
      qfix2 (p_Dawn_dealFrom_l30 f rec_dealFrom x1 x2 (x2 ||| ((1 : Int32) <<< (x1 &&& 31))) ) f σ (0 : Int32)
  else
    some ((1 : Int32), σ)
def p_Dawn_dealFrom (f : Nat) : Nat → qMem → Int32 → Int32 → Option (Int32 × qMem)
  | 0 => fun _ _ _ => none
  | n + 1 => p_Dawn_dealFrom_body f (p_Dawn_dealFrom f n)
def p_Dawn_deal_b88 (f : Nat) (σ : qMem) : Option (qMem) :=
  (p_Dawn_findLargest f σ).bind fun u1 =>
  (p_Dawn_dealFrom f 10 u1 (0 : Int32) (0 : Int32)).bind fun u3 =>
  some u3.2
def p_Dawn_deal_l7 (f : Nat) (x1 : Int32) (x2 : Int32) (k7 : qMem → Int32 → Option (qMem)) (σ : qMem) (x3 : Int32) : Option (qMem) :=
  (p_Promises_size f σ).bind fun u5 =>
  if u5 ≤ x3 then
    p_Dawn_deal_b88 f σ
  else
    if (8 : Int32) ≤ (σ 96 6) then
      p_Dawn_deal_b88 f σ
    else
      if ((x1 >>> (x3 &&& 31)) &&& (1 : Int32)) = (1 : Int32) then
        if qin (σ 96 6) 8 = true then
        (p_Promises_of f (qmu σ 97 (qi (σ 96 6)) x3) x3 (3 : Int32)).bind fun u8 =>
        (p_Spans_covers_33 f (qmu σ 97 (qi (σ 96 6)) x3) u8 x2).bind fun u10 =>
        if qin ((qmu σ 97 (qi (σ 96 6)) x3) 96 6) 8 = true then
        k7 (qmu (qmu (qmu σ 97 (qi (σ 96 6)) x3) 99 (qi ((qmu σ 97 (qi (σ 96 6)) x3) 96 6)) (vp_nar .boolean u10)) 96 6 (((qmu (qmu σ 97 (qi (σ 96 6)) x3) 99 (qi ((qmu σ 97 (qi (σ 96 6)) x3) 96 6)) (vp_nar .boolean u10)) 96 6) + (1 : Int32))) (x3 + (1 : Int32))
        else none
        else none
      else
        k7 σ (x3 + (1 : Int32))
def p_Dawn_deal (f : Nat) (σ : qMem) (x1 : Int32) (x2 : Int32) : Option (qMem) :=
  qfix2 (p_Dawn_deal_l7 f x1 x2 ) f (qmu σ 96 6 (0 : Int32)) (0 : Int32)
def p_Dawn_howMany (f : Nat) (σ : qMem) : Option (Int32) :=
  some (σ 96 8)
def p_Dawn_hourOf_l2 (f : Nat) (σ : qMem) (x1 : Int32) (k2 : Int32 → Option (Int32)) (x2 : Int32) : Option (Int32) :=
  if (σ 96 6) ≤ x2 then
    some (-1000000 : Int32)
  else
    if qin x2 8 = true then
    if (σ 97 (qi x2)) = x1 then
      if qin x2 8 = true then
      some (σ 98 (qi x2))
      else none
    else
      k2 (x2 + (1 : Int32))
    else none
def p_Dawn_hourOf (f : Nat) (σ : qMem) (x1 : Int32) : Option (Int32) :=
  qfix1 (p_Dawn_hourOf_l2 f σ x1 ) f (0 : Int32)
def p_C_dawn_b50 (f : Nat) (σ : qMem) (x1 : Int32) (x2 : Int32) (x3 : Int32) : Option (Int32 × qMem) :=
  (p_Dawn_deal f σ x1 x2).bind fun u1 =>
  if x3 = (-1000000 : Int32) then
    (p_Dawn_howMany f u1).bind fun u5 =>
    some (u5, u1)
  else
    (p_Dawn_hourOf f u1 x3).bind fun u3 =>
    some (u3, u1)
def p_C_dawn (f : Nat) (σ : qMem) (x1 : Int32) (x2 : Int32) (x3 : Int32) : Option (Int32 × qMem) :=
  (p_Promises_areThere f σ x1).bind fun u7 =>
  if u7 = 0 then
    some ((-1000001 : Int32), σ)
  else
    (p_In_bitCount f σ x1).bind fun u9 =>
    if (8 : Int32) < u9 then
      some ((-1000001 : Int32), σ)
    else
      (p_C_noDay f σ x2).bind fun u11 =>
      if u11 = 0 then
        if x3 = (-1000000 : Int32) then
          p_C_dawn_b50 f σ x1 x2 x3
        else
          (p_C_outside f σ x3 (0 : Int32) (11 : Int32)).bind fun u13 =>
          if u13 = 0 then
            p_C_dawn_b50 f σ x1 x2 x3
          else
            some ((-1000001 : Int32), σ)
      else
        some ((-1000001 : Int32), σ)
def p_C_day (f : Nat) (σ : qMem) (x1 : Int32) : Option (Int32 × qMem) :=
  (p_C_noDay f σ x1).bind fun u1 =>
  if u1 = 0 then
    some ((σ 0 15), (qmu σ 0 15 x1))
  else
    some ((-1000001 : Int32), σ)
def p_C_kindToday (f : Nat) (σ : qMem) (x1 : Int32) : Option (Int32) :=
  (p_Acts_ended f σ x1 (σ 0 15)).bind fun u1 =>
  if u1 = 0 then
    (p_Promises_isObit f σ x1).bind fun u3 =>
    if u3 = 0 then
      (p_Joins_otherOf f σ x1 (σ 0 15)).bind fun u5 =>
      if u5 = (-1000000 : Int32) then
        some (1 : Int32)
      else
        some (2 : Int32)
    else
      some (3 : Int32)
  else
    some (4 : Int32)
def p_C_kind (f : Nat) (σ : qMem) (x1 : Int32) : Option (Int32) :=
  (p_Promises_has f σ x1).bind fun u1 =>
  if u1 = 0 then
    some (-1000001 : Int32)
  else
    (p_C_kindToday f σ x1).bind fun u3 =>
    some u3
def p_C_as_b48 (f : Nat) (σ : qMem) (x1 : Int32) : Option (Int32 × qMem) :=
  (p_Promises_of f σ x1 (1 : Int32)).bind fun u1 =>
  (p_C_foundNothing f σ u1).bind fun u3 =>
  some (u3.1, u3.2)
def p_C_as_b62 (f : Nat) (σ : qMem) : Option (Int32 × qMem) :=
  (p_C_found f σ (3 : Int32)).bind fun u5 =>
  some (u5.1, u5.2)
def p_C_as (f : Nat) (σ : qMem) (x1 : Int32) (x2 : Int32) : Option (Int32 × qMem) :=
  (p_Promises_has f σ x1).bind fun u7 =>
  if u7 = 0 then
    some ((-1000001 : Int32), σ)
  else
    (p_C_outside f σ x2 (0 : Int32) (4 : Int32)).bind fun u9 =>
    if u9 = 0 then
      (p_C_kindToday f σ x1).bind fun u11 =>
      if x2 = 0 then
        p_C_as_b48 f σ x1
      else
        if x2 = u11 then
          p_C_as_b48 f σ x1
        else
          if x2 = (1 : Int32) then
            if u11 = (2 : Int32) then
              p_C_as_b48 f σ x1
            else
              p_C_as_b62 f σ
          else
            p_C_as_b62 f σ
    else
      some ((-1000001 : Int32), σ)
def p_C_leaveInTrace (f : Nat) (σ : qMem) (x1 : Int32) : Option (qMem) :=
  if (16 : Int32) ≤ (σ 0 14) then
    some σ
  else
    if qin (σ 0 14) 16 = true then
    some (qmu (qmu σ 103 (qi (σ 0 14)) x1) 0 14 (((qmu σ 103 (qi (σ 0 14)) x1) 0 14) + (1 : Int32)))
    else none
def p_C_sizeAs_body (f : Nat) (rec_sizeAs : qMem → Int32 → Int32 → Int32 → Option (Int32 × qMem)) (rec_markAs : qMem → Int32 → Int32 → Int32 → Option (Int32 × qMem)) (σ : qMem) (x1 : Int32) (x2 : Int32) (x3 : Int32) : Option (Int32 × qMem) :=
  if x3 ≤ (16 : Int32) then
    if x1 = (1 : Int32) then
      (p_C_leaveInTrace f σ (11 : Int32)).bind fun u1 =>
      (rec_sizeAs u1 (0 : Int32) x2 (x3 + (1 : Int32))).bind fun u3 =>
      (p_C_owedTill f u3.2 x2 (u3.2 0 15)).bind fun u5 =>
      some ((u3.1 + u5), u3.2)
    else if x1 = (2 : Int32) then
      (p_C_leaveInTrace f σ (12 : Int32)).bind fun u7 =>
      (rec_sizeAs u7 (1 : Int32) x2 (x3 + (1 : Int32))).bind fun u9 =>
      some (((2 : Int32) * u9.1), u9.2)
    else if x1 = (3 : Int32) then
      (p_C_leaveInTrace f σ (13 : Int32)).bind fun u11 =>
      (rec_sizeAs u11 (0 : Int32) x2 (x3 + (1 : Int32))).bind fun u13 =>
      (p_Promises_of f u13.2 x2 (9 : Int32)).bind fun u15 =>
      some ((u13.1 + u15), u13.2)
    else if x1 = (4 : Int32) then
      (p_C_leaveInTrace f σ (14 : Int32)).bind fun u17 =>
      (rec_markAs u17 x1 x2 (x3 + (1 : Int32))).bind fun u19 =>
      some (((0 : Int32) - u19.1), u19.2)
    else
      (p_C_leaveInTrace f σ (10 : Int32)).bind fun u21 =>
      (p_Promises_of f u21 x2 (4 : Int32)).bind fun u23 =>
      some (u23, u21)
  else
    some ((0 : Int32), σ)
def p_C_markAs_body (f : Nat) (rec_sizeAs : qMem → Int32 → Int32 → Int32 → Option (Int32 × qMem)) (rec_markAs : qMem → Int32 → Int32 → Int32 → Option (Int32 × qMem)) (σ : qMem) (x1 : Int32) (x2 : Int32) (x3 : Int32) : Option (Int32 × qMem) :=
  if x3 ≤ (16 : Int32) then
    if x1 = (1 : Int32) then
      (p_C_leaveInTrace f σ (21 : Int32)).bind fun u1 =>
      (rec_markAs u1 (0 : Int32) x2 (x3 + (1 : Int32))).bind fun u3 =>
      (p_Promises_of f u3.2 x2 (2 : Int32)).bind fun u5 =>
      some ((u3.1 + ((100 : Int32) * u5)), u3.2)
    else if x1 = (2 : Int32) then
      (p_C_leaveInTrace f σ (22 : Int32)).bind fun u7 =>
      (rec_markAs u7 (1 : Int32) x2 (x3 + (1 : Int32))).bind fun u9 =>
      (p_Joins_otherOf f u9.2 x2 (u9.2 0 15)).bind fun u11 =>
      some ((u9.1 + u11), u9.2)
    else if x1 = (3 : Int32) then
      (p_C_leaveInTrace f σ (23 : Int32)).bind fun u13 =>
      (rec_markAs u13 (0 : Int32) x2 (x3 + (1 : Int32))).bind fun u15 =>
      (rec_sizeAs u15.2 x1 x2 (x3 + (1 : Int32))).bind fun u17 =>
      some ((u15.1 + u17.1), u17.2)
    else
      (p_C_leaveInTrace f σ (20 : Int32)).bind fun u19 =>
      (p_Promises_of f u19 x2 (1 : Int32)).bind fun u21 =>
      some (u21, u19)
  else
    some ((0 : Int32), σ)
def p_C_grp (f : Nat) : Nat → (qMem → Int32 → Int32 → Int32 → Option (Int32 × qMem)) × (qMem → Int32 → Int32 → Int32 → Option (Int32 × qMem))
  | 0 => (fun _ _ _ _ => none, fun _ _ _ _ => none)
  | n + 1 => (p_C_sizeAs_body f (p_C_grp f n).1 (p_C_grp f n).2, p_C_markAs_body f (p_C_grp f n).1 (p_C_grp f n).2)
def p_C_sizeAs (f n : Nat) : qMem → Int32 → Int32 → Int32 → Option (Int32 × qMem) := (p_C_grp f n).1
def p_C_markAs (f n : Nat) : qMem → Int32 → Int32 → Int32 → Option (Int32 × qMem) := (p_C_grp f n).2
def p_C_ask (f : Nat) (σ : qMem) (x1 : Int32) (x2 : Int32) : Option (Int32 × qMem) :=
  (p_Promises_has f σ x1).bind fun u1 =>
  if u1 = 0 then
    some ((-1000001 : Int32), σ)
  else
    (p_C_outside f σ x2 (0 : Int32) (1 : Int32)).bind fun u3 =>
    if u3 = 0 then
      (p_C_kindToday f (qmu σ 0 14 (0 : Int32)) x1).bind fun u5 =>
      if x2 = 0 then
        (p_C_sizeAs f 8 (qmu σ 0 14 (0 : Int32)) u5 x1 (0 : Int32)).bind fun u9 =>
        some (u9.1, u9.2)
      else
        (p_C_markAs f 8 (qmu σ 0 14 (0 : Int32)) u5 x1 (0 : Int32)).bind fun u7 =>
        some (u7.1, u7.2)
    else
      some ((-1000001 : Int32), σ)
def p_C_trace (f : Nat) (σ : qMem) (x1 : Int32) : Option (Int32) :=
  (p_C_outside f σ x1 (0 : Int32) ((σ 0 14) - (1 : Int32))).bind fun u1 =>
  if u1 = 0 then
    if qin x1 16 = true then
    some (σ 103 (qi x1))
    else none
  else
    some (-1000000 : Int32)
def p_Sheets_howMany_l4 (f : Nat) (σ : qMem) (k4 : Int32 → Int32 → Option (Int32)) (x1 : Int32) (x2 : Int32) : Option (Int32) :=
  if (8 : Int32) ≤ x2 then
    some x1
  else
    (p_Sheets_missing f σ x2).bind fun u1 =>
    if u1 = 0 then
      k4 (x1 + (1 : Int32)) (x2 + (1 : Int32))
    else
      k4 x1 (x2 + (1 : Int32))
def p_Sheets_howMany (f : Nat) (σ : qMem) : Option (Int32) :=
  qfix2 (p_Sheets_howMany_l4 f σ ) f (0 : Int32) (0 : Int32)
def p_Feasts_size (f : Nat) (σ : qMem) : Option (Int32) :=
  some (σ 29 3)
def p_Lines_howManyGood_l4 (f : Nat) (σ : qMem) (k4 : Int32 → Int32 → Option (Int32)) (x1 : Int32) (x2 : Int32) : Option (Int32) :=
  if (σ 42 9) ≤ x2 then
    some x1
  else
    if qin x2 60 = true then
    if (σ 46 (qi x2)) = 0 then
      k4 (x1 + (0 : Int32)) (x2 + (1 : Int32))
    else
      k4 (x1 + (1 : Int32)) (x2 + (1 : Int32))
    else none
def p_Lines_howManyGood (f : Nat) (σ : qMem) : Option (Int32) :=
  qfix2 (p_Lines_howManyGood_l4 f σ ) f (0 : Int32) (0 : Int32)
def p_C_howManyGone_l4 (f : Nat) (σ : qMem) (k4 : Int32 → Int32 → Option (Int32)) (x1 : Int32) (x2 : Int32) : Option (Int32) :=
  (p_Promises_size f σ).bind fun u1 =>
  if u1 ≤ x2 then
    some x1
  else
    (p_C_kindToday f σ x2).bind fun u3 =>
    if u3 = (4 : Int32) then
      k4 (x1 + (1 : Int32)) (x2 + (1 : Int32))
    else
      k4 x1 (x2 + (1 : Int32))
def p_C_howManyGone (f : Nat) (σ : qMem) : Option (Int32) :=
  qfix2 (p_C_howManyGone_l4 f σ ) f (0 : Int32) (0 : Int32)
def p_Acts_size (f : Nat) (σ : qMem) : Option (Int32) :=
  some (σ 37 5)
def p_Houses_howManyBids (f : Nat) (σ : qMem) : Option (Int32) :=
  some (σ 53 10)
def p_Deeds_size (f : Nat) (σ : qMem) : Option (Int32) :=
  some (σ 27 1)
def p_C_all (f : Nat) (σ : qMem) (x1 : Int32) : Option (Int32) :=
  if x1 = (0 : Int32) then
    (p_Sheets_howMany f σ).bind fun u1 =>
    some u1
  else if x1 = (1 : Int32) then
    (p_Promises_size f σ).bind fun u3 =>
    some u3
  else if x1 = (2 : Int32) then
    (p_Feasts_size f σ).bind fun u5 =>
    some u5
  else if x1 = (3 : Int32) then
    (p_Lines_size f σ).bind fun u7 =>
    some u7
  else if x1 = (4 : Int32) then
    (p_Lines_howManyGood f σ).bind fun u9 =>
    some u9
  else if x1 = (5 : Int32) then
    (p_C_howManyGone f σ).bind fun u11 =>
    some u11
  else if x1 = (6 : Int32) then
    (p_Acts_size f σ).bind fun u13 =>
    some u13
  else if x1 = (7 : Int32) then
    (p_Houses_howManyBids f σ).bind fun u15 =>
    some u15
  else if x1 = (8 : Int32) then
    (p_Deeds_size f σ).bind fun u17 =>
    some u17
  else
    some (-1000001 : Int32)
def p_C_status (f : Nat) (σ : qMem) : Option (Int32) :=
  some (σ 0 16)
def p_M_in (f : Nat) (σ : qMem) (x0 : Int64) (x2 : Int64) (x4 : Int64) : Option (Int32) :=
  if (lg_cmp x0 x2) < 0 then
    some (0 : Int32)
  else
    if 0 < (lg_cmp x0 x4) then
      some (0 : Int32)
    else
      some (1 : Int32)
def p_M_isSheet (f : Nat) (σ : qMem) (x0 : Int32) : Option (Int32) :=
  (p_M_in f σ (x0).toInt64 (0 : Int64) (7 : Int64)).bind fun u1 =>
  some (vp_nar .boolean u1)
def p_M_finding (f : Nat) (σ : qMem) (x1 : Int32) : Option (Int32 × qMem) :=
  some (((-1000010 : Int32) - x1), (qmu σ 104 1 x1))
def p_M_sheet_l65 (f : Nat) (x1 : Int32) (x3 : Int32) (k65 : qMem → Int32 → Option (Int32 × qMem)) (σ : qMem) (x4 : Int32) : Option (Int32 × qMem) :=
  if (60 : Int32) ≤ x4 then
    some (x3, σ)
  else
    if qin (((60 : Int32) * x1) + x4) 480 = true then
    k65 (qmu σ 107 (qi (((60 : Int32) * x1) + x4)) (0 : Int32)) (x4 + (1 : Int32))
    else none
def p_M_sheet (f : Nat) (σ : qMem) (x1 : Int32) (x2 : Int32) (x3 : Int32) : Option (Int32 × qMem) :=
  (p_M_isSheet f (qmu σ 104 0 (0 : Int32)) x1).bind fun u2 =>
  if u2 = 0 then
    some ((-1000001 : Int32), (qmu σ 104 0 (0 : Int32)))
  else
    (p_M_in f (qmu σ 104 0 (0 : Int32)) (x2).toInt64 (0 : Int64) (2 : Int64)).bind fun u4 =>
    if u4 = 0 then
      some ((-1000001 : Int32), (qmu σ 104 0 (0 : Int32)))
    else
      if x3 ≤ (60 : Int32) then
        if 0 ≤ x3 then
          if qin x1 8 = true then
          if qin x1 8 = true then
          qfix2 (p_M_sheet_l65 f x1 x3 ) f (qmu (qmu (qmu (qmu σ 104 0 (0 : Int32)) 104 1 (0 : Int32)) 105 (qi x1) x2) 106 (qi x1) x3) (0 : Int32)
          else none
          else none
        else
          (p_M_finding f (qmu (qmu σ 104 0 (0 : Int32)) 104 1 (0 : Int32)) (4 : Int32)).bind fun u8 =>
          some (u8.1, u8.2)
      else
        some ((-1000001 : Int32), (qmu σ 104 0 (0 : Int32)))
def p_M_set (f : Nat) (σ : qMem) (x1 : Int32) (x2 : Int32) (x3 : Int32) : Option (Int32 × qMem) :=
  (p_M_isSheet f (qmu σ 104 0 (0 : Int32)) x1).bind fun u1 =>
  if u1 = 0 then
    some ((-1000001 : Int32), (qmu σ 104 0 (0 : Int32)))
  else
    if qin x1 8 = true then
    if 0 ≤ ((qmu (qmu σ 104 0 (0 : Int32)) 104 1 (0 : Int32)) 105 (qi x1)) then
      if qin x1 8 = true then
      (p_M_in f (qmu (qmu σ 104 0 (0 : Int32)) 104 1 (0 : Int32)) (x2).toInt64 (0 : Int64) (((((qmu (qmu σ 104 0 (0 : Int32)) 104 1 (0 : Int32)) 106 (qi x1)) - (1 : Int32))).toInt64)).bind fun u5 =>
      if u5 = 0 then
        (p_M_finding f (qmu (qmu σ 104 0 (0 : Int32)) 104 1 (0 : Int32)) (2 : Int32)).bind fun u15 =>
        some (u15.1, u15.2)
      else
        if qin x1 8 = true then
        if ((qmu (qmu σ 104 0 (0 : Int32)) 104 1 (0 : Int32)) 105 (qi x1)) = 0 then
          if qin (((60 : Int32) * x1) + x2) 480 = true then
          if qin (((60 : Int32) * x1) + x2) 480 = true then
          some (((qmu (qmu (qmu σ 104 0 (0 : Int32)) 104 1 (0 : Int32)) 107 (qi (((60 : Int32) * x1) + x2)) (x3).toInt8.toInt32) 107 (qi (((60 : Int32) * x1) + x2))), (qmu (qmu (qmu σ 104 0 (0 : Int32)) 104 1 (0 : Int32)) 107 (qi (((60 : Int32) * x1) + x2)) (x3).toInt8.toInt32))
          else none
          else none
        else
          if qin x1 8 = true then
          if ((qmu (qmu σ 104 0 (0 : Int32)) 104 1 (0 : Int32)) 105 (qi x1)) = (1 : Int32) then
            if qin (((60 : Int32) * x1) + x2) 480 = true then
            if qin (((60 : Int32) * x1) + x2) 480 = true then
            some (((qmu (qmu (qmu σ 104 0 (0 : Int32)) 104 1 (0 : Int32)) 107 (qi (((60 : Int32) * x1) + x2)) (x3).toInt16.toInt32) 107 (qi (((60 : Int32) * x1) + x2))), (qmu (qmu (qmu σ 104 0 (0 : Int32)) 104 1 (0 : Int32)) 107 (qi (((60 : Int32) * x1) + x2)) (x3).toInt16.toInt32))
            else none
            else none
          else
            if qin (((60 : Int32) * x1) + x2) 480 = true then
            if qin (((60 : Int32) * x1) + x2) 480 = true then
            some (((qmu (qmu (qmu σ 104 0 (0 : Int32)) 104 1 (0 : Int32)) 107 (qi (((60 : Int32) * x1) + x2)) x3) 107 (qi (((60 : Int32) * x1) + x2))), (qmu (qmu (qmu σ 104 0 (0 : Int32)) 104 1 (0 : Int32)) 107 (qi (((60 : Int32) * x1) + x2)) x3))
            else none
            else none
          else none
        else none
      else none
    else
      (p_M_finding f (qmu (qmu σ 104 0 (0 : Int32)) 104 1 (0 : Int32)) (1 : Int32)).bind fun u17 =>
      some (u17.1, u17.2)
    else none
def p_M_copy_b45 (f : Nat) (σ : qMem) : Option (Int32 × qMem) :=
  (p_M_finding f σ (1 : Int32)).bind fun u1 =>
  some (u1.1, u1.2)
def p_M_copy_b121 (f : Nat) (σ : qMem) : Option (Int32 × qMem) :=
  (p_M_finding f σ (2 : Int32)).bind fun u3 =>
  some (u3.1, u3.2)
def p_M_copy_b167 (f : Nat) (k143 : qMem → Int32 → Option (Int32 × qMem)) (σ : qMem) (x1 : Int32) (x2 : Int32) (x3 : Int32) (x4 : Int32) (x5 : Int32) (x6 : Int32) (x7 : Int32) (s0 : Int32) : Option (Int32 × qMem) :=
  if qin ((((60 : Int32) * x1) + x2) + s0) 480 = true then
  if qin ((((60 : Int32) * x3) + x4) + s0) 480 = true then
  k143 (qmu σ 107 (qi ((((60 : Int32) * x3) + x4) + s0)) (σ 107 (qi ((((60 : Int32) * x1) + x2) + s0)))) (x7 + (1 : Int32))
  else none
  else none
def p_M_copy_l143 (f : Nat) (x1 : Int32) (x2 : Int32) (x3 : Int32) (x4 : Int32) (x5 : Int32) (x6 : Int32) (k143 : qMem → Int32 → Option (Int32 × qMem)) (σ : qMem) (x7 : Int32) : Option (Int32 × qMem) :=
  if x5 ≤ x7 then
    some (x5, σ)
  else
    if x6 = 0 then
      p_M_copy_b167 f k143 σ x1 x2 x3 x4 x5 x6 x7 ((x5 - (1 : Int32)) - x7)
    else
      p_M_copy_b167 f k143 σ x1 x2 x3 x4 x5 x6 x7 x7
def p_M_copy (f : Nat) (σ : qMem) (x1 : Int32) (x2 : Int32) (x3 : Int32) (x4 : Int32) (x5 : Int32) : Option (Int32 × qMem) :=
  (p_M_isSheet f (qmu σ 104 0 (0 : Int32)) x1).bind fun u7 =>
  if u7 = 0 then
    some ((-1000001 : Int32), (qmu σ 104 0 (0 : Int32)))
  else
    (p_M_isSheet f (qmu σ 104 0 (0 : Int32)) x3).bind fun u9 =>
    if u9 = 0 then
      some ((-1000001 : Int32), (qmu σ 104 0 (0 : Int32)))
    else
      if qin x1 8 = true then
      if ((qmu (qmu σ 104 0 (0 : Int32)) 104 1 (0 : Int32)) 105 (qi x1)) < 0 then
        p_M_copy_b45 f (qmu (qmu σ 104 0 (0 : Int32)) 104 1 (0 : Int32))
      else
        if qin x3 8 = true then
        if 0 ≤ ((qmu (qmu σ 104 0 (0 : Int32)) 104 1 (0 : Int32)) 105 (qi x3)) then
          if qin x1 8 = true then
          if qin x3 8 = true then
          if ((qmu (qmu σ 104 0 (0 : Int32)) 104 1 (0 : Int32)) 105 (qi x1)) = ((qmu (qmu σ 104 0 (0 : Int32)) 104 1 (0 : Int32)) 105 (qi x3)) then
            if x2 < 0 then
              p_M_copy_b121 f (qmu (qmu σ 104 0 (0 : Int32)) 104 1 (0 : Int32))
            else
              if x4 < 0 then
                p_M_copy_b121 f (qmu (qmu σ 104 0 (0 : Int32)) 104 1 (0 : Int32))
              else
                if x5 < 0 then
                  p_M_copy_b121 f (qmu (qmu σ 104 0 (0 : Int32)) 104 1 (0 : Int32))
                else
                  if qin x1 8 = true then
                  if 0 < (lg_cmp ((x2).toInt64 + (x5).toInt64) ((((qmu (qmu σ 104 0 (0 : Int32)) 104 1 (0 : Int32)) 106 (qi x1))).toInt64)) then
                    p_M_copy_b121 f (qmu (qmu σ 104 0 (0 : Int32)) 104 1 (0 : Int32))
                  else
                    if qin x3 8 = true then
                    if (lg_cmp ((x4).toInt64 + (x5).toInt64) ((((qmu (qmu σ 104 0 (0 : Int32)) 104 1 (0 : Int32)) 106 (qi x3))).toInt64)) ≤ 0 then
                      if x2 < x4 then
                        qfix2 (p_M_copy_l143 f x1 x2 x3 x4 x5 (0 : Int32) ) f (qmu (qmu σ 104 0 (0 : Int32)) 104 1 (0 : Int32)) (0 : Int32)
                      else
                        qfix2 (p_M_copy_l143 f x1 x2 x3 x4 x5 (1 : Int32) ) f (qmu (qmu σ 104 0 (0 : Int32)) 104 1 (0 : Int32)) (0 : Int32)
                    else
                      p_M_copy_b121 f (qmu (qmu σ 104 0 (0 : Int32)) 104 1 (0 : Int32))
                    else none
                  else none
          else
            (p_M_finding f (qmu (qmu σ 104 0 (0 : Int32)) 104 1 (0 : Int32)) (5 : Int32)).bind fun u17 =>
            some (u17.1, u17.2)
          else none
          else none
        else
          p_M_copy_b45 f (qmu (qmu σ 104 0 (0 : Int32)) 104 1 (0 : Int32))
        else none
      else none
def p_M_drop (f : Nat) (σ : qMem) (x1 : Int32) : Option (Int32 × qMem) :=
  (p_M_isSheet f (qmu σ 104 0 (0 : Int32)) x1).bind fun u1 =>
  if u1 = 0 then
    some ((-1000001 : Int32), (qmu σ 104 0 (0 : Int32)))
  else
    if qin x1 8 = true then
    if 0 ≤ ((qmu (qmu σ 104 0 (0 : Int32)) 104 1 (0 : Int32)) 105 (qi x1)) then
      if qin x1 8 = true then
      if qin x1 8 = true then
      some (((qmu (qmu (qmu σ 104 0 (0 : Int32)) 104 1 (0 : Int32)) 105 (qi x1) (-1 : Int32)) 106 (qi x1)), (qmu (qmu (qmu σ 104 0 (0 : Int32)) 104 1 (0 : Int32)) 105 (qi x1) (-1 : Int32)))
      else none
      else none
    else
      (p_M_finding f (qmu (qmu σ 104 0 (0 : Int32)) 104 1 (0 : Int32)) (1 : Int32)).bind fun u6 =>
      some (u6.1, u6.2)
    else none
def p_M_feed_l40 (f : Nat) (x1 : Int64) (k40 : qMem → Int32 → Option (Int32 × qMem)) (σ : qMem) (x4 : Int32) : Option (Int32 × qMem) :=
  if x4 < 0 then
    some ((σ 104 8), σ)
  else
    if qin (σ 104 8) 500 = true then
    k40 (qmu (qmu σ 109 (qi (σ 104 8)) ((((x1 >>> ((((8 : Int32) * x4)).toInt64 &&& 63)) &&& (255 : Int64))).toInt32)) 104 8 (((qmu σ 109 (qi (σ 104 8)) ((((x1 >>> ((((8 : Int32) * x4)).toInt64 &&& 63)) &&& (255 : Int64))).toInt32)) 104 8) + (1 : Int32))) (x4 + (-1 : Int32))
    else none
def p_M_feed (f : Nat) (σ : qMem) (x1 : Int64) (x3 : Int32) : Option (Int32 × qMem) :=
  (p_M_in f (qmu σ 104 0 (0 : Int32)) (x3).toInt64 (1 : Int64) (8 : Int64)).bind fun u2 =>
  if u2 = 0 then
    some ((-1000001 : Int32), (qmu σ 104 0 (0 : Int32)))
  else
    if (((qmu σ 104 0 (0 : Int32)) 104 8) + x3) ≤ (500 : Int32) then
      qfix2 (p_M_feed_l40 f x1 ) f (qmu σ 104 0 (0 : Int32)) (x3 - (1 : Int32))
    else
      some ((-1000003 : Int32), (qmu σ 104 0 (0 : Int32)))
def p_M_byteAt (f : Nat) (σ : qMem) (x1 : Int32) : Option (Int32) :=
  if (σ 104 10) ≤ x1 then
    some (-1000000 : Int32)
  else
    if qin x1 500 = true then
    some (σ 109 (qi x1))
    else none
def p_M_isLetter (f : Nat) (σ : qMem) (x0 : Int32) : Option (Int32) :=
  if x0 < (97 : Int32) then
    some (0 : Int32)
  else
    if (122 : Int32) < x0 then
      some (0 : Int32)
    else
      some (1 : Int32)
def p_M_isFigure (f : Nat) (σ : qMem) (x0 : Int32) : Option (Int32) :=
  if x0 < (48 : Int32) then
    some (0 : Int32)
  else
    if (57 : Int32) < x0 then
      some (0 : Int32)
    else
      some (1 : Int32)
def p_M_step_l77 (f : Nat) (k77 : qMem → Option (qMem)) (σ : qMem) : Option (qMem) :=
  (p_M_byteAt f σ (σ 104 11)).bind fun u1 =>
  (p_M_isLetter f σ u1).bind fun u3 =>
  if u3 = 0 then
    some (qmu (qmu σ 104 12 (2 : Int32)) 104 14 ((qmu σ 104 12 (2 : Int32)) 104 11))
  else
    k77 (qmu σ 104 11 ((σ 104 11) + (1 : Int32)))
def p_M_step_l119 (f : Nat) (k119 : qMem → Option (qMem)) (σ : qMem) : Option (qMem) :=
  (p_M_byteAt f σ (σ 104 11)).bind fun u5 =>
  (p_M_isFigure f σ u5).bind fun u7 =>
  if u7 = 0 then
    if ((σ 104 11) - (σ 104 13)) ≤ (5 : Int32) then
      some (qmu (qmu σ 104 12 (3 : Int32)) 104 14 ((qmu σ 104 12 (3 : Int32)) 104 11))
    else
      some (qmu (qmu σ 104 12 (0 : Int32)) 104 14 ((qmu σ 104 12 (0 : Int32)) 104 11))
  else
    k119 (qmu σ 104 11 ((σ 104 11) + (1 : Int32)))
def p_M_step_l0 (f : Nat) (k0 : qMem → Option (qMem)) (σ : qMem) : Option (qMem) :=
  (p_M_byteAt f σ (σ 104 11)).bind fun u9 =>
  if u9 = (32 : Int32) then
    k0 (qmu σ 104 11 ((σ 104 11) + (1 : Int32)))
  else
    (p_M_byteAt f σ (σ 104 11)).bind fun u11 =>
    if u11 = (10 : Int32) then
      k0 (qmu σ 104 11 ((σ 104 11) + (1 : Int32)))
    else
      (p_M_byteAt f (qmu σ 104 13 (σ 104 11)) ((qmu σ 104 13 (σ 104 11)) 104 11)).bind fun u13 =>
      if u13 = (-1000000 : Int32) then
        some (qmu (qmu (qmu σ 104 13 (σ 104 11)) 104 12 (1 : Int32)) 104 14 ((qmu (qmu σ 104 13 (σ 104 11)) 104 12 (1 : Int32)) 104 11))
      else
        (p_M_isLetter f (qmu σ 104 13 (σ 104 11)) u13).bind fun u15 =>
        if u15 = 0 then
          (p_M_isFigure f (qmu σ 104 13 (σ 104 11)) u13).bind fun u17 =>
          if u17 = 0 then
            if u13 = (59 : Int32) then
              some (qmu (qmu (qmu (qmu σ 104 13 (σ 104 11)) 104 11 (((qmu σ 104 13 (σ 104 11)) 104 11) + (1 : Int32))) 104 12 (4 : Int32)) 104 14 ((qmu (qmu (qmu σ 104 13 (σ 104 11)) 104 11 (((qmu σ 104 13 (σ 104 11)) 104 11) + (1 : Int32))) 104 12 (4 : Int32)) 104 11))
            else
              some (qmu (qmu (qmu (qmu σ 104 13 (σ 104 11)) 104 11 (((qmu σ 104 13 (σ 104 11)) 104 11) + (1 : Int32))) 104 12 (0 : Int32)) 104 14 ((qmu (qmu (qmu σ 104 13 (σ 104 11)) 104 11 (((qmu σ 104 13 (σ 104 11)) 104 11) + (1 : Int32))) 104 12 (0 : Int32)) 104 11))
          else
            qfix1 (p_M_step_l119 f ) f (qmu σ 104 13 (σ 104 11))
        else
          qfix1 (p_M_step_l77 f ) f (qmu σ 104 13 (σ 104 11))
def p_M_step (f : Nat) (σ : qMem) : Option (qMem) :=
  qfix1 (p_M_step_l0 f ) f σ
def p_M_word_l7 (f : Nat) (σ : qMem) (k7 : Int64 → Int32 → Option (Int64)) (x1 : Int64) (x3 : Int32) : Option (Int64) :=
  if (σ 104 14) ≤ x3 then
    some x1
  else
    if (σ 104 12) = (2 : Int32) then
      if (8 : Int32) ≤ ((σ 104 14) - (σ 104 13)) then
        some x1
      else
        if qin x3 500 = true then
        k7 ((x1 <<< (((8 : Int32)).toInt64 &&& 63)) ||| ((σ 109 (qi x3))).toInt64) (x3 + (1 : Int32))
        else none
    else
      some x1
def p_M_word (f : Nat) (σ : qMem) : Option (Int64) :=
  qfix2 (p_M_word_l7 f σ ) f (0 : Int64) (σ 104 13)
def p_M_bad (f : Nat) (σ : qMem) (x1 : Int32) : Option (qMem) :=
  if (σ 104 15) = 0 then
    some (qmu (qmu σ 104 15 x1) 104 16 ((qmu σ 104 15 x1) 104 13))
  else
    some σ
def p_M_need_b9 (f : Nat) (σ : qMem) : Option (qMem) :=
  if (σ 104 15) = 0 then
    (p_M_step f σ).bind fun u1 =>
    some u1
  else
    some σ
def p_M_need (f : Nat) (σ : qMem) (x1 : Int32) : Option (qMem) :=
  if x1 = 0 then
    (p_M_bad f σ (1 : Int32)).bind fun u3 =>
    p_M_need_b9 f u3
  else
    p_M_need_b9 f σ
def p_M_termOfWord (f : Nat) (σ : qMem) : Option (Int32) :=
  (p_M_word f σ).bind fun u1 =>
  if (lg_cmp u1 (1936684396 : Int64)) = 0 then
    some (1 : Int32)
  else
    if (lg_cmp u1 (418431394162 : Int64)) = 0 then
      some (2 : Int32)
    else
      if (lg_cmp u1 (123636696839028 : Int64)) = 0 then
        some (3 : Int32)
      else
        if (lg_cmp u1 (1700881256 : Int64)) = 0 then
          some (4 : Int32)
        else
          if (lg_cmp u1 (1718775661 : Int64)) = 0 then
            some (5 : Int32)
          else
            if (lg_cmp u1 (1953066092 : Int64)) = 0 then
              some (6 : Int32)
            else
              if (lg_cmp u1 (448546567013 : Int64)) = 0 then
                some (7 : Int32)
              else
                if (lg_cmp u1 (1885436275 : Int64)) = 0 then
                  some (8 : Int32)
                else
                  if (lg_cmp u1 (422826041700 : Int64)) = 0 then
                    some (9 : Int32)
                  else
                    if (lg_cmp u1 (109270115052645 : Int64)) = 0 then
                      some (10 : Int32)
                    else
                      some (-1000000 : Int32)
def p_M_mostOf (f : Nat) (σ : qMem) (x0 : Int32) : Option (Int32) :=
  if x0 = (2 : Int32) then
    some (3 : Int32)
  else
    if x0 = (3 : Int32) then
      some (7 : Int32)
    else
      if x0 = (4 : Int32) then
        some (360 : Int32)
      else
        if x0 = (5 : Int32) then
          some (9999 : Int32)
        else
          if x0 = (6 : Int32) then
            some (9999 : Int32)
          else
            if x0 = (7 : Int32) then
              some (5 : Int32)
            else
              if x0 = (8 : Int32) then
                some (100 : Int32)
              else
                some (99 : Int32)
def p_M_readTerm_b122 (f : Nat) (σ : qMem) (x1 : Int32) (x2 : Int32) (s1 : Int32) : Option (qMem) :=
  (p_M_need f σ s1).bind fun u1 =>
  if qin (((11 : Int32) * (u1 104 17)) + x1) 132 = true then
  some (qmu u1 108 (qi (((11 : Int32) * (u1 104 17)) + x1)) x2)
  else none
def p_M_readTerm_b108 (f : Nat) (σ : qMem) (x1 : Int32) (x2 : Int32) : Option (qMem) :=
  if (σ 104 12) = (3 : Int32) then
    p_M_readTerm_b122 f σ x1 x2 (1 : Int32)
  else
    p_M_readTerm_b122 f σ x1 x2 (0 : Int32)
def p_M_readTerm_b92 (f : Nat) (σ : qMem) (x1 : Int32) (x2 : Int32) (s0 : Int64) (s1 : Int64) : Option (qMem) :=
  (p_M_mostOf f σ x1).bind fun u4 =>
  (p_M_in f σ s0 s1 (u4).toInt64).bind fun u6 =>
  if u6 = 0 then
    (p_M_bad f σ (2 : Int32)).bind fun u8 =>
    p_M_readTerm_b108 f u8 x1 x2
  else
    p_M_readTerm_b108 f σ x1 x2
def p_M_readTerm_b72 (f : Nat) (σ : qMem) (x1 : Int32) (x2 : Int32) : Option (qMem) :=
  if (σ 104 12) = (3 : Int32) then
    if x1 = (4 : Int32) then
      p_M_readTerm_b92 f σ x1 x2 (x2).toInt64 (1 : Int64)
    else
      p_M_readTerm_b92 f σ x1 x2 (x2).toInt64 (0 : Int64)
  else
    p_M_readTerm_b108 f σ x1 x2
def p_M_readTerm_l35 (f : Nat) (σ : qMem) (x1 : Int32) (k35 : Int32 → Int32 → Option (qMem)) (x2 : Int32) (x3 : Int32) : Option (qMem) :=
  if (σ 104 14) ≤ x3 then
    p_M_readTerm_b72 f σ x1 x2
  else
    if (σ 104 12) = (3 : Int32) then
      if qin x3 500 = true then
      k35 ((((10 : Int32) * x2) + (σ 109 (qi x3))) - (48 : Int32)) (x3 + (1 : Int32))
      else none
    else
      p_M_readTerm_b72 f σ x1 x2
def p_M_readTerm_b17 (f : Nat) (σ : qMem) (x1 : Int32) (s1 : Int32) : Option (qMem) :=
  (p_M_need f σ s1).bind fun u11 =>
  if (u11 104 15) ≤ 0 then
    qfix2 (p_M_readTerm_l35 f u11 x1 ) f (0 : Int32) (u11 104 13)
  else
    some u11
def p_M_readTerm (f : Nat) (σ : qMem) : Option (qMem) :=
  (p_M_termOfWord f σ).bind fun u13 =>
  if u13 = (-1000000 : Int32) then
    p_M_readTerm_b17 f σ u13 (0 : Int32)
  else
    p_M_readTerm_b17 f σ u13 (1 : Int32)
def p_M_readDeed_b210 (f : Nat) (σ : qMem) (s1 : Int32) : Option (qMem) :=
  (p_M_need f σ s1).bind fun u1 =>
  some (qmu u1 104 17 ((u1 104 17) + (1 : Int32)))
def p_M_readDeed_l154 (f : Nat) (k154 : qMem → Int32 → Option (qMem)) (σ : qMem) (x5 : Int32) : Option (qMem) :=
  if x5 = 0 then
    if (σ 104 15) = 0 then
      if (σ 104 12) = (4 : Int32) then
        p_M_readDeed_b210 f σ (1 : Int32)
      else
        p_M_readDeed_b210 f σ (0 : Int32)
    else
      some (qmu σ 104 17 ((σ 104 17) + (1 : Int32)))
  else
    (p_M_readTerm f σ).bind fun u3 =>
    if (u3 104 15) = 0 then
      (p_M_termOfWord f u3).bind fun u5 =>
      if u5 = (-1000000 : Int32) then
        k154 u3 (0 : Int32)
      else
        k154 u3 (1 : Int32)
    else
      k154 u3 (0 : Int32)
def p_M_readDeed_b137 (f : Nat) (σ : qMem) (x4 : Int32) (s1 : Int32) (s2 : Int32) : Option (qMem) :=
  if qin s1 132 = true then
  if qin (x4 + (6 : Int32)) 132 = true then
  qfix2 (p_M_readDeed_l154 f ) f (qmu (qmu σ 108 (qi s1) s2) 108 (qi (x4 + (6 : Int32))) (9999 : Int32)) (1 : Int32)
  else none
  else none
def p_M_readDeed_b113 (f : Nat) (σ : qMem) (x1 : Int64) (x4 : Int32) (s1 : Int32) (s2 : Int32) : Option (qMem) :=
  if qin s1 132 = true then
  if (lg_cmp x1 (1868720500 : Int64)) = 0 then
    p_M_readDeed_b137 f (qmu σ 108 (qi s1) s2) x4 (x4 + (4 : Int32)) (360 : Int32)
  else
    p_M_readDeed_b137 f (qmu σ 108 (qi s1) s2) x4 (x4 + (4 : Int32)) (1 : Int32)
  else none
def p_M_readDeed_l70 (f : Nat) (x1 : Int64) (x4 : Int32) (k70 : qMem → Int32 → Option (qMem)) (σ : qMem) (x5 : Int32) : Option (qMem) :=
  if (11 : Int32) ≤ x5 then
    if (lg_cmp x1 (1868720500 : Int64)) = 0 then
      p_M_readDeed_b113 f σ x1 x4 x4 (1 : Int32)
    else
      p_M_readDeed_b113 f σ x1 x4 x4 (0 : Int32)
  else
    if qin (x4 + x5) 132 = true then
    k70 (qmu σ 108 (qi (x4 + x5)) (0 : Int32)) (x5 + (1 : Int32))
    else none
def p_M_readDeed_b45 (f : Nat) (σ : qMem) (x1 : Int64) (x3 : Int32) : Option (qMem) :=
  (p_M_need f σ x3).bind fun u11 =>
  if (u11 104 15) ≤ 0 then
    qfix2 (p_M_readDeed_l70 f x1 ((11 : Int32) * (u11 104 17)) ) f u11 (0 : Int32)
  else
    some u11
def p_M_readDeed_b26 (f : Nat) (σ : qMem) (x1 : Int64) (s0 : Int32) : Option (qMem) :=
  if s0 = 0 then
    p_M_readDeed_b45 f σ x1 s0
  else
    if (σ 104 17) = (12 : Int32) then
      (p_M_bad f σ (3 : Int32)).bind fun u13 =>
      p_M_readDeed_b45 f u13 x1 s0
    else
      p_M_readDeed_b45 f σ x1 s0
def p_M_readDeed (f : Nat) (σ : qMem) : Option (qMem) :=
  (p_M_word f σ).bind fun u15 =>
  if (lg_cmp u15 (1835103091 : Int64)) = 0 then
    p_M_readDeed_b26 f σ u15 (1 : Int32)
  else
    if (lg_cmp u15 (1868720500 : Int64)) = 0 then
      p_M_readDeed_b26 f σ u15 (1 : Int32)
    else
      p_M_readDeed_b26 f σ u15 (0 : Int32)
def p_M_deeds_l91 (f : Nat) (k91 : qMem → Int32 → Option (Int32 × qMem)) (σ : qMem) (x1 : Int32) : Option (Int32 × qMem) :=
  if (σ 104 17) ≤ x1 then
    some (((qmu σ 104 5 (σ 104 17)) 104 5), (qmu σ 104 5 (σ 104 17)))
  else
    if qin x1 12 = true then
    k91 (qmu σ 133 (qi x1) (-1000000 : Int32)) (x1 + (1 : Int32))
    else none
def p_M_deeds_b62 (f : Nat) (σ : qMem) : Option (Int32 × qMem) :=
  if (σ 104 15) ≤ 0 then
    qfix2 (p_M_deeds_l91 f ) f σ (σ 104 5)
  else
    some (((-1000100 : Int32) - ((qmu σ 104 9 (σ 104 15)) 104 16)), (qmu σ 104 9 (σ 104 15)))
def p_M_deeds_l40 (f : Nat) (k40 : qMem → Option (Int32 × qMem)) (σ : qMem) : Option (Int32 × qMem) :=
  if (σ 104 15) = 0 then
    if (σ 104 12) = (1 : Int32) then
      p_M_deeds_b62 f σ
    else
      (p_M_readDeed f σ).bind fun u2 =>
      k40 u2
  else
    p_M_deeds_b62 f σ
def p_M_deeds (f : Nat) (σ : qMem) : Option (Int32 × qMem) :=
  (p_M_step f (qmu (qmu (qmu (qmu (qmu (qmu σ 104 0 (0 : Int32)) 104 10 ((qmu σ 104 0 (0 : Int32)) 104 8)) 104 8 (0 : Int32)) 104 11 (0 : Int32)) 104 15 (0 : Int32)) 104 17 ((qmu (qmu (qmu (qmu (qmu σ 104 0 (0 : Int32)) 104 10 ((qmu σ 104 0 (0 : Int32)) 104 8)) 104 8 (0 : Int32)) 104 11 (0 : Int32)) 104 15 (0 : Int32)) 104 5))).bind fun u4 =>
  qfix1 (p_M_deeds_l40 f ) f u4
def p_M_fault (f : Nat) (σ : qMem) : Option (Int32 × qMem) :=
  some (((qmu σ 104 0 (0 : Int32)) 104 9), (qmu σ 104 0 (0 : Int32)))
def p_M_isPromise (f : Nat) (σ : qMem) (x1 : Int32) : Option (Int32) :=
  (p_M_in f σ (x1).toInt64 (0 : Int64) ((((σ 104 5) - (1 : Int32))).toInt64)).bind fun u1 =>
  some (vp_nar .boolean u1)
def p_M_of (f : Nat) (σ : qMem) (x1 : Int32) (x2 : Int32) : Option (Int32) :=
  if qin (((11 : Int32) * x1) + x2) 132 = true then
  some (σ 108 (qi (((11 : Int32) * x1) + x2)))
  else none
def p_M_told (f : Nat) (σ : qMem) (x1 : Int32) (x2 : Int32) : Option (Int32 × qMem) :=
  (p_M_isPromise f (qmu σ 104 0 (0 : Int32)) x1).bind fun u1 =>
  if u1 = 0 then
    some ((-1000001 : Int32), (qmu σ 104 0 (0 : Int32)))
  else
    (p_M_in f (qmu σ 104 0 (0 : Int32)) (x2).toInt64 (0 : Int64) (10 : Int64)).bind fun u3 =>
    if u3 = 0 then
      some ((-1000001 : Int32), (qmu σ 104 0 (0 : Int32)))
    else
      (p_M_of f (qmu σ 104 0 (0 : Int32)) x1 x2).bind fun u5 =>
      some (u5, (qmu σ 104 0 (0 : Int32)))
def p_M_isDay (f : Nat) (σ : qMem) (x0 : Int32) : Option (Int32) :=
  (p_M_in f σ (x0).toInt64 (0 : Int64) (9999 : Int64)).bind fun u1 =>
  some (vp_nar .boolean u1)
def p_M_feast (f : Nat) (σ : qMem) (x1 : Int32) (x2 : Int32) : Option (Int32 × qMem) :=
  (p_M_isDay f (qmu σ 104 0 (0 : Int32)) x1).bind fun u1 =>
  if u1 = 0 then
    some ((-1000001 : Int32), (qmu σ 104 0 (0 : Int32)))
  else
    (p_M_in f (qmu σ 104 0 (0 : Int32)) (x2).toInt64 (1 : Int64) (2 : Int64)).bind fun u3 =>
    if u3 = 0 then
      some ((-1000001 : Int32), (qmu σ 104 0 (0 : Int32)))
    else
      if ((qmu σ 104 0 (0 : Int32)) 104 18) = (30 : Int32) then
        some ((-1000003 : Int32), (qmu σ 104 0 (0 : Int32)))
      else
        if qin ((qmu σ 104 0 (0 : Int32)) 104 18) 30 = true then
        if qin ((qmu (qmu σ 104 0 (0 : Int32)) 110 (qi ((qmu σ 104 0 (0 : Int32)) 104 18)) x1) 104 18) 30 = true then
        some (((qmu (qmu (qmu (qmu σ 104 0 (0 : Int32)) 110 (qi ((qmu σ 104 0 (0 : Int32)) 104 18)) x1) 111 (qi ((qmu (qmu σ 104 0 (0 : Int32)) 110 (qi ((qmu σ 104 0 (0 : Int32)) 104 18)) x1) 104 18)) x2) 104 18 (((qmu (qmu (qmu σ 104 0 (0 : Int32)) 110 (qi ((qmu σ 104 0 (0 : Int32)) 104 18)) x1) 111 (qi ((qmu (qmu σ 104 0 (0 : Int32)) 110 (qi ((qmu σ 104 0 (0 : Int32)) 104 18)) x1) 104 18)) x2) 104 18) + (1 : Int32))) 104 18), (qmu (qmu (qmu (qmu σ 104 0 (0 : Int32)) 110 (qi ((qmu σ 104 0 (0 : Int32)) 104 18)) x1) 111 (qi ((qmu (qmu σ 104 0 (0 : Int32)) 110 (qi ((qmu σ 104 0 (0 : Int32)) 104 18)) x1) 104 18)) x2) 104 18 (((qmu (qmu (qmu σ 104 0 (0 : Int32)) 110 (qi ((qmu σ 104 0 (0 : Int32)) 104 18)) x1) 111 (qi ((qmu (qmu σ 104 0 (0 : Int32)) 110 (qi ((qmu σ 104 0 (0 : Int32)) 104 18)) x1) 104 18)) x2) 104 18) + (1 : Int32))))
        else none
        else none
def p_M_isPriest (f : Nat) (σ : qMem) (x0 : Int32) : Option (Int32) :=
  (p_M_in f σ (x0).toInt64 (0 : Int64) (7 : Int64)).bind fun u1 =>
  some (vp_nar .boolean u1)
def p_M_vow (f : Nat) (σ : qMem) (x1 : Int32) (x2 : Int32) : Option (Int32 × qMem) :=
  (p_M_isPriest f (qmu σ 104 0 (0 : Int32)) x1).bind fun u1 =>
  if u1 = 0 then
    some ((-1000001 : Int32), (qmu σ 104 0 (0 : Int32)))
  else
    (p_M_in f (qmu σ 104 0 (0 : Int32)) (x2).toInt64 (1 : Int64) (3 : Int64)).bind fun u3 =>
    if u3 = 0 then
      some ((-1000001 : Int32), (qmu σ 104 0 (0 : Int32)))
    else
      if qin x1 8 = true then
      if qin x1 8 = true then
      some (((qmu σ 104 0 (0 : Int32)) 116 (qi x1)), (qmu (qmu σ 104 0 (0 : Int32)) 116 (qi x1) x2))
      else none
      else none
def p_M_sick (f : Nat) (σ : qMem) (x1 : Int32) (x2 : Int32) (x3 : Int32) : Option (Int32 × qMem) :=
  (p_M_isPriest f (qmu σ 104 0 (0 : Int32)) x1).bind fun u1 =>
  if u1 = 0 then
    some ((-1000001 : Int32), (qmu σ 104 0 (0 : Int32)))
  else
    (p_M_isDay f (qmu σ 104 0 (0 : Int32)) x2).bind fun u3 =>
    if u3 = 0 then
      some ((-1000001 : Int32), (qmu σ 104 0 (0 : Int32)))
    else
      (p_M_in f (qmu σ 104 0 (0 : Int32)) (x3).toInt64 (x2).toInt64 (9999 : Int64)).bind fun u5 =>
      if u5 = 0 then
        some ((-1000001 : Int32), (qmu σ 104 0 (0 : Int32)))
      else
        if ((qmu σ 104 0 (0 : Int32)) 104 27) = (20 : Int32) then
          some ((-1000003 : Int32), (qmu σ 104 0 (0 : Int32)))
        else
          if qin ((qmu σ 104 0 (0 : Int32)) 104 27) 20 = true then
          if qin ((qmu (qmu σ 104 0 (0 : Int32)) 117 (qi ((qmu σ 104 0 (0 : Int32)) 104 27)) x1) 104 27) 20 = true then
          if qin ((qmu (qmu (qmu σ 104 0 (0 : Int32)) 117 (qi ((qmu σ 104 0 (0 : Int32)) 104 27)) x1) 118 (qi ((qmu (qmu σ 104 0 (0 : Int32)) 117 (qi ((qmu σ 104 0 (0 : Int32)) 104 27)) x1) 104 27)) x2) 104 27) 20 = true then
          some (((qmu (qmu (qmu (qmu (qmu σ 104 0 (0 : Int32)) 117 (qi ((qmu σ 104 0 (0 : Int32)) 104 27)) x1) 118 (qi ((qmu (qmu σ 104 0 (0 : Int32)) 117 (qi ((qmu σ 104 0 (0 : Int32)) 104 27)) x1) 104 27)) x2) 119 (qi ((qmu (qmu (qmu σ 104 0 (0 : Int32)) 117 (qi ((qmu σ 104 0 (0 : Int32)) 104 27)) x1) 118 (qi ((qmu (qmu σ 104 0 (0 : Int32)) 117 (qi ((qmu σ 104 0 (0 : Int32)) 104 27)) x1) 104 27)) x2) 104 27)) x3) 104 27 (((qmu (qmu (qmu (qmu σ 104 0 (0 : Int32)) 117 (qi ((qmu σ 104 0 (0 : Int32)) 104 27)) x1) 118 (qi ((qmu (qmu σ 104 0 (0 : Int32)) 117 (qi ((qmu σ 104 0 (0 : Int32)) 104 27)) x1) 104 27)) x2) 119 (qi ((qmu (qmu (qmu σ 104 0 (0 : Int32)) 117 (qi ((qmu σ 104 0 (0 : Int32)) 104 27)) x1) 118 (qi ((qmu (qmu σ 104 0 (0 : Int32)) 117 (qi ((qmu σ 104 0 (0 : Int32)) 104 27)) x1) 104 27)) x2) 104 27)) x3) 104 27) + (1 : Int32))) 104 27), (qmu (qmu (qmu (qmu (qmu σ 104 0 (0 : Int32)) 117 (qi ((qmu σ 104 0 (0 : Int32)) 104 27)) x1) 118 (qi ((qmu (qmu σ 104 0 (0 : Int32)) 117 (qi ((qmu σ 104 0 (0 : Int32)) 104 27)) x1) 104 27)) x2) 119 (qi ((qmu (qmu (qmu σ 104 0 (0 : Int32)) 117 (qi ((qmu σ 104 0 (0 : Int32)) 104 27)) x1) 118 (qi ((qmu (qmu σ 104 0 (0 : Int32)) 117 (qi ((qmu σ 104 0 (0 : Int32)) 104 27)) x1) 104 27)) x2) 104 27)) x3) 104 27 (((qmu (qmu (qmu (qmu σ 104 0 (0 : Int32)) 117 (qi ((qmu σ 104 0 (0 : Int32)) 104 27)) x1) 118 (qi ((qmu (qmu σ 104 0 (0 : Int32)) 117 (qi ((qmu σ 104 0 (0 : Int32)) 104 27)) x1) 104 27)) x2) 119 (qi ((qmu (qmu (qmu σ 104 0 (0 : Int32)) 117 (qi ((qmu σ 104 0 (0 : Int32)) 104 27)) x1) 118 (qi ((qmu (qmu σ 104 0 (0 : Int32)) 117 (qi ((qmu σ 104 0 (0 : Int32)) 104 27)) x1) 104 27)) x2) 104 27)) x3) 104 27) + (1 : Int32))))
          else none
          else none
          else none
def p_M_line (f : Nat) (σ : qMem) (x1 : Int32) (x2 : Int32) (x3 : Int32) : Option (Int32 × qMem) :=
  (p_M_isPromise f σ x1).bind fun u1 =>
  if u1 = 0 then
    some ((-1000001 : Int32), σ)
  else
    (p_M_isDay f σ x2).bind fun u3 =>
    if u3 = 0 then
      some ((-1000001 : Int32), σ)
    else
      (p_M_in f σ (x3).toInt64 (0 : Int64) (4 : Int64)).bind fun u5 =>
      if u5 = 0 then
        some ((-1000001 : Int32), σ)
      else
        if (σ 104 21) = (60 : Int32) then
          some ((-1000003 : Int32), σ)
        else
          if qin (σ 104 21) 60 = true then
          if qin ((qmu σ 112 (qi (σ 104 21)) x1) 104 21) 60 = true then
          if qin ((qmu (qmu σ 112 (qi (σ 104 21)) x1) 113 (qi ((qmu σ 112 (qi (σ 104 21)) x1) 104 21)) x2) 104 21) 60 = true then
          some ((((qmu (qmu (qmu (qmu σ 112 (qi (σ 104 21)) x1) 113 (qi ((qmu σ 112 (qi (σ 104 21)) x1) 104 21)) x2) 114 (qi ((qmu (qmu σ 112 (qi (σ 104 21)) x1) 113 (qi ((qmu σ 112 (qi (σ 104 21)) x1) 104 21)) x2) 104 21)) x3) 104 21 (((qmu (qmu (qmu σ 112 (qi (σ 104 21)) x1) 113 (qi ((qmu σ 112 (qi (σ 104 21)) x1) 104 21)) x2) 114 (qi ((qmu (qmu σ 112 (qi (σ 104 21)) x1) 113 (qi ((qmu σ 112 (qi (σ 104 21)) x1) 104 21)) x2) 104 21)) x3) 104 21) + (1 : Int32))) 104 21) - (1 : Int32)), (qmu (qmu (qmu (qmu σ 112 (qi (σ 104 21)) x1) 113 (qi ((qmu σ 112 (qi (σ 104 21)) x1) 104 21)) x2) 114 (qi ((qmu (qmu σ 112 (qi (σ 104 21)) x1) 113 (qi ((qmu σ 112 (qi (σ 104 21)) x1) 104 21)) x2) 104 21)) x3) 104 21 (((qmu (qmu (qmu σ 112 (qi (σ 104 21)) x1) 113 (qi ((qmu σ 112 (qi (σ 104 21)) x1) 104 21)) x2) 114 (qi ((qmu (qmu σ 112 (qi (σ 104 21)) x1) 113 (qi ((qmu σ 112 (qi (σ 104 21)) x1) 104 21)) x2) 104 21)) x3) 104 21) + (1 : Int32))))
          else none
          else none
          else none
def p_M_say (f : Nat) (σ : qMem) (x1 : Int32) (x2 : Int32) (x3 : Int32) : Option (Int32 × qMem) :=
  (p_M_line f (qmu σ 104 0 (0 : Int32)) x1 x2 x3).bind fun u1 =>
  some (u1.1, u1.2)
def p_M_lookItems_b35 (f : Nat) (σ : qMem) : Option (Int32 × qMem) :=
  (p_M_finding f σ (2 : Int32)).bind fun u1 =>
  some (u1.1, u1.2)
def p_M_lookItems (f : Nat) (σ : qMem) (x1 : Int32) (x2 : Int32) (x3 : Int32) : Option (Int32 × qMem) :=
  if qin x1 8 = true then
  if 0 ≤ (σ 105 (qi x1)) then
    if x2 < 0 then
      p_M_lookItems_b35 f σ
    else
      if qin x1 8 = true then
      if (lg_cmp ((x2).toInt64 + (x3).toInt64) (((σ 106 (qi x1))).toInt64)) ≤ 0 then
        some ((0 : Int32), σ)
      else
        p_M_lookItems_b35 f σ
      else none
  else
    (p_M_finding f σ (1 : Int32)).bind fun u5 =>
    some (u5.1, u5.2)
  else none
def p_M_lines_l57 (f : Nat) (x1 : Int32) (x2 : Int32) (x3 : Int32) (k57 : qMem → Int32 → Int32 → Option (Int32 × qMem)) (σ : qMem) (x5 : Int32) (x6 : Int32) : Option (Int32 × qMem) :=
  if x3 ≤ x6 then
    some (x5, σ)
  else
    if qin ((((60 : Int32) * x1) + x2) + ((3 : Int32) * x6)) 480 = true then
    if qin (((((60 : Int32) * x1) + x2) + ((3 : Int32) * x6)) + (1 : Int32)) 480 = true then
    if qin (((((60 : Int32) * x1) + x2) + ((3 : Int32) * x6)) + (2 : Int32)) 480 = true then
    (p_M_line f σ (σ 107 (qi ((((60 : Int32) * x1) + x2) + ((3 : Int32) * x6)))) (σ 107 (qi (((((60 : Int32) * x1) + x2) + ((3 : Int32) * x6)) + (1 : Int32)))) (σ 107 (qi (((((60 : Int32) * x1) + x2) + ((3 : Int32) * x6)) + (2 : Int32))))).bind fun u4 =>
    if u4.1 < 0 then
      k57 u4.2 (x5 + (0 : Int32)) (x6 + (1 : Int32))
    else
      k57 u4.2 (x5 + (1 : Int32)) (x6 + (1 : Int32))
    else none
    else none
    else none
def p_M_lines (f : Nat) (σ : qMem) (x1 : Int32) (x2 : Int32) (x3 : Int32) : Option (Int32 × qMem) :=
  (p_M_isSheet f (qmu σ 104 0 (0 : Int32)) x1).bind fun u6 =>
  if u6 = 0 then
    some ((-1000001 : Int32), (qmu σ 104 0 (0 : Int32)))
  else
    (p_M_in f (qmu σ 104 0 (0 : Int32)) (x3).toInt64 (1 : Int64) (20 : Int64)).bind fun u8 =>
    if u8 = 0 then
      some ((-1000001 : Int32), (qmu σ 104 0 (0 : Int32)))
    else
      (p_M_lookItems f (qmu σ 104 0 (0 : Int32)) x1 x2 ((3 : Int32) * x3)).bind fun u10 =>
      if 0 ≤ u10.1 then
        qfix3 (p_M_lines_l57 f x1 x2 x3 ) f (qmu u10.2 104 1 (0 : Int32)) (0 : Int32) (0 : Int32)
      else
        some (u10.1, u10.2)
def p_M_takenOn_b80 (f : Nat) (k5 : Int32 → Int32 → Option (Int32)) (σ : qMem) (x1 : Int32) (x2 : Int32) (x3 : Int32) (s0 : Int32) : Option (Int32) :=
  if s0 = 0 then
    k5 x2 (x3 + (1 : Int32))
  else
    if x2 = (-1000000 : Int32) then
      if qin x3 10 = true then
      k5 (σ 136 (qi x3)) (x3 + (1 : Int32))
      else none
    else
      if qin x3 10 = true then
      if x2 ≤ (σ 136 (qi x3)) then
        k5 x2 (x3 + (1 : Int32))
      else
        if qin x3 10 = true then
        k5 (σ 136 (qi x3)) (x3 + (1 : Int32))
        else none
      else none
def p_M_takenOn_b79 (f : Nat) (k5 : Int32 → Int32 → Option (Int32)) (σ : qMem) (x1 : Int32) (x2 : Int32) (x3 : Int32) : Option (Int32) :=
  p_M_takenOn_b80 f k5 σ x1 x2 x3 (0 : Int32)
def p_M_takenOn_l5 (f : Nat) (σ : qMem) (x1 : Int32) (k5 : Int32 → Int32 → Option (Int32)) (x2 : Int32) (x3 : Int32) : Option (Int32) :=
  if (σ 104 50) ≤ x3 then
    some x2
  else
    (p_M_of f σ x1 (5 : Int32)).bind fun u4 =>
    if qin x3 10 = true then
    if (σ 136 (qi x3)) < u4 then
      p_M_takenOn_b79 f k5 σ x1 x2 x3
    else
      (p_M_of f σ x1 (1 : Int32)).bind fun u7 =>
      if qin x3 10 = true then
      if qin x3 10 = true then
      (p_M_in f σ (u7).toInt64 (((σ 137 (qi x3))).toInt64) (((σ 138 (qi x3))).toInt64)).bind fun u11 =>
      if u11 = 0 then
        p_M_takenOn_b79 f k5 σ x1 x2 x3
      else
        (p_M_of f σ x1 (0 : Int32)).bind fun u13 =>
        if u13 = (1 : Int32) then
          if qin x3 10 = true then
          if (σ 139 (qi x3)) = (1 : Int32) then
            p_M_takenOn_b79 f k5 σ x1 x2 x3
          else
            p_M_takenOn_b80 f k5 σ x1 x2 x3 (1 : Int32)
          else none
        else
          p_M_takenOn_b80 f k5 σ x1 x2 x3 (1 : Int32)
      else none
      else none
    else none
def p_M_takenOn (f : Nat) (σ : qMem) (x1 : Int32) : Option (Int32) :=
  qfix2 (p_M_takenOn_l5 f σ x1 ) f (-1000000 : Int32) (0 : Int32)
def p_M_isTaken (f : Nat) (σ : qMem) (x1 : Int32) (x2 : Int32) : Option (Int32) :=
  (p_M_takenOn f σ x1).bind fun u1 =>
  if u1 = (-1000000 : Int32) then
    some (0 : Int32)
  else
    if x2 < u1 then
      some (0 : Int32)
    else
      some (1 : Int32)
def p_M_isEnded (f : Nat) (σ : qMem) (x1 : Int32) (x2 : Int32) : Option (Int32) :=
  (p_M_isTaken f σ x1 x2).bind fun u1 =>
  if u1 = 0 then
    (p_M_of f σ x1 (6 : Int32)).bind fun u3 =>
    if x2 ≤ u3 then
      some (0 : Int32)
    else
      some (1 : Int32)
  else
    some (1 : Int32)
def p_M_isSick_l5 (f : Nat) (σ : qMem) (x1 : Int32) (x2 : Int32) (k5 : Int32 → Int32 → Option (Int32)) (x3 : Int32) (x4 : Int32) : Option (Int32) :=
  if (σ 104 27) ≤ x4 then
    some (vp_nar .boolean x3)
  else
    if x3 = 0 then
      if qin x4 20 = true then
      if (σ 117 (qi x4)) = x1 then
        if qin x4 20 = true then
        if x2 < (σ 118 (qi x4)) then
          k5 (0 : Int32) (x4 + (1 : Int32))
        else
          if qin x4 20 = true then
          if (σ 119 (qi x4)) < x2 then
            k5 (0 : Int32) (x4 + (1 : Int32))
          else
            k5 (1 : Int32) (x4 + (1 : Int32))
          else none
        else none
      else
        k5 (0 : Int32) (x4 + (1 : Int32))
      else none
    else
      k5 (1 : Int32) (x4 + (1 : Int32))
def p_M_isSick (f : Nat) (σ : qMem) (x1 : Int32) (x2 : Int32) : Option (Int32) :=
  qfix2 (p_M_isSick_l5 f σ x1 x2 ) f (0 : Int32) (0 : Int32)
def p_M_judge_b44 (f : Nat) (k4 : qMem → Int64 → Int32 → Option (qMem)) (k19 : Int32 → Int32 → Option (qMem)) (σ : qMem) (x1 : Int64) (x3 : Int32) (x4 : Int32) (x5 : Int32) (s0 : Int32) : Option (qMem) :=
  if s0 = 0 then
    k19 x4 (x5 + (1 : Int32))
  else
    if x4 = (-1000000 : Int32) then
      k19 x5 (x5 + (1 : Int32))
    else
      if qin x5 60 = true then
      if qin x5 60 = true then
      if qin x4 60 = true then
      if qin x4 60 = true then
      if (((5 : Int32) * (σ 113 (qi x4))) + (σ 114 (qi x4))) ≤ (((5 : Int32) * (σ 113 (qi x5))) + (σ 114 (qi x5))) then
        k19 x4 (x5 + (1 : Int32))
      else
        k19 x5 (x5 + (1 : Int32))
      else none
      else none
      else none
      else none
def p_M_judge_b304 (f : Nat) (k4 : qMem → Int64 → Int32 → Option (qMem)) (k180 : Int32 → Int32 → Int32 → Option (qMem)) (σ : qMem) (x1 : Int64) (x3 : Int32) (x4 : Int32) (x5 : Int32) (x6 : Int32) (x8 : Int32) (x9 : Int32) (x11 : Int32) (s0 : Int32) : Option (qMem) :=
  if x11 = 0 then
    k180 s0 (x8 + (0 : Int32)) (x9 + (1 : Int32))
  else
    k180 s0 (x8 + (1 : Int32)) (x9 + (1 : Int32))
def p_M_judge_b303 (f : Nat) (k4 : qMem → Int64 → Int32 → Option (qMem)) (k180 : Int32 → Int32 → Int32 → Option (qMem)) (σ : qMem) (x1 : Int64) (x3 : Int32) (x4 : Int32) (x5 : Int32) (x6 : Int32) (x8 : Int32) (x9 : Int32) (x11 : Int32) : Option (qMem) :=
  p_M_judge_b304 f k4 k180 σ x1 x3 x4 x5 x6 x8 x9 x11 (0 : Int32)
def p_M_judge_b253 (f : Nat) (k4 : qMem → Int64 → Int32 → Option (qMem)) (k180 : Int32 → Int32 → Int32 → Option (qMem)) (σ : qMem) (x1 : Int64) (x3 : Int32) (x4 : Int32) (x5 : Int32) (x6 : Int32) (x7 : Int32) (x8 : Int32) (x9 : Int32) (x10 : Int32) (s0 : Int32) : Option (qMem) :=
  if x7 = 0 then
    p_M_judge_b303 f k4 k180 σ x1 x3 x4 x5 x6 x8 x9 s0
  else
    if qin x9 60 = true then
    if qin x4 60 = true then
    if (σ 114 (qi x9)) = (σ 114 (qi x4)) then
      if s0 = 0 then
        (p_M_of f σ x10 (2 : Int32)).bind fun u7 =>
        (p_M_of f σ x5 (2 : Int32)).bind fun u9 =>
        if u7 = u9 then
          p_M_judge_b303 f k4 k180 σ x1 x3 x4 x5 x6 x8 x9 s0
        else
          p_M_judge_b304 f k4 k180 σ x1 x3 x4 x5 x6 x8 x9 s0 (1 : Int32)
      else
        p_M_judge_b303 f k4 k180 σ x1 x3 x4 x5 x6 x8 x9 s0
    else
      p_M_judge_b304 f k4 k180 σ x1 x3 x4 x5 x6 x8 x9 s0 (1 : Int32)
    else none
    else none
def p_M_judge_l180 (f : Nat) (σ : qMem) (x1 : Int64) (x3 : Int32) (x4 : Int32) (x5 : Int32) (x6 : Int32) (k4 : qMem → Int64 → Int32 → Option (qMem)) (k180 : Int32 → Int32 → Int32 → Option (qMem)) (x7 : Int32) (x8 : Int32) (x9 : Int32) : Option (qMem) :=
  if (σ 104 21) ≤ x9 then
    if x7 = 0 then
      if qin x4 60 = true then
      k4 (qmu σ 115 (qi x4) (vp_nar .boolean (0 : Int32))) (x1 ||| ((1 : Int64) <<< ((x4).toInt64 &&& 63))) (x3 + (1 : Int32))
      else none
    else
      (p_M_of f σ x5 (3 : Int32)).bind fun u12 =>
      if qin u12 8 = true then
      if (σ 116 (qi u12)) ≤ x8 then
        if qin x4 60 = true then
        k4 (qmu σ 115 (qi x4) (vp_nar .boolean (0 : Int32))) (x1 ||| ((1 : Int64) <<< ((x4).toInt64 &&& 63))) (x3 + (1 : Int32))
        else none
      else
        if qin x4 60 = true then
        k4 (qmu σ 115 (qi x4) (vp_nar .boolean (1 : Int32))) (x1 ||| ((1 : Int64) <<< ((x4).toInt64 &&& 63))) (x3 + (1 : Int32))
        else none
      else none
  else
    if (lg_cmp ((x1 >>> ((x9).toInt64 &&& 63)) &&& (1 : Int64)) (1 : Int64)) = 0 then
      if qin x9 60 = true then
      if (σ 115 (qi x9)) = 0 then
        k180 x7 x8 (x9 + (1 : Int32))
      else
        if qin x9 60 = true then
        if (σ 113 (qi x9)) = x6 then
          if qin x9 60 = true then
          (p_M_of f σ (σ 112 (qi x9)) (3 : Int32)).bind fun u20 =>
          (p_M_of f σ x5 (3 : Int32)).bind fun u22 =>
          if u20 = u22 then
            p_M_judge_b253 f k4 k180 σ x1 x3 x4 x5 x6 x7 x8 x9 (σ 112 (qi x9)) (1 : Int32)
          else
            p_M_judge_b253 f k4 k180 σ x1 x3 x4 x5 x6 x7 x8 x9 (σ 112 (qi x9)) (0 : Int32)
          else none
        else
          k180 x7 x8 (x9 + (1 : Int32))
        else none
      else none
    else
      k180 x7 x8 (x9 + (1 : Int32))
def p_M_judge_l19 (f : Nat) (σ : qMem) (x1 : Int64) (x3 : Int32) (k4 : qMem → Int64 → Int32 → Option (qMem)) (k19 : Int32 → Int32 → Option (qMem)) (x4 : Int32) (x5 : Int32) : Option (qMem) :=
  if (σ 104 21) ≤ x5 then
    if qin x4 60 = true then
    if qin x4 60 = true then
    (p_M_of f σ (σ 112 (qi x4)) (5 : Int32)).bind fun u26 =>
    if (σ 113 (qi x4)) < u26 then
      qfix3 (p_M_judge_l180 f σ x1 x3 x4 (σ 112 (qi x4)) (σ 113 (qi x4)) k4) f (0 : Int32) (0 : Int32) (0 : Int32)
    else
      (p_M_isEnded f σ (σ 112 (qi x4)) (σ 113 (qi x4))).bind fun u28 =>
      if u28 = 0 then
        (p_M_of f σ (σ 112 (qi x4)) (3 : Int32)).bind fun u30 =>
        (p_M_isSick f σ u30 (σ 113 (qi x4))).bind fun u32 =>
        if u32 = 0 then
          qfix3 (p_M_judge_l180 f σ x1 x3 x4 (σ 112 (qi x4)) (σ 113 (qi x4)) k4) f (1 : Int32) (0 : Int32) (0 : Int32)
        else
          qfix3 (p_M_judge_l180 f σ x1 x3 x4 (σ 112 (qi x4)) (σ 113 (qi x4)) k4) f (0 : Int32) (0 : Int32) (0 : Int32)
      else
        qfix3 (p_M_judge_l180 f σ x1 x3 x4 (σ 112 (qi x4)) (σ 113 (qi x4)) k4) f (0 : Int32) (0 : Int32) (0 : Int32)
    else none
    else none
  else
    if (lg_cmp ((x1 >>> ((x5).toInt64 &&& 63)) &&& (1 : Int64)) (0 : Int64)) = 0 then
      p_M_judge_b44 f k4 k19 σ x1 x3 x4 x5 (1 : Int32)
    else
      p_M_judge_b44 f k4 k19 σ x1 x3 x4 x5 (0 : Int32)
def p_M_judge_l4 (f : Nat) (k4 : qMem → Int64 → Int32 → Option (qMem)) (σ : qMem) (x1 : Int64) (x3 : Int32) : Option (qMem) :=
  if (σ 104 21) ≤ x3 then
    some σ
  else
    qfix2 (p_M_judge_l19 f σ x1 x3 k4) f (-1000000 : Int32) (0 : Int32)
def p_M_judge (f : Nat) (σ : qMem) : Option (qMem) :=
  qfix3 (p_M_judge_l4 f ) f σ (0 : Int64) (0 : Int32)
def p_M_good (f : Nat) (σ : qMem) (x1 : Int32) : Option (Int32 × qMem) :=
  (p_M_in f (qmu σ 104 0 (0 : Int32)) (x1).toInt64 (0 : Int64) (((((qmu σ 104 0 (0 : Int32)) 104 21) - (1 : Int32))).toInt64)).bind fun u1 =>
  if u1 = 0 then
    some ((-1000001 : Int32), (qmu σ 104 0 (0 : Int32)))
  else
    (p_M_judge f (qmu σ 104 0 (0 : Int32))).bind fun u3 =>
    if qin x1 60 = true then
    if (u3 115 (qi x1)) = 0 then
      some ((0 : Int32), u3)
    else
      some ((1 : Int32), u3)
    else none
def p_M_isIn (f : Nat) (σ : qMem) (x1 : Int32) (x2 : Int32) : Option (Int32) :=
  if qin x1 10 = true then
  if (σ 120 (qi x1)) = x2 then
    some (1 : Int32)
  else
    if qin x1 10 = true then
    if (σ 121 (qi x1)) = x2 then
      some (1 : Int32)
    else
      some (0 : Int32)
    else none
  else none
def p_M_join_b68 (f : Nat) (k39 : Int32 → Option (Int32 × qMem)) (σ : qMem) (x1 : Int32) (x2 : Int32) (x3 : Int32) (x4 : Int32) : Option (Int32 × qMem) :=
  if qin x4 10 = true then
  if (σ 123 (qi x4)) = (-1000000 : Int32) then
    some ((-1000002 : Int32), σ)
  else
    if qin x4 10 = true then
    if (σ 123 (qi x4)) ≤ x3 then
      k39 (x4 + (1 : Int32))
    else
      some ((-1000002 : Int32), σ)
    else none
  else none
def p_M_join_l39 (f : Nat) (σ : qMem) (x1 : Int32) (x2 : Int32) (x3 : Int32) (k39 : Int32 → Option (Int32 × qMem)) (x4 : Int32) : Option (Int32 × qMem) :=
  if (σ 104 31) ≤ x4 then
    if (σ 104 31) = (10 : Int32) then
      some ((-1000003 : Int32), σ)
    else
      if qin (σ 104 31) 10 = true then
      if qin ((qmu σ 120 (qi (σ 104 31)) x1) 104 31) 10 = true then
      if qin ((qmu (qmu σ 120 (qi (σ 104 31)) x1) 121 (qi ((qmu σ 120 (qi (σ 104 31)) x1) 104 31)) x2) 104 31) 10 = true then
      if qin ((qmu (qmu (qmu σ 120 (qi (σ 104 31)) x1) 121 (qi ((qmu σ 120 (qi (σ 104 31)) x1) 104 31)) x2) 122 (qi ((qmu (qmu σ 120 (qi (σ 104 31)) x1) 121 (qi ((qmu σ 120 (qi (σ 104 31)) x1) 104 31)) x2) 104 31)) x3) 104 31) 10 = true then
      some ((1 : Int32), (qmu (qmu (qmu (qmu (qmu σ 120 (qi (σ 104 31)) x1) 121 (qi ((qmu σ 120 (qi (σ 104 31)) x1) 104 31)) x2) 122 (qi ((qmu (qmu σ 120 (qi (σ 104 31)) x1) 121 (qi ((qmu σ 120 (qi (σ 104 31)) x1) 104 31)) x2) 104 31)) x3) 123 (qi ((qmu (qmu (qmu σ 120 (qi (σ 104 31)) x1) 121 (qi ((qmu σ 120 (qi (σ 104 31)) x1) 104 31)) x2) 122 (qi ((qmu (qmu σ 120 (qi (σ 104 31)) x1) 121 (qi ((qmu σ 120 (qi (σ 104 31)) x1) 104 31)) x2) 104 31)) x3) 104 31)) (-1000000 : Int32)) 104 31 (((qmu (qmu (qmu (qmu σ 120 (qi (σ 104 31)) x1) 121 (qi ((qmu σ 120 (qi (σ 104 31)) x1) 104 31)) x2) 122 (qi ((qmu (qmu σ 120 (qi (σ 104 31)) x1) 121 (qi ((qmu σ 120 (qi (σ 104 31)) x1) 104 31)) x2) 104 31)) x3) 123 (qi ((qmu (qmu (qmu σ 120 (qi (σ 104 31)) x1) 121 (qi ((qmu σ 120 (qi (σ 104 31)) x1) 104 31)) x2) 122 (qi ((qmu (qmu σ 120 (qi (σ 104 31)) x1) 121 (qi ((qmu σ 120 (qi (σ 104 31)) x1) 104 31)) x2) 104 31)) x3) 104 31)) (-1000000 : Int32)) 104 31) + (1 : Int32))))
      else none
      else none
      else none
      else none
  else
    (p_M_isIn f σ x4 x1).bind fun u7 =>
    if u7 = 0 then
      (p_M_isIn f σ x4 x2).bind fun u9 =>
      if u9 = 0 then
        k39 (x4 + (1 : Int32))
      else
        p_M_join_b68 f k39 σ x1 x2 x3 x4
    else
      p_M_join_b68 f k39 σ x1 x2 x3 x4
def p_M_join (f : Nat) (σ : qMem) (x1 : Int32) (x2 : Int32) (x3 : Int32) : Option (Int32 × qMem) :=
  (p_M_isPromise f (qmu σ 104 0 (0 : Int32)) x1).bind fun u11 =>
  if u11 = 0 then
    some ((-1000001 : Int32), (qmu σ 104 0 (0 : Int32)))
  else
    (p_M_isPromise f (qmu σ 104 0 (0 : Int32)) x2).bind fun u13 =>
    if u13 = 0 then
      some ((-1000001 : Int32), (qmu σ 104 0 (0 : Int32)))
    else
      if x1 = x2 then
        some ((-1000001 : Int32), (qmu σ 104 0 (0 : Int32)))
      else
        (p_M_isDay f (qmu σ 104 0 (0 : Int32)) x3).bind fun u15 =>
        if u15 = 0 then
          some ((-1000001 : Int32), (qmu σ 104 0 (0 : Int32)))
        else
          qfix1 (p_M_join_l39 f (qmu σ 104 0 (0 : Int32)) x1 x2 x3 ) f (0 : Int32)
def p_M_split_l29 (f : Nat) (σ : qMem) (x1 : Int32) (x2 : Int32) (k29 : Int32 → Int32 → Option (Int32 × qMem)) (x3 : Int32) (x4 : Int32) : Option (Int32 × qMem) :=
  if (σ 104 31) ≤ x4 then
    if x3 = (-1000000 : Int32) then
      some ((-1000002 : Int32), σ)
    else
      if qin x3 10 = true then
      if (σ 123 (qi x3)) = (-1000000 : Int32) then
        if qin x3 10 = true then
        if (σ 122 (qi x3)) < x2 then
          if qin x3 10 = true then
          some ((1 : Int32), (qmu σ 123 (qi x3) x2))
          else none
        else
          some ((-1000002 : Int32), σ)
        else none
      else
        some ((-1000002 : Int32), σ)
      else none
  else
    (p_M_isIn f σ x4 x1).bind fun u4 =>
    if u4 = 0 then
      k29 x3 (x4 + (1 : Int32))
    else
      k29 x4 (x4 + (1 : Int32))
def p_M_split (f : Nat) (σ : qMem) (x1 : Int32) (x2 : Int32) : Option (Int32 × qMem) :=
  (p_M_isPromise f (qmu σ 104 0 (0 : Int32)) x1).bind fun u6 =>
  if u6 = 0 then
    some ((-1000001 : Int32), (qmu σ 104 0 (0 : Int32)))
  else
    (p_M_isDay f (qmu σ 104 0 (0 : Int32)) x2).bind fun u8 =>
    if u8 = 0 then
      some ((-1000001 : Int32), (qmu σ 104 0 (0 : Int32)))
    else
      qfix2 (p_M_split_l29 f (qmu σ 104 0 (0 : Int32)) x1 x2 ) f (-1000000 : Int32) (0 : Int32)
def p_M_rankOn_l4 (f : Nat) (σ : qMem) (x1 : Int32) (k4 : Int32 → Int32 → Option (Int32)) (x2 : Int32) (x3 : Int32) : Option (Int32) :=
  if (σ 104 18) ≤ x3 then
    some x2
  else
    if qin x3 30 = true then
    if (σ 110 (qi x3)) = x1 then
      if qin x3 30 = true then
      if (σ 111 (qi x3)) ≤ x2 then
        k4 x2 (x3 + (1 : Int32))
      else
        if qin x3 30 = true then
        k4 (σ 111 (qi x3)) (x3 + (1 : Int32))
        else none
      else none
    else
      k4 x2 (x3 + (1 : Int32))
    else none
def p_M_rankOn (f : Nat) (σ : qMem) (x1 : Int32) : Option (Int32) :=
  qfix2 (p_M_rankOn_l4 f σ x1 ) f (0 : Int32) (0 : Int32)
def p_M_movedFrom_b41 (f : Nat) (σ : qMem) (x3 : Int32) : Option (Int32) :=
  if x3 ≤ (9999 : Int32) then
    some x3
  else
    some (-1000000 : Int32)
def p_M_movedFrom_l16 (f : Nat) (σ : qMem) (x2 : Int32) (k16 : Int32 → Option (Int32)) (x3 : Int32) : Option (Int32) :=
  if x2 ≤ 0 then
    p_M_movedFrom_b41 f σ x3
  else
    if (10000 : Int32) ≤ x3 then
      p_M_movedFrom_b41 f σ x3
    else
      (p_M_rankOn f σ x3).bind fun u1 =>
      if u1 ≤ 0 then
        p_M_movedFrom_b41 f σ x3
      else
        k16 (x3 + (1 : Int32))
def p_M_movedFrom (f : Nat) (σ : qMem) (x1 : Int32) : Option (Int32) :=
  (p_M_rankOn f σ x1).bind fun u3 =>
  if u3 = (2 : Int32) then
    some (-1000000 : Int32)
  else
    qfix1 (p_M_movedFrom_l16 f σ u3 ) f x1
def p_M_wantsIn_b63 (f : Nat) (k11 : Int32 → Int32 → Option (Int32)) (σ : qMem) (x1 : Int32) (x2 : Int32) (x3 : Int32) (x5 : Int32) (s0 : Int32) (s1 : Int32) : Option (Int32) :=
  (p_M_of f σ x1 (4 : Int32)).bind fun u1 =>
  k11 (s0 + s1) (x5 + u1)
def p_M_wantsIn_b62 (f : Nat) (k11 : Int32 → Int32 → Option (Int32)) (σ : qMem) (x1 : Int32) (x2 : Int32) (x3 : Int32) (x5 : Int32) (s0 : Int32) : Option (Int32) :=
  p_M_wantsIn_b63 f k11 σ x1 x2 x3 x5 s0 (0 : Int32)
def p_M_wantsIn_l11 (f : Nat) (σ : qMem) (x1 : Int32) (x2 : Int32) (x3 : Int32) (k11 : Int32 → Int32 → Option (Int32)) (x4 : Int32) (x5 : Int32) : Option (Int32) :=
  (p_M_of f σ x1 (6 : Int32)).bind fun u3 =>
  if u3 < x5 then
    some x4
  else
    if x3 < x5 then
      some x4
    else
      (p_M_movedFrom f σ x5).bind fun u5 =>
      if u5 = (-1000000 : Int32) then
        p_M_wantsIn_b62 f k11 σ x1 x2 x3 x5 x4
      else
        if u5 < x2 then
          p_M_wantsIn_b62 f k11 σ x1 x2 x3 x5 x4
        else
          if x3 < u5 then
            p_M_wantsIn_b62 f k11 σ x1 x2 x3 x5 x4
          else
            p_M_wantsIn_b63 f k11 σ x1 x2 x3 x5 x4 (1 : Int32)
def p_M_wantsIn (f : Nat) (σ : qMem) (x1 : Int32) (x2 : Int32) (x3 : Int32) : Option (Int32) :=
  (p_M_of f σ x1 (5 : Int32)).bind fun u7 =>
  qfix2 (p_M_wantsIn_l11 f σ x1 x2 x3 ) f (0 : Int32) u7
def p_M_otherOf_b59 (f : Nat) (k6 : Int32 → Int32 → Option (Int32)) (σ : qMem) (x1 : Int32) (x2 : Int32) (x4 : Int32) : Option (Int32) :=
  if qin x4 10 = true then
  if (σ 120 (qi x4)) = x1 then
    if qin x4 10 = true then
    k6 (σ 121 (qi x4)) (x4 + (1 : Int32))
    else none
  else
    if qin x4 10 = true then
    k6 (σ 120 (qi x4)) (x4 + (1 : Int32))
    else none
  else none
def p_M_otherOf_l6 (f : Nat) (σ : qMem) (x1 : Int32) (x2 : Int32) (k6 : Int32 → Int32 → Option (Int32)) (x3 : Int32) (x4 : Int32) : Option (Int32) :=
  if (σ 104 31) ≤ x4 then
    some x3
  else
    (p_M_isIn f σ x4 x1).bind fun u4 =>
    if u4 = 0 then
      k6 x3 (x4 + (1 : Int32))
    else
      if qin x4 10 = true then
      if x2 < (σ 122 (qi x4)) then
        k6 x3 (x4 + (1 : Int32))
      else
        if qin x4 10 = true then
        if (σ 123 (qi x4)) = (-1000000 : Int32) then
          p_M_otherOf_b59 f k6 σ x1 x2 x4
        else
          if qin x4 10 = true then
          if (σ 123 (qi x4)) ≤ x2 then
            k6 x3 (x4 + (1 : Int32))
          else
            p_M_otherOf_b59 f k6 σ x1 x2 x4
          else none
        else none
      else none
def p_M_otherOf (f : Nat) (σ : qMem) (x1 : Int32) (x2 : Int32) : Option (Int32) :=
  qfix2 (p_M_otherOf_l6 f σ x1 x2 ) f (-1000000 : Int32) (0 : Int32)
def p_M_saidTill_b56 (f : Nat) (k9 : Int32 → Int32 → Option (Int32 × qMem)) (σ : qMem) (x1 : Int32) (x2 : Int32) (x3 : Int32) (x4 : Int32) (s0 : Int32) : Option (Int32 × qMem) :=
  if qin x4 60 = true then
  if (σ 115 (qi x4)) = 0 then
    k9 (x3 + (0 : Int32)) (x4 + (1 : Int32))
  else
    if qin x4 60 = true then
    if x2 < (σ 113 (qi x4)) then
      k9 (x3 + (0 : Int32)) (x4 + (1 : Int32))
    else
      if s0 = 0 then
        k9 (x3 + (0 : Int32)) (x4 + (1 : Int32))
      else
        k9 (x3 + (1 : Int32)) (x4 + (1 : Int32))
    else none
  else none
def p_M_saidTill_l9 (f : Nat) (σ : qMem) (x1 : Int32) (x2 : Int32) (k9 : Int32 → Int32 → Option (Int32 × qMem)) (x3 : Int32) (x4 : Int32) : Option (Int32 × qMem) :=
  if (σ 104 21) ≤ x4 then
    some (x3, σ)
  else
    if qin x4 60 = true then
    if (σ 112 (qi x4)) = x1 then
      p_M_saidTill_b56 f k9 σ x1 x2 x3 x4 (1 : Int32)
    else
      if qin x4 60 = true then
      (p_M_otherOf f σ x1 (σ 113 (qi x4))).bind fun u5 =>
      if qin x4 60 = true then
      if u5 = (σ 112 (qi x4)) then
        p_M_saidTill_b56 f k9 σ x1 x2 x3 x4 (1 : Int32)
      else
        p_M_saidTill_b56 f k9 σ x1 x2 x3 x4 (0 : Int32)
      else none
      else none
    else none
def p_M_saidTill (f : Nat) (σ : qMem) (x1 : Int32) (x2 : Int32) : Option (Int32 × qMem) :=
  (p_M_judge f σ).bind fun u8 =>
  qfix2 (p_M_saidTill_l9 f u8 x1 x2 ) f (0 : Int32) (0 : Int32)
def p_M_owedTill (f : Nat) (σ : qMem) (x1 : Int32) (x2 : Int32) : Option (Int32 × qMem) :=
  (p_M_wantsIn f σ x1 (0 : Int32) x2).bind fun u1 =>
  (p_M_saidTill f σ x1 x2).bind fun u3 =>
  if 0 ≤ (u1 - u3.1) then
    some ((u1 - u3.1), u3.2)
  else
    some ((0 : Int32), u3.2)
def p_M_count (f : Nat) (σ : qMem) (x1 : Int32) (x2 : Int32) (x3 : Int32) : Option (Int32 × qMem) :=
  (p_M_isPromise f (qmu σ 104 0 (0 : Int32)) x1).bind fun u1 =>
  if u1 = 0 then
    some ((-1000001 : Int32), (qmu σ 104 0 (0 : Int32)))
  else
    (p_M_isDay f (qmu σ 104 0 (0 : Int32)) x2).bind fun u3 =>
    if u3 = 0 then
      some ((-1000001 : Int32), (qmu σ 104 0 (0 : Int32)))
    else
      (p_M_in f (qmu σ 104 0 (0 : Int32)) (x3).toInt64 (0 : Int64) (2 : Int64)).bind fun u5 =>
      if u5 = 0 then
        some ((-1000001 : Int32), (qmu σ 104 0 (0 : Int32)))
      else
        if x3 = 0 then
          (p_M_wantsIn f (qmu σ 104 0 (0 : Int32)) x1 (0 : Int32) x2).bind fun u11 =>
          some (u11, (qmu σ 104 0 (0 : Int32)))
        else
          if x3 = (1 : Int32) then
            (p_M_saidTill f (qmu σ 104 0 (0 : Int32)) x1 x2).bind fun u9 =>
            some (u9.1, u9.2)
          else
            (p_M_owedTill f (qmu σ 104 0 (0 : Int32)) x1 x2).bind fun u7 =>
            some (u7.1, u7.2)
def p_M_isHouse (f : Nat) (σ : qMem) (x0 : Int32) : Option (Int32) :=
  (p_M_in f σ (x0).toInt64 (0 : Int64) (5 : Int64)).bind fun u1 =>
  some (vp_nar .boolean u1)
def p_M_house_b87 (f : Nat) (σ : qMem) (x1 : Int32) (x2 : Int32) (x3 : Int32) (x4 : Int32) (s1 : Int32) (s2 : Int32) : Option (Int32 × qMem) :=
  if qin s1 6 = true then
  if x2 = (1 : Int32) then
    if qin x1 6 = true then
    some (x4, (qmu (qmu σ 124 (qi s1) s2) 125 (qi x1) x3))
    else none
  else
    if qin x1 6 = true then
    if qin x1 6 = true then
    some (x4, (qmu (qmu σ 124 (qi s1) s2) 125 (qi x1) ((qmu σ 124 (qi s1) s2) 125 (qi x1))))
    else none
    else none
  else none
def p_M_house_b66 (f : Nat) (σ : qMem) (x1 : Int32) (x2 : Int32) (x3 : Int32) (s0 : Int32) : Option (Int32 × qMem) :=
  if x2 = 0 then
    p_M_house_b87 f σ x1 x2 x3 s0 x1 x3
  else
    if qin x1 6 = true then
    p_M_house_b87 f σ x1 x2 x3 s0 x1 (σ 124 (qi x1))
    else none
def p_M_house_b38 (f : Nat) (σ : qMem) (x1 : Int32) (x2 : Int32) (x3 : Int32) (s0 : Int64) (s1 : Int64) (s2 : Int64) : Option (Int32 × qMem) :=
  (p_M_in f σ s0 s1 s2).bind fun u6 =>
  if u6 = 0 then
    some ((-1000001 : Int32), σ)
  else
    if x2 = 0 then
      if qin x1 6 = true then
      p_M_house_b66 f σ x1 x2 x3 (σ 124 (qi x1))
      else none
    else
      if qin x1 6 = true then
      p_M_house_b66 f σ x1 x2 x3 (σ 125 (qi x1))
      else none
def p_M_house (f : Nat) (σ : qMem) (x1 : Int32) (x2 : Int32) (x3 : Int32) : Option (Int32 × qMem) :=
  (p_M_isHouse f (qmu σ 104 0 (0 : Int32)) x1).bind fun u10 =>
  if u10 = 0 then
    some ((-1000001 : Int32), (qmu σ 104 0 (0 : Int32)))
  else
    (p_M_in f (qmu σ 104 0 (0 : Int32)) (x2).toInt64 (0 : Int64) (1 : Int64)).bind fun u12 =>
    if u12 = 0 then
      some ((-1000001 : Int32), (qmu σ 104 0 (0 : Int32)))
    else
      if x2 = 0 then
        p_M_house_b38 f (qmu σ 104 0 (0 : Int32)) x1 x2 x3 (x3).toInt64 (0 : Int64) (10000 : Int64)
      else
        p_M_house_b38 f (qmu σ 104 0 (0 : Int32)) x1 x2 x3 (x3).toInt64 (0 : Int64) (100 : Int64)
def p_M_isYear (f : Nat) (σ : qMem) (x0 : Int32) : Option (Int32) :=
  (p_M_in f σ (x0).toInt64 (0 : Int64) (27 : Int64)).bind fun u1 =>
  some (vp_nar .boolean u1)
def p_M_repair (f : Nat) (σ : qMem) (x1 : Int32) (x2 : Int32) (x3 : Int32) : Option (Int32 × qMem) :=
  (p_M_isHouse f (qmu σ 104 0 (0 : Int32)) x1).bind fun u1 =>
  if u1 = 0 then
    some ((-1000001 : Int32), (qmu σ 104 0 (0 : Int32)))
  else
    (p_M_isYear f (qmu σ 104 0 (0 : Int32)) x2).bind fun u3 =>
    if u3 = 0 then
      some ((-1000001 : Int32), (qmu σ 104 0 (0 : Int32)))
    else
      (p_M_in f (qmu σ 104 0 (0 : Int32)) (x3).toInt64 (1 : Int64) (10000 : Int64)).bind fun u5 =>
      if u5 = 0 then
        some ((-1000001 : Int32), (qmu σ 104 0 (0 : Int32)))
      else
        if ((qmu σ 104 0 (0 : Int32)) 104 38) = (20 : Int32) then
          some ((-1000003 : Int32), (qmu σ 104 0 (0 : Int32)))
        else
          if qin ((qmu σ 104 0 (0 : Int32)) 104 38) 20 = true then
          if qin ((qmu (qmu σ 104 0 (0 : Int32)) 126 (qi ((qmu σ 104 0 (0 : Int32)) 104 38)) x1) 104 38) 20 = true then
          if qin ((qmu (qmu (qmu σ 104 0 (0 : Int32)) 126 (qi ((qmu σ 104 0 (0 : Int32)) 104 38)) x1) 127 (qi ((qmu (qmu σ 104 0 (0 : Int32)) 126 (qi ((qmu σ 104 0 (0 : Int32)) 104 38)) x1) 104 38)) x2) 104 38) 20 = true then
          some (((qmu (qmu (qmu (qmu (qmu σ 104 0 (0 : Int32)) 126 (qi ((qmu σ 104 0 (0 : Int32)) 104 38)) x1) 127 (qi ((qmu (qmu σ 104 0 (0 : Int32)) 126 (qi ((qmu σ 104 0 (0 : Int32)) 104 38)) x1) 104 38)) x2) 128 (qi ((qmu (qmu (qmu σ 104 0 (0 : Int32)) 126 (qi ((qmu σ 104 0 (0 : Int32)) 104 38)) x1) 127 (qi ((qmu (qmu σ 104 0 (0 : Int32)) 126 (qi ((qmu σ 104 0 (0 : Int32)) 104 38)) x1) 104 38)) x2) 104 38)) x3) 104 38 (((qmu (qmu (qmu (qmu σ 104 0 (0 : Int32)) 126 (qi ((qmu σ 104 0 (0 : Int32)) 104 38)) x1) 127 (qi ((qmu (qmu σ 104 0 (0 : Int32)) 126 (qi ((qmu σ 104 0 (0 : Int32)) 104 38)) x1) 104 38)) x2) 128 (qi ((qmu (qmu (qmu σ 104 0 (0 : Int32)) 126 (qi ((qmu σ 104 0 (0 : Int32)) 104 38)) x1) 127 (qi ((qmu (qmu σ 104 0 (0 : Int32)) 126 (qi ((qmu σ 104 0 (0 : Int32)) 104 38)) x1) 104 38)) x2) 104 38)) x3) 104 38) + (1 : Int32))) 104 38), (qmu (qmu (qmu (qmu (qmu σ 104 0 (0 : Int32)) 126 (qi ((qmu σ 104 0 (0 : Int32)) 104 38)) x1) 127 (qi ((qmu (qmu σ 104 0 (0 : Int32)) 126 (qi ((qmu σ 104 0 (0 : Int32)) 104 38)) x1) 104 38)) x2) 128 (qi ((qmu (qmu (qmu σ 104 0 (0 : Int32)) 126 (qi ((qmu σ 104 0 (0 : Int32)) 104 38)) x1) 127 (qi ((qmu (qmu σ 104 0 (0 : Int32)) 126 (qi ((qmu σ 104 0 (0 : Int32)) 104 38)) x1) 104 38)) x2) 104 38)) x3) 104 38 (((qmu (qmu (qmu (qmu σ 104 0 (0 : Int32)) 126 (qi ((qmu σ 104 0 (0 : Int32)) 104 38)) x1) 127 (qi ((qmu (qmu σ 104 0 (0 : Int32)) 126 (qi ((qmu σ 104 0 (0 : Int32)) 104 38)) x1) 104 38)) x2) 128 (qi ((qmu (qmu (qmu σ 104 0 (0 : Int32)) 126 (qi ((qmu σ 104 0 (0 : Int32)) 104 38)) x1) 127 (qi ((qmu (qmu σ 104 0 (0 : Int32)) 126 (qi ((qmu σ 104 0 (0 : Int32)) 104 38)) x1) 104 38)) x2) 104 38)) x3) 104 38) + (1 : Int32))))
          else none
          else none
          else none
def p_M_empty (f : Nat) (σ : qMem) (x1 : Int32) (x2 : Int32) (x3 : Int32) : Option (Int32 × qMem) :=
  (p_M_isHouse f (qmu σ 104 0 (0 : Int32)) x1).bind fun u1 =>
  if u1 = 0 then
    some ((-1000001 : Int32), (qmu σ 104 0 (0 : Int32)))
  else
    (p_M_isDay f (qmu σ 104 0 (0 : Int32)) x2).bind fun u3 =>
    if u3 = 0 then
      some ((-1000001 : Int32), (qmu σ 104 0 (0 : Int32)))
    else
      (p_M_in f (qmu σ 104 0 (0 : Int32)) (x3).toInt64 (x2).toInt64 (9999 : Int64)).bind fun u5 =>
      if u5 = 0 then
        some ((-1000001 : Int32), (qmu σ 104 0 (0 : Int32)))
      else
        if ((qmu σ 104 0 (0 : Int32)) 104 42) = (20 : Int32) then
          some ((-1000003 : Int32), (qmu σ 104 0 (0 : Int32)))
        else
          if qin ((qmu σ 104 0 (0 : Int32)) 104 42) 20 = true then
          if qin ((qmu (qmu σ 104 0 (0 : Int32)) 129 (qi ((qmu σ 104 0 (0 : Int32)) 104 42)) x1) 104 42) 20 = true then
          if qin ((qmu (qmu (qmu σ 104 0 (0 : Int32)) 129 (qi ((qmu σ 104 0 (0 : Int32)) 104 42)) x1) 130 (qi ((qmu (qmu σ 104 0 (0 : Int32)) 129 (qi ((qmu σ 104 0 (0 : Int32)) 104 42)) x1) 104 42)) x2) 104 42) 20 = true then
          some (((qmu (qmu (qmu (qmu (qmu σ 104 0 (0 : Int32)) 129 (qi ((qmu σ 104 0 (0 : Int32)) 104 42)) x1) 130 (qi ((qmu (qmu σ 104 0 (0 : Int32)) 129 (qi ((qmu σ 104 0 (0 : Int32)) 104 42)) x1) 104 42)) x2) 131 (qi ((qmu (qmu (qmu σ 104 0 (0 : Int32)) 129 (qi ((qmu σ 104 0 (0 : Int32)) 104 42)) x1) 130 (qi ((qmu (qmu σ 104 0 (0 : Int32)) 129 (qi ((qmu σ 104 0 (0 : Int32)) 104 42)) x1) 104 42)) x2) 104 42)) x3) 104 42 (((qmu (qmu (qmu (qmu σ 104 0 (0 : Int32)) 129 (qi ((qmu σ 104 0 (0 : Int32)) 104 42)) x1) 130 (qi ((qmu (qmu σ 104 0 (0 : Int32)) 129 (qi ((qmu σ 104 0 (0 : Int32)) 104 42)) x1) 104 42)) x2) 131 (qi ((qmu (qmu (qmu σ 104 0 (0 : Int32)) 129 (qi ((qmu σ 104 0 (0 : Int32)) 104 42)) x1) 130 (qi ((qmu (qmu σ 104 0 (0 : Int32)) 129 (qi ((qmu σ 104 0 (0 : Int32)) 104 42)) x1) 104 42)) x2) 104 42)) x3) 104 42) + (1 : Int32))) 104 42), (qmu (qmu (qmu (qmu (qmu σ 104 0 (0 : Int32)) 129 (qi ((qmu σ 104 0 (0 : Int32)) 104 42)) x1) 130 (qi ((qmu (qmu σ 104 0 (0 : Int32)) 129 (qi ((qmu σ 104 0 (0 : Int32)) 104 42)) x1) 104 42)) x2) 131 (qi ((qmu (qmu (qmu σ 104 0 (0 : Int32)) 129 (qi ((qmu σ 104 0 (0 : Int32)) 104 42)) x1) 130 (qi ((qmu (qmu σ 104 0 (0 : Int32)) 129 (qi ((qmu σ 104 0 (0 : Int32)) 104 42)) x1) 104 42)) x2) 104 42)) x3) 104 42 (((qmu (qmu (qmu (qmu σ 104 0 (0 : Int32)) 129 (qi ((qmu σ 104 0 (0 : Int32)) 104 42)) x1) 130 (qi ((qmu (qmu σ 104 0 (0 : Int32)) 129 (qi ((qmu σ 104 0 (0 : Int32)) 104 42)) x1) 104 42)) x2) 131 (qi ((qmu (qmu (qmu σ 104 0 (0 : Int32)) 129 (qi ((qmu σ 104 0 (0 : Int32)) 104 42)) x1) 130 (qi ((qmu (qmu σ 104 0 (0 : Int32)) 129 (qi ((qmu σ 104 0 (0 : Int32)) 104 42)) x1) 104 42)) x2) 104 42)) x3) 104 42) + (1 : Int32))))
          else none
          else none
          else none
def p_M_rentOf_l66 (f : Nat) (σ : qMem) (x1 : Int32) (x2 : Int32) (x3 : Int32) (x4 : Int32) (x5 : Int32) (k46 : Int32 → Int32 → Option (Int32)) (k66 : Int32 → Int32 → Option (Int32)) (x6 : Int32) (x7 : Int32) : Option (Int32) :=
  if (σ 104 42) ≤ x7 then
    if x6 = 0 then
      k46 (x4 + (0 : Int32)) (x5 + (1 : Int32))
    else
      k46 (x4 + (1 : Int32)) (x5 + (1 : Int32))
  else
    if x6 = 0 then
      if qin x7 20 = true then
      if (σ 129 (qi x7)) = x1 then
        if qin x7 20 = true then
        if x5 < (σ 130 (qi x7)) then
          k66 (0 : Int32) (x7 + (1 : Int32))
        else
          if qin x7 20 = true then
          if (σ 131 (qi x7)) < x5 then
            k66 (0 : Int32) (x7 + (1 : Int32))
          else
            k66 (1 : Int32) (x7 + (1 : Int32))
          else none
        else none
      else
        k66 (0 : Int32) (x7 + (1 : Int32))
      else none
    else
      k66 (1 : Int32) (x7 + (1 : Int32))
def p_M_rentOf_l164 (f : Nat) (σ : qMem) (x1 : Int32) (x2 : Int32) (k164 : Int32 → Int32 → Option (Int32)) (x5 : Int32) (x6 : Int32) : Option (Int32) :=
  if (σ 104 38) ≤ x6 then
    if 0 ≤ x5 then
      some x5
    else
      some (0 : Int32)
  else
    if qin x6 20 = true then
    if (σ 126 (qi x6)) = x1 then
      if qin x6 20 = true then
      if (σ 127 (qi x6)) = x2 then
        if qin x6 20 = true then
        k164 (x5 - (σ 128 (qi x6))) (x6 + (1 : Int32))
        else none
      else
        k164 (x5 - (0 : Int32)) (x6 + (1 : Int32))
      else none
    else
      k164 (x5 - (0 : Int32)) (x6 + (1 : Int32))
    else none
def p_M_rentOf_l46 (f : Nat) (σ : qMem) (x1 : Int32) (x2 : Int32) (x3 : Int32) (k46 : Int32 → Int32 → Option (Int32)) (x4 : Int32) (x5 : Int32) : Option (Int32) :=
  if (((360 : Int32) * x2) + (360 : Int32)) ≤ x5 then
    qfix2 (p_M_rentOf_l164 f σ x1 x2 ) f (x3 - ((x3 * x4) / (360 : Int32))) (0 : Int32)
  else
    qfix2 (p_M_rentOf_l66 f σ x1 x2 x3 x4 x5 k46) f (0 : Int32) (0 : Int32)
def p_M_rentOf_l10 (f : Nat) (σ : qMem) (x1 : Int32) (x2 : Int32) (k10 : Int32 → Int32 → Option (Int32)) (x3 : Int32) (x4 : Int32) : Option (Int32) :=
  if x2 ≤ x4 then
    qfix2 (p_M_rentOf_l46 f σ x1 x2 x3 ) f (0 : Int32) ((360 : Int32) * x2)
  else
    if qin x1 6 = true then
    k10 (x3 - ((x3 * (σ 125 (qi x1))) / (100 : Int32))) (x4 + (1 : Int32))
    else none
def p_M_rentOf (f : Nat) (σ : qMem) (x1 : Int32) (x2 : Int32) : Option (Int32) :=
  if qin x1 6 = true then
  qfix2 (p_M_rentOf_l10 f σ x1 x2 ) f (σ 124 (qi x1)) (0 : Int32)
  else none
def p_M_rent (f : Nat) (σ : qMem) (x1 : Int32) (x2 : Int32) : Option (Int32 × qMem) :=
  (p_M_isHouse f (qmu σ 104 0 (0 : Int32)) x1).bind fun u1 =>
  if u1 = 0 then
    some ((-1000001 : Int32), (qmu σ 104 0 (0 : Int32)))
  else
    (p_M_isYear f (qmu σ 104 0 (0 : Int32)) x2).bind fun u3 =>
    if u3 = 0 then
      some ((-1000001 : Int32), (qmu σ 104 0 (0 : Int32)))
    else
      (p_M_rentOf f (qmu σ 104 0 (0 : Int32)) x1 x2).bind fun u5 =>
      some (u5, (qmu σ 104 0 (0 : Int32)))
def p_M_comesTo (f : Nat) (σ : qMem) (x1 : Int32) (x2 : Int32) : Option (Int32) :=
  (p_M_of f σ x1 (7 : Int32)).bind fun u1 =>
  (p_M_rentOf f σ u1 x2).bind fun u3 =>
  (p_M_of f σ x1 (8 : Int32)).bind fun u5 =>
  (p_M_otherOf f σ x1 ((360 : Int32) * x2)).bind fun u7 =>
  if u7 = (-1000000 : Int32) then
    some ((u3 * u5) / (100 : Int32))
  else
    (p_M_of f σ u7 (7 : Int32)).bind fun u9 =>
    (p_M_rentOf f σ u9 x2).bind fun u11 =>
    (p_M_of f σ u7 (8 : Int32)).bind fun u13 =>
    some (((u3 * u5) / (100 : Int32)) + ((u11 * u13) / (100 : Int32)))
def p_M_comes (f : Nat) (σ : qMem) (x1 : Int32) (x2 : Int32) (x3 : Int32) : Option (Int32 × qMem) :=
  (p_M_isPromise f (qmu σ 104 0 (0 : Int32)) x1).bind fun u1 =>
  if u1 = 0 then
    some ((-1000001 : Int32), (qmu σ 104 0 (0 : Int32)))
  else
    (p_M_isYear f (qmu σ 104 0 (0 : Int32)) x2).bind fun u3 =>
    if u3 = 0 then
      some ((-1000001 : Int32), (qmu σ 104 0 (0 : Int32)))
    else
      (p_M_in f (qmu σ 104 0 (0 : Int32)) (x3).toInt64 (0 : Int64) (1 : Int64)).bind fun u5 =>
      if u5 = 0 then
        some ((-1000001 : Int32), (qmu σ 104 0 (0 : Int32)))
      else
        (p_M_comesTo f (qmu σ 104 0 (0 : Int32)) x1 x2).bind fun u7 =>
        if x3 = 0 then
          some (u7, (qmu σ 104 0 (0 : Int32)))
        else
          if qin (0 : Int32) 3 = true then
          if u7 < ((qmu σ 104 0 (0 : Int32)) 132 (qi (0 : Int32))) then
            some ((0 : Int32), (qmu σ 104 0 (0 : Int32)))
          else
            some ((1 : Int32), (qmu σ 104 0 (0 : Int32)))
          else none
def p_M_fails_l27 (f : Nat) (σ : qMem) (x1 : Int32) (k27 : Int32 → Option (Int32 × qMem)) (x2 : Int32) : Option (Int32 × qMem) :=
  if (28 : Int32) ≤ x2 then
    some ((-1000000 : Int32), σ)
  else
    (p_M_of f σ x1 (0 : Int32)).bind fun u1 =>
    if u1 = 0 then
      (p_M_comesTo f σ x1 x2).bind fun u3 =>
      if qin (0 : Int32) 3 = true then
      if (σ 132 (qi (0 : Int32))) ≤ u3 then
        k27 (x2 + (1 : Int32))
      else
        some (x2, σ)
      else none
    else
      some ((-1000000 : Int32), σ)
def p_M_fails (f : Nat) (σ : qMem) (x1 : Int32) : Option (Int32 × qMem) :=
  (p_M_isPromise f (qmu σ 104 0 (0 : Int32)) x1).bind fun u6 =>
  if u6 = 0 then
    some ((-1000001 : Int32), (qmu σ 104 0 (0 : Int32)))
  else
    (p_M_of f (qmu σ 104 0 (0 : Int32)) x1 (5 : Int32)).bind fun u8 =>
    qfix1 (p_M_fails_l27 f (qmu σ 104 0 (0 : Int32)) x1 ) f (u8 / (360 : Int32))
def p_M_price_b33 (f : Nat) (σ : qMem) (x1 : Int32) (x2 : Int32) (s0 : Int64) (s1 : Int64) (s2 : Int64) : Option (Int32 × qMem) :=
  (p_M_in f σ s0 s1 s2).bind fun u1 =>
  if u1 = 0 then
    some ((-1000001 : Int32), σ)
  else
    if qin x1 3 = true then
    if qin x1 3 = true then
    some ((σ 132 (qi x1)), (qmu σ 132 (qi x1) x2))
    else none
    else none
def p_M_price (f : Nat) (σ : qMem) (x1 : Int32) (x2 : Int32) : Option (Int32 × qMem) :=
  (p_M_in f (qmu σ 104 0 (0 : Int32)) (x1).toInt64 (0 : Int64) (2 : Int64)).bind fun u5 =>
  if u5 = 0 then
    some ((-1000001 : Int32), (qmu σ 104 0 (0 : Int32)))
  else
    if x1 = 0 then
      p_M_price_b33 f (qmu σ 104 0 (0 : Int32)) x1 x2 (x2).toInt64 (0 : Int64) (10000 : Int64)
    else
      p_M_price_b33 f (qmu σ 104 0 (0 : Int32)) x1 x2 (x2).toInt64 (0 : Int64) (99 : Int64)
def p_M_spent_l19 (f : Nat) (σ : qMem) (x1 : Int32) (k19 : Int32 → Int32 → Option (Int32 × qMem)) (x2 : Int32) (x3 : Int32) : Option (Int32 × qMem) :=
  if (σ 104 5) ≤ x3 then
    some (x2, σ)
  else
    (p_M_of f σ x3 (0 : Int32)).bind fun u1 =>
    if u1 = 0 then
      k19 (x2 + (0 : Int32)) (x3 + (1 : Int32))
    else
      (p_M_wantsIn f σ x3 ((360 : Int32) * x1) (((360 : Int32) * x1) + (359 : Int32))).bind fun u3 =>
      (p_M_of f σ x3 (9 : Int32)).bind fun u5 =>
      if qin (1 : Int32) 3 = true then
      (p_M_of f σ x3 (10 : Int32)).bind fun u8 =>
      if qin (2 : Int32) 3 = true then
      k19 (x2 + (u3 * ((u5 * (σ 132 (qi (1 : Int32)))) + (u8 * (σ 132 (qi (2 : Int32))))))) (x3 + (1 : Int32))
      else none
      else none
def p_M_spent (f : Nat) (σ : qMem) (x1 : Int32) : Option (Int32 × qMem) :=
  (p_M_isYear f (qmu σ 104 0 (0 : Int32)) x1).bind fun u11 =>
  if u11 = 0 then
    some ((-1000001 : Int32), (qmu σ 104 0 (0 : Int32)))
  else
    qfix2 (p_M_spent_l19 f (qmu σ 104 0 (0 : Int32)) x1 ) f (0 : Int32) (0 : Int32)
def p_M_vacant_l163 (f : Nat) (x1 : Int32) (x5 : Int32) (x7 : Int32) (k163 : qMem → Int32 → Option (Int32 × qMem)) (σ : qMem) (x8 : Int32) : Option (Int32 × qMem) :=
  if ((2 : Int32) * x5) ≤ x8 then
    some (x5, σ)
  else
    if qin (x7 + x8) 480 = true then
    if qin (((8 : Int32) * x1) + x8) 96 = true then
    k163 (qmu σ 135 (qi (((8 : Int32) * x1) + x8)) (σ 107 (qi (x7 + x8)))) (x8 + (1 : Int32))
    else none
    else none
def p_M_vacant_l76 (f : Nat) (σ : qMem) (x1 : Int32) (x2 : Int32) (x5 : Int32) (x7 : Int32) (k76 : Int32 → Option (Int32 × qMem)) (x8 : Int32) : Option (Int32 × qMem) :=
  if x5 ≤ x8 then
    if qin x1 12 = true then
    if qin x1 12 = true then
    qfix2 (p_M_vacant_l163 f x1 x5 x7 ) f (qmu (qmu (qmu σ 104 1 (0 : Int32)) 133 (qi x1) x2) 134 (qi x1) x5) (0 : Int32)
    else none
    else none
  else
    if qin (x7 + ((2 : Int32) * x8)) 480 = true then
    (p_M_in f σ (((σ 107 (qi (x7 + ((2 : Int32) * x8))))).toInt64) (0 : Int64) (9 : Int64)).bind fun u6 =>
    if u6 = 0 then
      some ((-1000001 : Int32), σ)
    else
      if qin ((x7 + ((2 : Int32) * x8)) + (1 : Int32)) 480 = true then
      (p_M_in f σ (((σ 107 (qi ((x7 + ((2 : Int32) * x8)) + (1 : Int32))))).toInt64) (1 : Int64) (400 : Int64)).bind fun u9 =>
      if u9 = 0 then
        some ((-1000001 : Int32), σ)
      else
        k76 (x8 + (1 : Int32))
      else none
    else none
def p_M_vacant (f : Nat) (σ : qMem) (x1 : Int32) (x2 : Int32) (x3 : Int32) (x4 : Int32) (x5 : Int32) : Option (Int32 × qMem) :=
  (p_M_isPromise f (qmu σ 104 0 (0 : Int32)) x1).bind fun u11 =>
  if u11 = 0 then
    some ((-1000001 : Int32), (qmu σ 104 0 (0 : Int32)))
  else
    (p_M_isDay f (qmu σ 104 0 (0 : Int32)) x2).bind fun u13 =>
    if u13 = 0 then
      some ((-1000001 : Int32), (qmu σ 104 0 (0 : Int32)))
    else
      (p_M_isSheet f (qmu σ 104 0 (0 : Int32)) x3).bind fun u15 =>
      if u15 = 0 then
        some ((-1000001 : Int32), (qmu σ 104 0 (0 : Int32)))
      else
        (p_M_in f (qmu σ 104 0 (0 : Int32)) (x5).toInt64 (0 : Int64) (4 : Int64)).bind fun u17 =>
        if u17 = 0 then
          some ((-1000001 : Int32), (qmu σ 104 0 (0 : Int32)))
        else
          (p_M_lookItems f (qmu σ 104 0 (0 : Int32)) x3 x4 ((2 : Int32) * x5)).bind fun u19 =>
          if 0 ≤ u19.1 then
            qfix1 (p_M_vacant_l76 f u19.2 x1 x2 x5 (((60 : Int32) * x3) + x4) ) f (0 : Int32)
          else
            some (u19.1, u19.2)
def p_M_turn_l59 (f : Nat) (σ : qMem) (x1 : Int32) (k59 : Int32 → Int32 → Option (Int32 × qMem)) (x3 : Int32) (x4 : Int32) : Option (Int32 × qMem) :=
  if qin x1 12 = true then
  if (σ 134 (qi x1)) ≤ x4 then
    some ((10 : Int32), σ)
  else
    if qin ((((8 : Int32) * x1) + ((2 : Int32) * x4)) + (1 : Int32)) 96 = true then
    if 0 ≤ (x3 - (σ 135 (qi ((((8 : Int32) * x1) + ((2 : Int32) * x4)) + (1 : Int32))))) then
      k59 (x3 - (σ 135 (qi ((((8 : Int32) * x1) + ((2 : Int32) * x4)) + (1 : Int32))))) (x4 + (1 : Int32))
    else
      if qin (((8 : Int32) * x1) + ((2 : Int32) * x4)) 96 = true then
      some ((σ 135 (qi (((8 : Int32) * x1) + ((2 : Int32) * x4)))), σ)
      else none
    else none
  else none
def p_M_turn (f : Nat) (σ : qMem) (x1 : Int32) (x2 : Int32) : Option (Int32 × qMem) :=
  (p_M_isPromise f (qmu σ 104 0 (0 : Int32)) x1).bind fun u4 =>
  if u4 = 0 then
    some ((-1000001 : Int32), (qmu σ 104 0 (0 : Int32)))
  else
    (p_M_isDay f (qmu σ 104 0 (0 : Int32)) x2).bind fun u6 =>
    if u6 = 0 then
      some ((-1000001 : Int32), (qmu σ 104 0 (0 : Int32)))
    else
      if qin x1 12 = true then
      if ((qmu σ 104 0 (0 : Int32)) 133 (qi x1)) = (-1000000 : Int32) then
        some ((-1000000 : Int32), (qmu σ 104 0 (0 : Int32)))
      else
        if qin x1 12 = true then
        if ((qmu σ 104 0 (0 : Int32)) 133 (qi x1)) ≤ x2 then
          if qin x1 12 = true then
          qfix2 (p_M_turn_l59 f (qmu σ 104 0 (0 : Int32)) x1 ) f (x2 - ((qmu σ 104 0 (0 : Int32)) 133 (qi x1))) (0 : Int32)
          else none
        else
          some ((-1000000 : Int32), (qmu σ 104 0 (0 : Int32)))
        else none
      else none
def p_M_act (f : Nat) (σ : qMem) (x1 : Int32) (x2 : Int32) (x3 : Int32) (x4 : Int32) : Option (Int32 × qMem) :=
  (p_M_isDay f (qmu σ 104 0 (0 : Int32)) x1).bind fun u1 =>
  if u1 = 0 then
    some ((-1000001 : Int32), (qmu σ 104 0 (0 : Int32)))
  else
    (p_M_in f (qmu σ 104 0 (0 : Int32)) (x2).toInt64 (0 : Int64) (99 : Int64)).bind fun u3 =>
    if u3 = 0 then
      some ((-1000001 : Int32), (qmu σ 104 0 (0 : Int32)))
    else
      (p_M_in f (qmu σ 104 0 (0 : Int32)) (x3).toInt64 (x2).toInt64 (99 : Int64)).bind fun u5 =>
      if u5 = 0 then
        some ((-1000001 : Int32), (qmu σ 104 0 (0 : Int32)))
      else
        (p_M_in f (qmu σ 104 0 (0 : Int32)) (x4).toInt64 (0 : Int64) (1 : Int64)).bind fun u7 =>
        if u7 = 0 then
          some ((-1000001 : Int32), (qmu σ 104 0 (0 : Int32)))
        else
          if ((qmu σ 104 0 (0 : Int32)) 104 50) = (10 : Int32) then
            some ((-1000003 : Int32), (qmu σ 104 0 (0 : Int32)))
          else
            if qin ((qmu σ 104 0 (0 : Int32)) 104 50) 10 = true then
            if qin ((qmu (qmu σ 104 0 (0 : Int32)) 136 (qi ((qmu σ 104 0 (0 : Int32)) 104 50)) x1) 104 50) 10 = true then
            if qin ((qmu (qmu (qmu σ 104 0 (0 : Int32)) 136 (qi ((qmu σ 104 0 (0 : Int32)) 104 50)) x1) 137 (qi ((qmu (qmu σ 104 0 (0 : Int32)) 136 (qi ((qmu σ 104 0 (0 : Int32)) 104 50)) x1) 104 50)) x2) 104 50) 10 = true then
            if qin ((qmu (qmu (qmu (qmu σ 104 0 (0 : Int32)) 136 (qi ((qmu σ 104 0 (0 : Int32)) 104 50)) x1) 137 (qi ((qmu (qmu σ 104 0 (0 : Int32)) 136 (qi ((qmu σ 104 0 (0 : Int32)) 104 50)) x1) 104 50)) x2) 138 (qi ((qmu (qmu (qmu σ 104 0 (0 : Int32)) 136 (qi ((qmu σ 104 0 (0 : Int32)) 104 50)) x1) 137 (qi ((qmu (qmu σ 104 0 (0 : Int32)) 136 (qi ((qmu σ 104 0 (0 : Int32)) 104 50)) x1) 104 50)) x2) 104 50)) x3) 104 50) 10 = true then
            some (((qmu (qmu (qmu (qmu (qmu (qmu σ 104 0 (0 : Int32)) 136 (qi ((qmu σ 104 0 (0 : Int32)) 104 50)) x1) 137 (qi ((qmu (qmu σ 104 0 (0 : Int32)) 136 (qi ((qmu σ 104 0 (0 : Int32)) 104 50)) x1) 104 50)) x2) 138 (qi ((qmu (qmu (qmu σ 104 0 (0 : Int32)) 136 (qi ((qmu σ 104 0 (0 : Int32)) 104 50)) x1) 137 (qi ((qmu (qmu σ 104 0 (0 : Int32)) 136 (qi ((qmu σ 104 0 (0 : Int32)) 104 50)) x1) 104 50)) x2) 104 50)) x3) 139 (qi ((qmu (qmu (qmu (qmu σ 104 0 (0 : Int32)) 136 (qi ((qmu σ 104 0 (0 : Int32)) 104 50)) x1) 137 (qi ((qmu (qmu σ 104 0 (0 : Int32)) 136 (qi ((qmu σ 104 0 (0 : Int32)) 104 50)) x1) 104 50)) x2) 138 (qi ((qmu (qmu (qmu σ 104 0 (0 : Int32)) 136 (qi ((qmu σ 104 0 (0 : Int32)) 104 50)) x1) 137 (qi ((qmu (qmu σ 104 0 (0 : Int32)) 136 (qi ((qmu σ 104 0 (0 : Int32)) 104 50)) x1) 104 50)) x2) 104 50)) x3) 104 50)) x4) 104 50 (((qmu (qmu (qmu (qmu (qmu σ 104 0 (0 : Int32)) 136 (qi ((qmu σ 104 0 (0 : Int32)) 104 50)) x1) 137 (qi ((qmu (qmu σ 104 0 (0 : Int32)) 136 (qi ((qmu σ 104 0 (0 : Int32)) 104 50)) x1) 104 50)) x2) 138 (qi ((qmu (qmu (qmu σ 104 0 (0 : Int32)) 136 (qi ((qmu σ 104 0 (0 : Int32)) 104 50)) x1) 137 (qi ((qmu (qmu σ 104 0 (0 : Int32)) 136 (qi ((qmu σ 104 0 (0 : Int32)) 104 50)) x1) 104 50)) x2) 104 50)) x3) 139 (qi ((qmu (qmu (qmu (qmu σ 104 0 (0 : Int32)) 136 (qi ((qmu σ 104 0 (0 : Int32)) 104 50)) x1) 137 (qi ((qmu (qmu σ 104 0 (0 : Int32)) 136 (qi ((qmu σ 104 0 (0 : Int32)) 104 50)) x1) 104 50)) x2) 138 (qi ((qmu (qmu (qmu σ 104 0 (0 : Int32)) 136 (qi ((qmu σ 104 0 (0 : Int32)) 104 50)) x1) 137 (qi ((qmu (qmu σ 104 0 (0 : Int32)) 136 (qi ((qmu σ 104 0 (0 : Int32)) 104 50)) x1) 104 50)) x2) 104 50)) x3) 104 50)) x4) 104 50) + (1 : Int32))) 104 50), (qmu (qmu (qmu (qmu (qmu (qmu σ 104 0 (0 : Int32)) 136 (qi ((qmu σ 104 0 (0 : Int32)) 104 50)) x1) 137 (qi ((qmu (qmu σ 104 0 (0 : Int32)) 136 (qi ((qmu σ 104 0 (0 : Int32)) 104 50)) x1) 104 50)) x2) 138 (qi ((qmu (qmu (qmu σ 104 0 (0 : Int32)) 136 (qi ((qmu σ 104 0 (0 : Int32)) 104 50)) x1) 137 (qi ((qmu (qmu σ 104 0 (0 : Int32)) 136 (qi ((qmu σ 104 0 (0 : Int32)) 104 50)) x1) 104 50)) x2) 104 50)) x3) 139 (qi ((qmu (qmu (qmu (qmu σ 104 0 (0 : Int32)) 136 (qi ((qmu σ 104 0 (0 : Int32)) 104 50)) x1) 137 (qi ((qmu (qmu σ 104 0 (0 : Int32)) 136 (qi ((qmu σ 104 0 (0 : Int32)) 104 50)) x1) 104 50)) x2) 138 (qi ((qmu (qmu (qmu σ 104 0 (0 : Int32)) 136 (qi ((qmu σ 104 0 (0 : Int32)) 104 50)) x1) 137 (qi ((qmu (qmu σ 104 0 (0 : Int32)) 136 (qi ((qmu σ 104 0 (0 : Int32)) 104 50)) x1) 104 50)) x2) 104 50)) x3) 104 50)) x4) 104 50 (((qmu (qmu (qmu (qmu (qmu σ 104 0 (0 : Int32)) 136 (qi ((qmu σ 104 0 (0 : Int32)) 104 50)) x1) 137 (qi ((qmu (qmu σ 104 0 (0 : Int32)) 136 (qi ((qmu σ 104 0 (0 : Int32)) 104 50)) x1) 104 50)) x2) 138 (qi ((qmu (qmu (qmu σ 104 0 (0 : Int32)) 136 (qi ((qmu σ 104 0 (0 : Int32)) 104 50)) x1) 137 (qi ((qmu (qmu σ 104 0 (0 : Int32)) 136 (qi ((qmu σ 104 0 (0 : Int32)) 104 50)) x1) 104 50)) x2) 104 50)) x3) 139 (qi ((qmu (qmu (qmu (qmu σ 104 0 (0 : Int32)) 136 (qi ((qmu σ 104 0 (0 : Int32)) 104 50)) x1) 137 (qi ((qmu (qmu σ 104 0 (0 : Int32)) 136 (qi ((qmu σ 104 0 (0 : Int32)) 104 50)) x1) 104 50)) x2) 138 (qi ((qmu (qmu (qmu σ 104 0 (0 : Int32)) 136 (qi ((qmu σ 104 0 (0 : Int32)) 104 50)) x1) 137 (qi ((qmu (qmu σ 104 0 (0 : Int32)) 136 (qi ((qmu σ 104 0 (0 : Int32)) 104 50)) x1) 104 50)) x2) 104 50)) x3) 104 50)) x4) 104 50) + (1 : Int32))))
            else none
            else none
            else none
            else none
def p_M_taken (f : Nat) (σ : qMem) (x1 : Int32) : Option (Int32 × qMem) :=
  (p_M_isPromise f (qmu σ 104 0 (0 : Int32)) x1).bind fun u1 =>
  if u1 = 0 then
    some ((-1000001 : Int32), (qmu σ 104 0 (0 : Int32)))
  else
    (p_M_takenOn f (qmu σ 104 0 (0 : Int32)) x1).bind fun u3 =>
    some (u3, (qmu σ 104 0 (0 : Int32)))
def p_M_pension_b86 (f : Nat) (k27 : Int32 → Int32 → Option (Int32 × qMem)) (σ : qMem) (x1 : Int32) (x2 : Int32) (x4 : Int32) (s0 : Int32) (s2 : Int32) (s3 : Int32) : Option (Int32 × qMem) :=
  (p_M_comesTo f σ s2 s3).bind fun u1 =>
  k27 (s0 + (u1 / (2 : Int32))) (x4 + (1 : Int32))
def p_M_pension_l27 (f : Nat) (σ : qMem) (x1 : Int32) (x2 : Int32) (k27 : Int32 → Int32 → Option (Int32 × qMem)) (x3 : Int32) (x4 : Int32) : Option (Int32 × qMem) :=
  if (σ 104 5) ≤ x4 then
    if x3 ≤ (200 : Int32) then
      some (x3, σ)
    else
      some ((200 : Int32), σ)
  else
    (p_M_of f σ x4 (3 : Int32)).bind fun u3 =>
    if u3 = x1 then
      (p_M_isTaken f σ x4 x2).bind fun u5 =>
      if u5 = 0 then
        k27 x3 (x4 + (1 : Int32))
      else
        (p_M_takenOn f σ x4).bind fun u7 =>
        if (u7 / (360 : Int32)) = 0 then
          p_M_pension_b86 f k27 σ x1 x2 x4 x3 x4 (0 : Int32)
        else
          p_M_pension_b86 f k27 σ x1 x2 x4 x3 x4 ((u7 / (360 : Int32)) - (1 : Int32))
    else
      k27 x3 (x4 + (1 : Int32))
def p_M_pension (f : Nat) (σ : qMem) (x1 : Int32) (x2 : Int32) : Option (Int32 × qMem) :=
  (p_M_isPriest f (qmu σ 104 0 (0 : Int32)) x1).bind fun u9 =>
  if u9 = 0 then
    some ((-1000001 : Int32), (qmu σ 104 0 (0 : Int32)))
  else
    (p_M_isDay f (qmu σ 104 0 (0 : Int32)) x2).bind fun u11 =>
    if u11 = 0 then
      some ((-1000001 : Int32), (qmu σ 104 0 (0 : Int32)))
    else
      qfix2 (p_M_pension_l27 f (qmu σ 104 0 (0 : Int32)) x1 x2 ) f (0 : Int32) (0 : Int32)
def p_M_bid (f : Nat) (σ : qMem) (x1 : Int32) (x2 : Int32) (x3 : Int32) : Option (Int32 × qMem) :=
  (p_M_isHouse f (qmu σ 104 0 (0 : Int32)) x1).bind fun u1 =>
  if u1 = 0 then
    some ((-1000001 : Int32), (qmu σ 104 0 (0 : Int32)))
  else
    (p_M_in f (qmu σ 104 0 (0 : Int32)) (x2).toInt64 (0 : Int64) (9 : Int64)).bind fun u3 =>
    if u3 = 0 then
      some ((-1000001 : Int32), (qmu σ 104 0 (0 : Int32)))
    else
      (p_M_in f (qmu σ 104 0 (0 : Int32)) (x3).toInt64 (1 : Int64) (100000 : Int64)).bind fun u5 =>
      if u5 = 0 then
        some ((-1000001 : Int32), (qmu σ 104 0 (0 : Int32)))
      else
        if ((qmu σ 104 0 (0 : Int32)) 104 55) = (20 : Int32) then
          some ((-1000003 : Int32), (qmu σ 104 0 (0 : Int32)))
        else
          if qin ((qmu σ 104 0 (0 : Int32)) 104 55) 20 = true then
          if qin ((qmu (qmu σ 104 0 (0 : Int32)) 140 (qi ((qmu σ 104 0 (0 : Int32)) 104 55)) x1) 104 55) 20 = true then
          if qin ((qmu (qmu (qmu σ 104 0 (0 : Int32)) 140 (qi ((qmu σ 104 0 (0 : Int32)) 104 55)) x1) 141 (qi ((qmu (qmu σ 104 0 (0 : Int32)) 140 (qi ((qmu σ 104 0 (0 : Int32)) 104 55)) x1) 104 55)) x2) 104 55) 20 = true then
          some (((qmu (qmu (qmu (qmu (qmu σ 104 0 (0 : Int32)) 140 (qi ((qmu σ 104 0 (0 : Int32)) 104 55)) x1) 141 (qi ((qmu (qmu σ 104 0 (0 : Int32)) 140 (qi ((qmu σ 104 0 (0 : Int32)) 104 55)) x1) 104 55)) x2) 142 (qi ((qmu (qmu (qmu σ 104 0 (0 : Int32)) 140 (qi ((qmu σ 104 0 (0 : Int32)) 104 55)) x1) 141 (qi ((qmu (qmu σ 104 0 (0 : Int32)) 140 (qi ((qmu σ 104 0 (0 : Int32)) 104 55)) x1) 104 55)) x2) 104 55)) x3) 104 55 (((qmu (qmu (qmu (qmu σ 104 0 (0 : Int32)) 140 (qi ((qmu σ 104 0 (0 : Int32)) 104 55)) x1) 141 (qi ((qmu (qmu σ 104 0 (0 : Int32)) 140 (qi ((qmu σ 104 0 (0 : Int32)) 104 55)) x1) 104 55)) x2) 142 (qi ((qmu (qmu (qmu σ 104 0 (0 : Int32)) 140 (qi ((qmu σ 104 0 (0 : Int32)) 104 55)) x1) 141 (qi ((qmu (qmu σ 104 0 (0 : Int32)) 140 (qi ((qmu σ 104 0 (0 : Int32)) 104 55)) x1) 104 55)) x2) 104 55)) x3) 104 55) + (1 : Int32))) 104 55), (qmu (qmu (qmu (qmu (qmu σ 104 0 (0 : Int32)) 140 (qi ((qmu σ 104 0 (0 : Int32)) 104 55)) x1) 141 (qi ((qmu (qmu σ 104 0 (0 : Int32)) 140 (qi ((qmu σ 104 0 (0 : Int32)) 104 55)) x1) 104 55)) x2) 142 (qi ((qmu (qmu (qmu σ 104 0 (0 : Int32)) 140 (qi ((qmu σ 104 0 (0 : Int32)) 104 55)) x1) 141 (qi ((qmu (qmu σ 104 0 (0 : Int32)) 140 (qi ((qmu σ 104 0 (0 : Int32)) 104 55)) x1) 104 55)) x2) 104 55)) x3) 104 55 (((qmu (qmu (qmu (qmu σ 104 0 (0 : Int32)) 140 (qi ((qmu σ 104 0 (0 : Int32)) 104 55)) x1) 141 (qi ((qmu (qmu σ 104 0 (0 : Int32)) 140 (qi ((qmu σ 104 0 (0 : Int32)) 104 55)) x1) 104 55)) x2) 142 (qi ((qmu (qmu (qmu σ 104 0 (0 : Int32)) 140 (qi ((qmu σ 104 0 (0 : Int32)) 104 55)) x1) 141 (qi ((qmu (qmu σ 104 0 (0 : Int32)) 140 (qi ((qmu σ 104 0 (0 : Int32)) 104 55)) x1) 104 55)) x2) 104 55)) x3) 104 55) + (1 : Int32))))
          else none
          else none
          else none
def p_M_sold_b60 (f : Nat) (k30 : Int32 → Int32 → Int32 → Option (Int32 × qMem)) (σ : qMem) (x1 : Int32) (x2 : Int32) (x4 : Int32) (x5 : Int32) (s0 : Int32) : Option (Int32 × qMem) :=
  if x4 = 0 then
    k30 s0 (0 : Int32) (x5 + (1 : Int32))
  else
    (p_M_of f σ x5 (7 : Int32)).bind fun u1 =>
    if u1 = x1 then
      (p_M_isTaken f σ x5 x2).bind fun u3 =>
      if u3 = 0 then
        k30 s0 (0 : Int32) (x5 + (1 : Int32))
      else
        k30 s0 (1 : Int32) (x5 + (1 : Int32))
    else
      k30 s0 (1 : Int32) (x5 + (1 : Int32))
def p_M_sold_b176 (f : Nat) (σ : qMem) (x5 : Int32) : Option (Int32 × qMem) :=
  if x5 = (-1000000 : Int32) then
    some ((-1000000 : Int32), σ)
  else
    if qin x5 20 = true then
    some ((σ 141 (qi x5)), σ)
    else none
def p_M_sold_l108 (f : Nat) (σ : qMem) (x1 : Int32) (x3 : Int32) (x4 : Int32) (k108 : Int32 → Int32 → Option (Int32 × qMem)) (x5 : Int32) (x6 : Int32) : Option (Int32 × qMem) :=
  if (σ 104 55) ≤ x6 then
    p_M_sold_b176 f σ x5
  else
    if x3 = 0 then
      p_M_sold_b176 f σ x5
    else
      if x4 = 0 then
        p_M_sold_b176 f σ x5
      else
        if qin x6 20 = true then
        if (σ 140 (qi x6)) = x1 then
          if x5 = (-1000000 : Int32) then
            k108 x6 (x6 + (1 : Int32))
          else
            if qin x6 20 = true then
            if qin x5 20 = true then
            if (σ 142 (qi x6)) ≤ (σ 142 (qi x5)) then
              k108 x5 (x6 + (1 : Int32))
            else
              k108 x6 (x6 + (1 : Int32))
            else none
            else none
        else
          k108 x5 (x6 + (1 : Int32))
        else none
def p_M_sold_l30 (f : Nat) (σ : qMem) (x1 : Int32) (x2 : Int32) (k30 : Int32 → Int32 → Int32 → Option (Int32 × qMem)) (x3 : Int32) (x4 : Int32) (x5 : Int32) : Option (Int32 × qMem) :=
  if (σ 104 5) ≤ x5 then
    qfix2 (p_M_sold_l108 f σ x1 x3 x4 ) f (-1000000 : Int32) (0 : Int32)
  else
    if x3 = 0 then
      (p_M_of f σ x5 (7 : Int32)).bind fun u9 =>
      if u9 = x1 then
        p_M_sold_b60 f k30 σ x1 x2 x4 x5 (1 : Int32)
      else
        p_M_sold_b60 f k30 σ x1 x2 x4 x5 (0 : Int32)
    else
      p_M_sold_b60 f k30 σ x1 x2 x4 x5 (1 : Int32)
def p_M_sold (f : Nat) (σ : qMem) (x1 : Int32) (x2 : Int32) : Option (Int32 × qMem) :=
  (p_M_isHouse f (qmu σ 104 0 (0 : Int32)) x1).bind fun u11 =>
  if u11 = 0 then
    some ((-1000001 : Int32), (qmu σ 104 0 (0 : Int32)))
  else
    (p_M_isDay f (qmu σ 104 0 (0 : Int32)) x2).bind fun u13 =>
    if u13 = 0 then
      some ((-1000001 : Int32), (qmu σ 104 0 (0 : Int32)))
    else
      qfix3 (p_M_sold_l30 f (qmu σ 104 0 (0 : Int32)) x1 x2 ) f (0 : Int32) (1 : Int32) (0 : Int32)
def p_M_mayStand_b132 (f : Nat) (k46 : Int32 → Int32 → Int32 → Option (Int32)) (σ : qMem) (x1 : Int32) (x3 : Int32) (x5 : Int32) (x6 : Int32) (x7 : Int32) (s0 : Int32) : Option (Int32) :=
  if x7 = 0 then
    k46 s0 (x5 + (0 : Int32)) (x6 + (1 : Int32))
  else
    if qin x6 8 = true then
    if (5 : Int32) ≤ (σ 143 (qi x6)) then
      k46 s0 (x5 + (0 : Int32)) (x6 + (1 : Int32))
    else
      k46 s0 (x5 + (1 : Int32)) (x6 + (1 : Int32))
    else none
def p_M_mayStand_b131 (f : Nat) (k46 : Int32 → Int32 → Int32 → Option (Int32)) (σ : qMem) (x1 : Int32) (x3 : Int32) (x5 : Int32) (x6 : Int32) (x7 : Int32) : Option (Int32) :=
  p_M_mayStand_b132 f k46 σ x1 x3 x5 x6 x7 (0 : Int32)
def p_M_mayStand_b73 (f : Nat) (k46 : Int32 → Int32 → Int32 → Option (Int32)) (σ : qMem) (x1 : Int32) (x3 : Int32) (x4 : Int32) (x5 : Int32) (x6 : Int32) (s0 : Int32) : Option (Int32) :=
  if x4 = 0 then
    p_M_mayStand_b131 f k46 σ x1 x3 x5 x6 s0
  else
    if qin x6 8 = true then
    if qin x1 8 = true then
    if (σ 143 (qi x6)) = (σ 143 (qi x1)) then
      if s0 = 0 then
        if qin x6 8 = true then
        (p_M_of f σ (σ 145 (qi x6)) (2 : Int32)).bind fun u5 =>
        if qin x1 8 = true then
        (p_M_of f σ (σ 145 (qi x1)) (2 : Int32)).bind fun u8 =>
        if u5 = u8 then
          p_M_mayStand_b131 f k46 σ x1 x3 x5 x6 s0
        else
          p_M_mayStand_b132 f k46 σ x1 x3 x5 x6 s0 (1 : Int32)
        else none
        else none
      else
        p_M_mayStand_b131 f k46 σ x1 x3 x5 x6 s0
    else
      p_M_mayStand_b132 f k46 σ x1 x3 x5 x6 s0 (1 : Int32)
    else none
    else none
def p_M_mayStand_l46 (f : Nat) (σ : qMem) (x1 : Int32) (x3 : Int32) (k46 : Int32 → Int32 → Int32 → Option (Int32)) (x4 : Int32) (x5 : Int32) (x6 : Int32) : Option (Int32) :=
  if x1 ≤ x6 then
    if x4 = 0 then
      some (0 : Int32)
    else
      if qin x3 8 = true then
      if (σ 116 (qi x3)) ≤ x5 then
        some (0 : Int32)
      else
        some (1 : Int32)
      else none
  else
    if qin x6 8 = true then
    (p_M_of f σ (σ 145 (qi x6)) (3 : Int32)).bind fun u12 =>
    if u12 = x3 then
      p_M_mayStand_b73 f k46 σ x1 x3 x4 x5 x6 (1 : Int32)
    else
      p_M_mayStand_b73 f k46 σ x1 x3 x4 x5 x6 (0 : Int32)
    else none
def p_M_mayStand (f : Nat) (σ : qMem) (x1 : Int32) (x2 : Int32) : Option (Int32) :=
  if qin x1 8 = true then
  if (σ 143 (qi x1)) = (5 : Int32) then
    some (1 : Int32)
  else
    if qin x1 8 = true then
    (p_M_of f σ (σ 145 (qi x1)) (3 : Int32)).bind fun u16 =>
    (p_M_isSick f σ u16 x2).bind fun u18 =>
    if u18 = 0 then
      qfix3 (p_M_mayStand_l46 f σ x1 u16 ) f (1 : Int32) (0 : Int32) (0 : Int32)
    else
      qfix3 (p_M_mayStand_l46 f σ x1 u16 ) f (0 : Int32) (0 : Int32) (0 : Int32)
    else none
  else none
def p_M_dawn_l250 (f : Nat) (x2 : Int32) (x3 : Int32) (x4 : Int32) (x5 : Int32) (x6 : Int32) (x7 : Int32) (k122 : qMem → Int32 → Int32 → Int32 → Option (Int32 × qMem)) (k250 : qMem → Int32 → Option (Int32 × qMem)) (σ : qMem) (x8 : Int32) : Option (Int32 × qMem) :=
  if x4 ≤ x8 then
    k122 σ x5 x6 x7
  else
    if qin x8 8 = true then
    if qin x8 8 = true then
    k250 (qmu σ 144 (qi x8) (σ 143 (qi x8))) (x8 + (1 : Int32))
    else none
    else none
def p_M_dawn_b194 (f : Nat) (k122 : qMem → Int32 → Int32 → Int32 → Option (Int32 × qMem)) (σ : qMem) (x2 : Int32) (x3 : Int32) (x4 : Int32) (x5 : Int32) (x6 : Int32) (s0 : Int32) (s1 : Int32) : Option (Int32 × qMem) :=
  (p_M_mayStand f σ x6 x2).bind fun u3 =>
  if u3 = 0 then
    k122 σ x5 x6 (s0 + s1)
  else
    if (x4 - (s0 + s1)) ≤ x5 then
      k122 σ x5 x6 (s0 + s1)
    else
      if x4 ≤ (x6 + (1 : Int32)) then
        qfix2 (p_M_dawn_l250 f x2 x3 x4 (x4 - (s0 + s1)) x6 (s0 + s1) k122) f σ (0 : Int32)
      else
        if qin (x6 + (1 : Int32)) 8 = true then
        k122 (qmu σ 143 (qi (x6 + (1 : Int32))) (-1 : Int32)) x5 (x6 + (1 : Int32)) (s0 + s1)
        else none
def p_M_dawn_b145 (f : Nat) (k122 : qMem → Int32 → Int32 → Int32 → Option (Int32 × qMem)) (σ : qMem) (x2 : Int32) (x3 : Int32) (x4 : Int32) (x5 : Int32) (x6 : Int32) (s0 : Int32) (s1 : Int32) : Option (Int32 × qMem) :=
  if qin x6 8 = true then
  if qin x6 8 = true then
  if qin x6 8 = true then
  if ((qmu σ 143 (qi x6) ((σ 143 (qi x6)) + (1 : Int32))) 143 (qi x6)) ≤ (5 : Int32) then
    if qin x6 8 = true then
    if ((qmu σ 143 (qi x6) ((σ 143 (qi x6)) + (1 : Int32))) 143 (qi x6)) = (5 : Int32) then
      p_M_dawn_b194 f k122 (qmu σ 143 (qi x6) ((σ 143 (qi x6)) + (1 : Int32))) x2 x3 x4 x5 x6 (s0 - s1) (1 : Int32)
    else
      p_M_dawn_b194 f k122 (qmu σ 143 (qi x6) ((σ 143 (qi x6)) + (1 : Int32))) x2 x3 x4 x5 x6 (s0 - s1) (0 : Int32)
    else none
  else
    k122 (qmu σ 143 (qi x6) ((σ 143 (qi x6)) + (1 : Int32))) x5 (x6 + (-1 : Int32)) (s0 - s1)
  else none
  else none
  else none
def p_M_dawn_l292 (f : Nat) (σ : qMem) (x3 : Int32) (x4 : Int32) (k292 : Int32 → Option (Int32 × qMem)) (x8 : Int32) : Option (Int32 × qMem) :=
  if x4 ≤ x8 then
    some ((-1000000 : Int32), σ)
  else
    if qin x8 8 = true then
    if (σ 145 (qi x8)) = x3 then
      if qin x8 8 = true then
      if (σ 144 (qi x8)) = (5 : Int32) then
        some ((-1000000 : Int32), σ)
      else
        if qin x8 8 = true then
        some ((σ 144 (qi x8)), σ)
        else none
      else none
    else
      k292 (x8 + (1 : Int32))
    else none
def p_M_dawn_l122 (f : Nat) (x2 : Int32) (x3 : Int32) (x4 : Int32) (k122 : qMem → Int32 → Int32 → Int32 → Option (Int32 × qMem)) (σ : qMem) (x5 : Int32) (x6 : Int32) (x7 : Int32) : Option (Int32 × qMem) :=
  if x6 < 0 then
    if x3 = (-1000000 : Int32) then
      some (x5, σ)
    else
      qfix1 (p_M_dawn_l292 f σ x3 x4 ) f (0 : Int32)
  else
    if qin x6 8 = true then
    if (σ 143 (qi x6)) = (5 : Int32) then
      p_M_dawn_b145 f k122 σ x2 x3 x4 x5 x6 x7 (1 : Int32)
    else
      p_M_dawn_b145 f k122 σ x2 x3 x4 x5 x6 x7 (0 : Int32)
    else none
def p_M_dawn_b106 (f : Nat) (σ : qMem) (x2 : Int32) (x3 : Int32) (x4 : Int32) : Option (Int32 × qMem) :=
  if qin (0 : Int32) 8 = true then
  qfix4 (p_M_dawn_l122 f x2 x3 x4 ) f (qmu σ 143 (qi (0 : Int32)) (-1 : Int32)) (-1 : Int32) (0 : Int32) (0 : Int32)
  else none
def p_M_dawn_b57 (f : Nat) (σ : qMem) (x1 : Int32) (x2 : Int32) (x3 : Int32) (x4 : Int32) : Option (Int32 × qMem) :=
  if x1 < (1 : Int32) then
    some ((-1000001 : Int32), σ)
  else
    if 0 < (x1 >>> ((σ 104 5) &&& 31)) then
      some ((-1000001 : Int32), σ)
    else
      if (8 : Int32) < x4 then
        some ((-1000001 : Int32), σ)
      else
        (p_M_isDay f σ x2).bind fun u15 =>
        if u15 = 0 then
          some ((-1000001 : Int32), σ)
        else
          if x3 = (-1000000 : Int32) then
            p_M_dawn_b106 f σ x2 x3 x4
          else
            (p_M_in f σ (x3).toInt64 (0 : Int64) (11 : Int64)).bind fun u17 =>
            if u17 = 0 then
              some ((-1000001 : Int32), σ)
            else
              p_M_dawn_b106 f σ x2 x3 x4
def p_M_dawn_l11 (f : Nat) (x1 : Int32) (x2 : Int32) (x3 : Int32) (k11 : qMem → Int32 → Int32 → Option (Int32 × qMem)) (σ : qMem) (x4 : Int32) (x5 : Int32) : Option (Int32 × qMem) :=
  if (12 : Int32) ≤ x5 then
    p_M_dawn_b57 f σ x1 x2 x3 x4
  else
    if x1 ≤ 0 then
      p_M_dawn_b57 f σ x1 x2 x3 x4
    else
      if ((x1 >>> (x5 &&& 31)) &&& (1 : Int32)) = (1 : Int32) then
        if (8 : Int32) ≤ x4 then
          k11 σ (x4 + (1 : Int32)) (x5 + (1 : Int32))
        else
          if qin x4 8 = true then
          k11 (qmu σ 145 (qi x4) x5) (x4 + (1 : Int32)) (x5 + (1 : Int32))
          else none
      else
        k11 σ x4 (x5 + (1 : Int32))
def p_M_dawn (f : Nat) (σ : qMem) (x1 : Int32) (x2 : Int32) (x3 : Int32) : Option (Int32 × qMem) :=
  qfix3 (p_M_dawn_l11 f x1 x2 x3 ) f (qmu σ 104 0 (0 : Int32)) (0 : Int32) (0 : Int32)
def p_M_day (f : Nat) (σ : qMem) (x1 : Int32) : Option (Int32 × qMem) :=
  (p_M_isDay f (qmu σ 104 0 (0 : Int32)) x1).bind fun u1 =>
  if u1 = 0 then
    some ((-1000001 : Int32), (qmu σ 104 0 (0 : Int32)))
  else
    some (((qmu σ 104 0 (0 : Int32)) 104 62), (qmu (qmu σ 104 0 (0 : Int32)) 104 62 x1))
def p_M_kindOf (f : Nat) (σ : qMem) (x1 : Int32) : Option (Int32) :=
  (p_M_isEnded f σ x1 (σ 104 62)).bind fun u1 =>
  if u1 = 0 then
    (p_M_of f σ x1 (0 : Int32)).bind fun u3 =>
    if u3 = (1 : Int32) then
      some (3 : Int32)
    else
      (p_M_otherOf f σ x1 (σ 104 62)).bind fun u5 =>
      if u5 = (-1000000 : Int32) then
        some (1 : Int32)
      else
        some (2 : Int32)
  else
    some (4 : Int32)
def p_M_kind (f : Nat) (σ : qMem) (x1 : Int32) : Option (Int32 × qMem) :=
  (p_M_isPromise f (qmu σ 104 0 (0 : Int32)) x1).bind fun u1 =>
  if u1 = 0 then
    some ((-1000001 : Int32), (qmu σ 104 0 (0 : Int32)))
  else
    (p_M_kindOf f (qmu σ 104 0 (0 : Int32)) x1).bind fun u3 =>
    some (u3, (qmu σ 104 0 (0 : Int32)))
def p_M_isOf (f : Nat) (σ : qMem) (x0 : Int32) (x1 : Int32) : Option (Int32) :=
  if x1 = 0 then
    some (1 : Int32)
  else
    if x0 = x1 then
      some (1 : Int32)
    else
      if x1 = (1 : Int32) then
        if x0 = (2 : Int32) then
          some (1 : Int32)
        else
          some (0 : Int32)
      else
        some (0 : Int32)
def p_M_as (f : Nat) (σ : qMem) (x1 : Int32) (x2 : Int32) : Option (Int32 × qMem) :=
  (p_M_isPromise f (qmu σ 104 0 (0 : Int32)) x1).bind fun u1 =>
  if u1 = 0 then
    some ((-1000001 : Int32), (qmu σ 104 0 (0 : Int32)))
  else
    (p_M_in f (qmu σ 104 0 (0 : Int32)) (x2).toInt64 (0 : Int64) (4 : Int64)).bind fun u3 =>
    if u3 = 0 then
      some ((-1000001 : Int32), (qmu σ 104 0 (0 : Int32)))
    else
      (p_M_kindOf f (qmu (qmu σ 104 0 (0 : Int32)) 104 1 (0 : Int32)) x1).bind fun u5 =>
      (p_M_isOf f (qmu (qmu σ 104 0 (0 : Int32)) 104 1 (0 : Int32)) u5 x2).bind fun u7 =>
      if u7 = 0 then
        (p_M_finding f (qmu (qmu σ 104 0 (0 : Int32)) 104 1 (0 : Int32)) (3 : Int32)).bind fun u9 =>
        some (u9.1, u9.2)
      else
        (p_M_of f (qmu (qmu σ 104 0 (0 : Int32)) 104 1 (0 : Int32)) x1 (1 : Int32)).bind fun u11 =>
        some (u11, (qmu (qmu σ 104 0 (0 : Int32)) 104 1 (0 : Int32)))
def p_M_began (f : Nat) (σ : qMem) (x1 : Int32) : Option (qMem) :=
  if (16 : Int32) ≤ (σ 104 64) then
    some σ
  else
    if qin (σ 104 64) 16 = true then
    some (qmu (qmu σ 146 (qi (σ 104 64)) x1) 104 64 (((qmu σ 146 (qi (σ 104 64)) x1) 104 64) + (1 : Int32)))
    else none
def p_M_obitSize (f : Nat) (σ : qMem) (x1 : Int32) : Option (Int32 × qMem) :=
  (p_M_began f σ (13 : Int32)).bind fun u1 =>
  (p_M_began f u1 (10 : Int32)).bind fun u3 =>
  (p_M_of f u3 x1 (4 : Int32)).bind fun u5 =>
  (p_M_of f u3 x1 (9 : Int32)).bind fun u7 =>
  some ((u5 + u7), u3)
def p_M_markOf_b69 (f : Nat) (σ : qMem) (x1 : Int32) (x2 : Int32) (s0 : Int32) (s1 : Int32) : Option (Int32 × qMem) :=
  if x2 = (2 : Int32) then
    (p_M_otherOf f σ x1 (σ 104 62)).bind fun u3 =>
    some (((s0 + s1) + u3), σ)
  else
    if x2 = (3 : Int32) then
      (p_M_obitSize f σ x1).bind fun u1 =>
      some (((s0 + s1) + u1.1), u1.2)
    else
      some ((s0 + s1), σ)
def p_M_markOf_b36 (f : Nat) (σ : qMem) (x1 : Int32) (x2 : Int32) : Option (Int32 × qMem) :=
  (p_M_began f σ (20 : Int32)).bind fun u5 =>
  (p_M_of f u5 x1 (1 : Int32)).bind fun u7 =>
  (p_M_isOf f u5 x2 (1 : Int32)).bind fun u9 =>
  if u9 = 0 then
    p_M_markOf_b69 f u5 x1 x2 u7 (0 : Int32)
  else
    (p_M_of f u5 x1 (2 : Int32)).bind fun u11 =>
    p_M_markOf_b69 f u5 x1 x2 u7 ((100 : Int32) * u11)
def p_M_markOf_b25 (f : Nat) (σ : qMem) (x1 : Int32) (x2 : Int32) : Option (Int32 × qMem) :=
  if x2 = (3 : Int32) then
    (p_M_began f σ (23 : Int32)).bind fun u13 =>
    p_M_markOf_b36 f u13 x1 x2
  else
    p_M_markOf_b36 f σ x1 x2
def p_M_markOf_b11 (f : Nat) (σ : qMem) (x1 : Int32) (x2 : Int32) : Option (Int32 × qMem) :=
  (p_M_isOf f σ x2 (1 : Int32)).bind fun u15 =>
  if u15 = 0 then
    p_M_markOf_b25 f σ x1 x2
  else
    (p_M_began f σ (21 : Int32)).bind fun u17 =>
    p_M_markOf_b25 f u17 x1 x2
def p_M_markOf (f : Nat) (σ : qMem) (x1 : Int32) (x2 : Int32) : Option (Int32 × qMem) :=
  if x2 = (2 : Int32) then
    (p_M_began f σ (22 : Int32)).bind fun u19 =>
    p_M_markOf_b11 f u19 x1 x2
  else
    p_M_markOf_b11 f σ x1 x2
def p_M_sizeOf_b41 (f : Nat) (σ : qMem) (x1 : Int32) (x2 : Int32) : Option (Int32 × qMem) :=
  (p_M_began f σ (11 : Int32)).bind fun u1 =>
  (p_M_began f u1 (10 : Int32)).bind fun u3 =>
  (p_M_of f u3 x1 (4 : Int32)).bind fun u5 =>
  (p_M_owedTill f u3 x1 (u3 104 62)).bind fun u7 =>
  if x2 = (2 : Int32) then
    some (((2 : Int32) * (u5 + u7.1)), u7.2)
  else
    some ((u5 + u7.1), u7.2)
def p_M_sizeOf (f : Nat) (σ : qMem) (x1 : Int32) (x2 : Int32) : Option (Int32 × qMem) :=
  if x2 = (4 : Int32) then
    (p_M_began f σ (14 : Int32)).bind fun u13 =>
    (p_M_markOf f u13 x1 x2).bind fun u15 =>
    some ((-u15.1), u15.2)
  else
    if x2 = (3 : Int32) then
      (p_M_obitSize f σ x1).bind fun u11 =>
      some (u11.1, u11.2)
    else
      if x2 = (2 : Int32) then
        (p_M_began f σ (12 : Int32)).bind fun u9 =>
        p_M_sizeOf_b41 f u9 x1 x2
      else
        p_M_sizeOf_b41 f σ x1 x2
def p_M_ask (f : Nat) (σ : qMem) (x1 : Int32) (x2 : Int32) : Option (Int32 × qMem) :=
  (p_M_isPromise f (qmu σ 104 0 (0 : Int32)) x1).bind fun u1 =>
  if u1 = 0 then
    some ((-1000001 : Int32), (qmu σ 104 0 (0 : Int32)))
  else
    (p_M_in f (qmu σ 104 0 (0 : Int32)) (x2).toInt64 (0 : Int64) (1 : Int64)).bind fun u3 =>
    if u3 = 0 then
      some ((-1000001 : Int32), (qmu σ 104 0 (0 : Int32)))
    else
      (p_M_kindOf f (qmu (qmu σ 104 0 (0 : Int32)) 104 64 (0 : Int32)) x1).bind fun u5 =>
      if x2 = 0 then
        (p_M_sizeOf f (qmu (qmu σ 104 0 (0 : Int32)) 104 64 (0 : Int32)) x1 u5).bind fun u9 =>
        some (u9.1, u9.2)
      else
        (p_M_markOf f (qmu (qmu σ 104 0 (0 : Int32)) 104 64 (0 : Int32)) x1 u5).bind fun u7 =>
        some (u7.1, u7.2)
def p_M_trace (f : Nat) (σ : qMem) (x1 : Int32) : Option (Int32 × qMem) :=
  (p_M_in f (qmu σ 104 0 (0 : Int32)) (x1).toInt64 (0 : Int64) (((((qmu σ 104 0 (0 : Int32)) 104 64) - (1 : Int32))).toInt64)).bind fun u1 =>
  if u1 = 0 then
    some ((-1000000 : Int32), (qmu σ 104 0 (0 : Int32)))
  else
    if qin x1 16 = true then
    some (((qmu σ 104 0 (0 : Int32)) 146 (qi x1)), (qmu σ 104 0 (0 : Int32)))
    else none
def p_M_all_l62 (f : Nat) (σ : qMem) (k62 : Int32 → Int32 → Option (Int32 × qMem)) (x2 : Int32) (x3 : Int32) : Option (Int32 × qMem) :=
  if (8 : Int32) ≤ x3 then
    some (x2, σ)
  else
    if qin x3 8 = true then
    if (σ 105 (qi x3)) < 0 then
      k62 (x2 + (0 : Int32)) (x3 + (1 : Int32))
    else
      k62 (x2 + (1 : Int32)) (x3 + (1 : Int32))
    else none
def p_M_all_l114 (f : Nat) (σ : qMem) (k114 : Int32 → Int32 → Option (Int32 × qMem)) (x2 : Int32) (x3 : Int32) : Option (Int32 × qMem) :=
  if (σ 104 21) ≤ x3 then
    some (x2, σ)
  else
    if qin x3 60 = true then
    if (σ 115 (qi x3)) = 0 then
      k114 (x2 + (0 : Int32)) (x3 + (1 : Int32))
    else
      k114 (x2 + (1 : Int32)) (x3 + (1 : Int32))
    else none
def p_M_all_l149 (f : Nat) (σ : qMem) (k149 : Int32 → Int32 → Option (Int32 × qMem)) (x2 : Int32) (x3 : Int32) : Option (Int32 × qMem) :=
  if (σ 104 5) ≤ x3 then
    some (x2, σ)
  else
    (p_M_isEnded f σ x3 (σ 104 62)).bind fun u3 =>
    if u3 = 0 then
      k149 (x2 + (0 : Int32)) (x3 + (1 : Int32))
    else
      k149 (x2 + (1 : Int32)) (x3 + (1 : Int32))
def p_M_all (f : Nat) (σ : qMem) (x1 : Int32) : Option (Int32 × qMem) :=
  if x1 = (0 : Int32) then
    qfix2 (p_M_all_l62 f (qmu σ 104 0 (0 : Int32)) ) f (0 : Int32) (0 : Int32)
  else if x1 = (1 : Int32) then
    some (((qmu σ 104 0 (0 : Int32)) 104 5), (qmu σ 104 0 (0 : Int32)))
  else if x1 = (2 : Int32) then
    some (((qmu σ 104 0 (0 : Int32)) 104 18), (qmu σ 104 0 (0 : Int32)))
  else if x1 = (3 : Int32) then
    some (((qmu σ 104 0 (0 : Int32)) 104 21), (qmu σ 104 0 (0 : Int32)))
  else if x1 = (4 : Int32) then
    (p_M_judge f (qmu σ 104 0 (0 : Int32))).bind fun u5 =>
    qfix2 (p_M_all_l114 f u5 ) f (0 : Int32) (0 : Int32)
  else if x1 = (5 : Int32) then
    qfix2 (p_M_all_l149 f (qmu σ 104 0 (0 : Int32)) ) f (0 : Int32) (0 : Int32)
  else if x1 = (6 : Int32) then
    some (((qmu σ 104 0 (0 : Int32)) 104 50), (qmu σ 104 0 (0 : Int32)))
  else if x1 = (7 : Int32) then
    some (((qmu σ 104 0 (0 : Int32)) 104 55), (qmu σ 104 0 (0 : Int32)))
  else if x1 = (8 : Int32) then
    some (((qmu σ 104 0 (0 : Int32)) 104 8), (qmu σ 104 0 (0 : Int32)))
  else
    some ((-1000001 : Int32), (qmu σ 104 0 (0 : Int32)))
def p_M_status (f : Nat) (σ : qMem) : Option (Int32 × qMem) :=
  some (((qmu σ 104 0 (0 : Int32)) 104 1), (qmu σ 104 0 (0 : Int32)))
