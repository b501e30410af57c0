/-! the law, pure -/
def p_law_b208 (f : Nat) (xs : Nat → Int32) (L : Nat) (k18 : qMem → Int32 → Option (Int32)) (σ : qMem) (x3 : Int32) : Option (Int32) :=
  if qin (x3 + (1 : Int32)) L = true then
  if qin (x3 + (2 : Int32)) L = true then
  if qin (x3 + (3 : Int32)) L = true then
  (p_C_sheet f σ (xs (qi (x3 + (1 : Int32)))) (xs (qi (x3 + (2 : Int32)))) (xs (qi (x3 + (3 : Int32))))).bind fun u4 =>
  if qin (x3 + (1 : Int32)) L = true then
  if qin (x3 + (2 : Int32)) L = true then
  if qin (x3 + (3 : Int32)) L = true then
  (p_M_sheet f u4.2 (xs (qi (x3 + (1 : Int32)))) (xs (qi (x3 + (2 : Int32)))) (xs (qi (x3 + (3 : Int32))))).bind fun u9 =>
  if u4.1 = u9.1 then
    k18 u9.2 (x3 + (6 : Int32))
  else
    some (0 : Int32)
  else none
  else none
  else none
  else none
  else none
  else none
def p_law_b251 (f : Nat) (xs : Nat → Int32) (L : Nat) (k18 : qMem → Int32 → Option (Int32)) (σ : qMem) (x3 : Int32) : Option (Int32) :=
  if qin (x3 + (1 : Int32)) L = true then
  if qin (x3 + (2 : Int32)) L = true then
  if qin (x3 + (3 : Int32)) L = true then
  (p_C_set f σ (xs (qi (x3 + (1 : Int32)))) (xs (qi (x3 + (2 : Int32)))) (xs (qi (x3 + (3 : Int32))))).bind fun u14 =>
  if qin (x3 + (1 : Int32)) L = true then
  if qin (x3 + (2 : Int32)) L = true then
  if qin (x3 + (3 : Int32)) L = true then
  (p_M_set f u14.2 (xs (qi (x3 + (1 : Int32)))) (xs (qi (x3 + (2 : Int32)))) (xs (qi (x3 + (3 : Int32))))).bind fun u19 =>
  if u14.1 = u19.1 then
    k18 u19.2 (x3 + (6 : Int32))
  else
    some (0 : Int32)
  else none
  else none
  else none
  else none
  else none
  else none
def p_law_b294 (f : Nat) (xs : Nat → Int32) (L : Nat) (k18 : qMem → Int32 → Option (Int32)) (σ : qMem) (x3 : Int32) : Option (Int32) :=
  if qin (x3 + (1 : Int32)) L = true then
  if qin (x3 + (2 : Int32)) L = true then
  if qin (x3 + (3 : Int32)) L = true then
  if qin (x3 + (4 : Int32)) L = true then
  if qin (x3 + (5 : Int32)) L = true then
  (p_C_copy f σ (xs (qi (x3 + (1 : Int32)))) (xs (qi (x3 + (2 : Int32)))) (xs (qi (x3 + (3 : Int32)))) (xs (qi (x3 + (4 : Int32)))) (xs (qi (x3 + (5 : Int32))))).bind fun u26 =>
  if qin (x3 + (1 : Int32)) L = true then
  if qin (x3 + (2 : Int32)) L = true then
  if qin (x3 + (3 : Int32)) L = true then
  if qin (x3 + (4 : Int32)) L = true then
  if qin (x3 + (5 : Int32)) L = true then
  (p_M_copy f u26.2 (xs (qi (x3 + (1 : Int32)))) (xs (qi (x3 + (2 : Int32)))) (xs (qi (x3 + (3 : Int32)))) (xs (qi (x3 + (4 : Int32)))) (xs (qi (x3 + (5 : Int32))))).bind fun u33 =>
  if u26.1 = u33.1 then
    k18 u33.2 (x3 + (6 : Int32))
  else
    some (0 : Int32)
  else none
  else none
  else none
  else none
  else none
  else none
  else none
  else none
  else none
  else none
def p_law_b357 (f : Nat) (xs : Nat → Int32) (L : Nat) (k18 : qMem → Int32 → Option (Int32)) (σ : qMem) (x3 : Int32) : Option (Int32) :=
  if qin (x3 + (1 : Int32)) L = true then
  (p_C_drop f σ (xs (qi (x3 + (1 : Int32))))).bind fun u36 =>
  if qin (x3 + (1 : Int32)) L = true then
  (p_M_drop f u36.2 (xs (qi (x3 + (1 : Int32))))).bind fun u39 =>
  if u36.1 = u39.1 then
    k18 u39.2 (x3 + (6 : Int32))
  else
    some (0 : Int32)
  else none
  else none
def p_law_b380 (f : Nat) (xs : Nat → Int32) (L : Nat) (k18 : qMem → Int32 → Option (Int32)) (σ : qMem) (x3 : Int32) : Option (Int32) :=
  if qin (x3 + (1 : Int32)) L = true then
  if qin (x3 + (2 : Int32)) L = true then
  if qin (x3 + (3 : Int32)) L = true then
  (p_C_feed f σ ((((xs (qi (x3 + (1 : Int32))))).toInt64 <<< (((32 : Int32)).toInt64 &&& 63)) ||| (((xs (qi (x3 + (2 : Int32))))).toInt64 &&& (4294967295 : Int64))) (xs (qi (x3 + (3 : Int32))))).bind fun u44 =>
  if qin (x3 + (1 : Int32)) L = true then
  if qin (x3 + (2 : Int32)) L = true then
  if qin (x3 + (3 : Int32)) L = true then
  (p_M_feed f u44.2 ((((xs (qi (x3 + (1 : Int32))))).toInt64 <<< (((32 : Int32)).toInt64 &&& 63)) ||| (((xs (qi (x3 + (2 : Int32))))).toInt64 &&& (4294967295 : Int64))) (xs (qi (x3 + (3 : Int32))))).bind fun u49 =>
  if u44.1 = u49.1 then
    k18 u49.2 (x3 + (6 : Int32))
  else
    some (0 : Int32)
  else none
  else none
  else none
  else none
  else none
  else none
def p_law_b443 (f : Nat) (xs : Nat → Int32) (L : Nat) (k18 : qMem → Int32 → Option (Int32)) (σ : qMem) (x3 : Int32) : Option (Int32) :=
  (p_C_deeds f σ).bind fun u51 =>
  (p_M_deeds f u51.2).bind fun u53 =>
  if u51.1 = u53.1 then
    k18 u53.2 (x3 + (6 : Int32))
  else
    some (0 : Int32)
def p_law_b456 (f : Nat) (xs : Nat → Int32) (L : Nat) (k18 : qMem → Int32 → Option (Int32)) (σ : qMem) (x3 : Int32) : Option (Int32) :=
  (p_C_fault f σ).bind fun u55 =>
  (p_M_fault f σ).bind fun u57 =>
  if u55 = u57.1 then
    k18 u57.2 (x3 + (6 : Int32))
  else
    some (0 : Int32)
def p_law_b469 (f : Nat) (xs : Nat → Int32) (L : Nat) (k18 : qMem → Int32 → Option (Int32)) (σ : qMem) (x3 : Int32) : Option (Int32) :=
  if qin (x3 + (1 : Int32)) L = true then
  if qin (x3 + (2 : Int32)) L = true then
  (p_C_told f σ (xs (qi (x3 + (1 : Int32)))) (xs (qi (x3 + (2 : Int32))))).bind fun u61 =>
  if qin (x3 + (1 : Int32)) L = true then
  if qin (x3 + (2 : Int32)) L = true then
  (p_M_told f σ (xs (qi (x3 + (1 : Int32)))) (xs (qi (x3 + (2 : Int32))))).bind fun u65 =>
  if u61 = u65.1 then
    k18 u65.2 (x3 + (6 : Int32))
  else
    some (0 : Int32)
  else none
  else none
  else none
  else none
def p_law_b502 (f : Nat) (xs : Nat → Int32) (L : Nat) (k18 : qMem → Int32 → Option (Int32)) (σ : qMem) (x3 : Int32) : Option (Int32) :=
  if qin (x3 + (1 : Int32)) L = true then
  if qin (x3 + (2 : Int32)) L = true then
  (p_C_feast f σ (xs (qi (x3 + (1 : Int32)))) (xs (qi (x3 + (2 : Int32))))).bind fun u69 =>
  if qin (x3 + (1 : Int32)) L = true then
  if qin (x3 + (2 : Int32)) L = true then
  (p_M_feast f u69.2 (xs (qi (x3 + (1 : Int32)))) (xs (qi (x3 + (2 : Int32))))).bind fun u73 =>
  if u69.1 = u73.1 then
    k18 u73.2 (x3 + (6 : Int32))
  else
    some (0 : Int32)
  else none
  else none
  else none
  else none
def p_law_b535 (f : Nat) (xs : Nat → Int32) (L : Nat) (k18 : qMem → Int32 → Option (Int32)) (σ : qMem) (x3 : Int32) : Option (Int32) :=
  if qin (x3 + (1 : Int32)) L = true then
  if qin (x3 + (2 : Int32)) L = true then
  if qin (x3 + (3 : Int32)) L = true then
  (p_C_count f σ (xs (qi (x3 + (1 : Int32)))) (xs (qi (x3 + (2 : Int32)))) (xs (qi (x3 + (3 : Int32))))).bind fun u78 =>
  if qin (x3 + (1 : Int32)) L = true then
  if qin (x3 + (2 : Int32)) L = true then
  if qin (x3 + (3 : Int32)) L = true then
  (p_M_count f σ (xs (qi (x3 + (1 : Int32)))) (xs (qi (x3 + (2 : Int32)))) (xs (qi (x3 + (3 : Int32))))).bind fun u83 =>
  if u78 = u83.1 then
    k18 u83.2 (x3 + (6 : Int32))
  else
    some (0 : Int32)
  else none
  else none
  else none
  else none
  else none
  else none
def p_law_b578 (f : Nat) (xs : Nat → Int32) (L : Nat) (k18 : qMem → Int32 → Option (Int32)) (σ : qMem) (x3 : Int32) : Option (Int32) :=
  if qin (x3 + (1 : Int32)) L = true then
  if qin (x3 + (2 : Int32)) L = true then
  (p_C_vow f σ (xs (qi (x3 + (1 : Int32)))) (xs (qi (x3 + (2 : Int32))))).bind fun u87 =>
  if qin (x3 + (1 : Int32)) L = true then
  if qin (x3 + (2 : Int32)) L = true then
  (p_M_vow f u87.2 (xs (qi (x3 + (1 : Int32)))) (xs (qi (x3 + (2 : Int32))))).bind fun u91 =>
  if u87.1 = u91.1 then
    k18 u91.2 (x3 + (6 : Int32))
  else
    some (0 : Int32)
  else none
  else none
  else none
  else none
def p_law_b611 (f : Nat) (xs : Nat → Int32) (L : Nat) (k18 : qMem → Int32 → Option (Int32)) (σ : qMem) (x3 : Int32) : Option (Int32) :=
  if qin (x3 + (1 : Int32)) L = true then
  if qin (x3 + (2 : Int32)) L = true then
  if qin (x3 + (3 : Int32)) L = true then
  (p_C_sick f σ (xs (qi (x3 + (1 : Int32)))) (xs (qi (x3 + (2 : Int32)))) (xs (qi (x3 + (3 : Int32))))).bind fun u96 =>
  if qin (x3 + (1 : Int32)) L = true then
  if qin (x3 + (2 : Int32)) L = true then
  if qin (x3 + (3 : Int32)) L = true then
  (p_M_sick f u96.2 (xs (qi (x3 + (1 : Int32)))) (xs (qi (x3 + (2 : Int32)))) (xs (qi (x3 + (3 : Int32))))).bind fun u101 =>
  if u96.1 = u101.1 then
    k18 u101.2 (x3 + (6 : Int32))
  else
    some (0 : Int32)
  else none
  else none
  else none
  else none
  else none
  else none
def p_law_b654 (f : Nat) (xs : Nat → Int32) (L : Nat) (k18 : qMem → Int32 → Option (Int32)) (σ : qMem) (x3 : Int32) : Option (Int32) :=
  if qin (x3 + (1 : Int32)) L = true then
  if qin (x3 + (2 : Int32)) L = true then
  if qin (x3 + (3 : Int32)) L = true then
  (p_C_say f σ (xs (qi (x3 + (1 : Int32)))) (xs (qi (x3 + (2 : Int32)))) (xs (qi (x3 + (3 : Int32))))).bind fun u106 =>
  if qin (x3 + (1 : Int32)) L = true then
  if qin (x3 + (2 : Int32)) L = true then
  if qin (x3 + (3 : Int32)) L = true then
  (p_M_say f u106.2 (xs (qi (x3 + (1 : Int32)))) (xs (qi (x3 + (2 : Int32)))) (xs (qi (x3 + (3 : Int32))))).bind fun u111 =>
  if u106.1 = u111.1 then
    k18 u111.2 (x3 + (6 : Int32))
  else
    some (0 : Int32)
  else none
  else none
  else none
  else none
  else none
  else none
def p_law_b697 (f : Nat) (xs : Nat → Int32) (L : Nat) (k18 : qMem → Int32 → Option (Int32)) (σ : qMem) (x3 : Int32) : Option (Int32) :=
  if qin (x3 + (1 : Int32)) L = true then
  if qin (x3 + (2 : Int32)) L = true then
  if qin (x3 + (3 : Int32)) L = true then
  (p_C_lines f σ (xs (qi (x3 + (1 : Int32)))) (xs (qi (x3 + (2 : Int32)))) (xs (qi (x3 + (3 : Int32))))).bind fun u116 =>
  if qin (x3 + (1 : Int32)) L = true then
  if qin (x3 + (2 : Int32)) L = true then
  if qin (x3 + (3 : Int32)) L = true then
  (p_M_lines f u116.2 (xs (qi (x3 + (1 : Int32)))) (xs (qi (x3 + (2 : Int32)))) (xs (qi (x3 + (3 : Int32))))).bind fun u121 =>
  if u116.1 = u121.1 then
    k18 u121.2 (x3 + (6 : Int32))
  else
    some (0 : Int32)
  else none
  else none
  else none
  else none
  else none
  else none
def p_law_b740 (f : Nat) (xs : Nat → Int32) (L : Nat) (k18 : qMem → Int32 → Option (Int32)) (σ : qMem) (x3 : Int32) : Option (Int32) :=
  if qin (x3 + (1 : Int32)) L = true then
  (p_C_good f σ (xs (qi (x3 + (1 : Int32))))).bind fun u124 =>
  if qin (x3 + (1 : Int32)) L = true then
  (p_M_good f σ (xs (qi (x3 + (1 : Int32))))).bind fun u127 =>
  if u124 = u127.1 then
    k18 u127.2 (x3 + (6 : Int32))
  else
    some (0 : Int32)
  else none
  else none
def p_law_b763 (f : Nat) (xs : Nat → Int32) (L : Nat) (k18 : qMem → Int32 → Option (Int32)) (σ : qMem) (x3 : Int32) : Option (Int32) :=
  if qin (x3 + (1 : Int32)) L = true then
  if qin (x3 + (2 : Int32)) L = true then
  if qin (x3 + (3 : Int32)) L = true then
  (p_C_join f σ (xs (qi (x3 + (1 : Int32)))) (xs (qi (x3 + (2 : Int32)))) (xs (qi (x3 + (3 : Int32))))).bind fun u132 =>
  if qin (x3 + (1 : Int32)) L = true then
  if qin (x3 + (2 : Int32)) L = true then
  if qin (x3 + (3 : Int32)) L = true then
  (p_M_join f u132.2 (xs (qi (x3 + (1 : Int32)))) (xs (qi (x3 + (2 : Int32)))) (xs (qi (x3 + (3 : Int32))))).bind fun u137 =>
  if u132.1 = u137.1 then
    k18 u137.2 (x3 + (6 : Int32))
  else
    some (0 : Int32)
  else none
  else none
  else none
  else none
  else none
  else none
def p_law_b806 (f : Nat) (xs : Nat → Int32) (L : Nat) (k18 : qMem → Int32 → Option (Int32)) (σ : qMem) (x3 : Int32) : Option (Int32) :=
  if qin (x3 + (1 : Int32)) L = true then
  if qin (x3 + (2 : Int32)) L = true then
  (p_C_split f σ (xs (qi (x3 + (1 : Int32)))) (xs (qi (x3 + (2 : Int32))))).bind fun u141 =>
  if qin (x3 + (1 : Int32)) L = true then
  if qin (x3 + (2 : Int32)) L = true then
  (p_M_split f u141.2 (xs (qi (x3 + (1 : Int32)))) (xs (qi (x3 + (2 : Int32))))).bind fun u145 =>
  if u141.1 = u145.1 then
    k18 u145.2 (x3 + (6 : Int32))
  else
    some (0 : Int32)
  else none
  else none
  else none
  else none
def p_law_b839 (f : Nat) (xs : Nat → Int32) (L : Nat) (k18 : qMem → Int32 → Option (Int32)) (σ : qMem) (x3 : Int32) : Option (Int32) :=
  if qin (x3 + (1 : Int32)) L = true then
  if qin (x3 + (2 : Int32)) L = true then
  if qin (x3 + (3 : Int32)) L = true then
  (p_C_house f σ (xs (qi (x3 + (1 : Int32)))) (xs (qi (x3 + (2 : Int32)))) (xs (qi (x3 + (3 : Int32))))).bind fun u150 =>
  if qin (x3 + (1 : Int32)) L = true then
  if qin (x3 + (2 : Int32)) L = true then
  if qin (x3 + (3 : Int32)) L = true then
  (p_M_house f u150.2 (xs (qi (x3 + (1 : Int32)))) (xs (qi (x3 + (2 : Int32)))) (xs (qi (x3 + (3 : Int32))))).bind fun u155 =>
  if u150.1 = u155.1 then
    k18 u155.2 (x3 + (6 : Int32))
  else
    some (0 : Int32)
  else none
  else none
  else none
  else none
  else none
  else none
def p_law_b882 (f : Nat) (xs : Nat → Int32) (L : Nat) (k18 : qMem → Int32 → Option (Int32)) (σ : qMem) (x3 : Int32) : Option (Int32) :=
  if qin (x3 + (1 : Int32)) L = true then
  if qin (x3 + (2 : Int32)) L = true then
  if qin (x3 + (3 : Int32)) L = true then
  (p_C_repair f σ (xs (qi (x3 + (1 : Int32)))) (xs (qi (x3 + (2 : Int32)))) (xs (qi (x3 + (3 : Int32))))).bind fun u160 =>
  if qin (x3 + (1 : Int32)) L = true then
  if qin (x3 + (2 : Int32)) L = true then
  if qin (x3 + (3 : Int32)) L = true then
  (p_M_repair f u160.2 (xs (qi (x3 + (1 : Int32)))) (xs (qi (x3 + (2 : Int32)))) (xs (qi (x3 + (3 : Int32))))).bind fun u165 =>
  if u160.1 = u165.1 then
    k18 u165.2 (x3 + (6 : Int32))
  else
    some (0 : Int32)
  else none
  else none
  else none
  else none
  else none
  else none
def p_law_b925 (f : Nat) (xs : Nat → Int32) (L : Nat) (k18 : qMem → Int32 → Option (Int32)) (σ : qMem) (x3 : Int32) : Option (Int32) :=
  if qin (x3 + (1 : Int32)) L = true then
  if qin (x3 + (2 : Int32)) L = true then
  if qin (x3 + (3 : Int32)) L = true then
  (p_C_empty f σ (xs (qi (x3 + (1 : Int32)))) (xs (qi (x3 + (2 : Int32)))) (xs (qi (x3 + (3 : Int32))))).bind fun u170 =>
  if qin (x3 + (1 : Int32)) L = true then
  if qin (x3 + (2 : Int32)) L = true then
  if qin (x3 + (3 : Int32)) L = true then
  (p_M_empty f u170.2 (xs (qi (x3 + (1 : Int32)))) (xs (qi (x3 + (2 : Int32)))) (xs (qi (x3 + (3 : Int32))))).bind fun u175 =>
  if u170.1 = u175.1 then
    k18 u175.2 (x3 + (6 : Int32))
  else
    some (0 : Int32)
  else none
  else none
  else none
  else none
  else none
  else none
def p_law_b968 (f : Nat) (xs : Nat → Int32) (L : Nat) (k18 : qMem → Int32 → Option (Int32)) (σ : qMem) (x3 : Int32) : Option (Int32) :=
  if qin (x3 + (1 : Int32)) L = true then
  if qin (x3 + (2 : Int32)) L = true then
  (p_C_rent f σ (xs (qi (x3 + (1 : Int32)))) (xs (qi (x3 + (2 : Int32))))).bind fun u179 =>
  if qin (x3 + (1 : Int32)) L = true then
  if qin (x3 + (2 : Int32)) L = true then
  (p_M_rent f σ (xs (qi (x3 + (1 : Int32)))) (xs (qi (x3 + (2 : Int32))))).bind fun u183 =>
  if u179 = u183.1 then
    k18 u183.2 (x3 + (6 : Int32))
  else
    some (0 : Int32)
  else none
  else none
  else none
  else none
def p_law_b1001 (f : Nat) (xs : Nat → Int32) (L : Nat) (k18 : qMem → Int32 → Option (Int32)) (σ : qMem) (x3 : Int32) : Option (Int32) :=
  if qin (x3 + (1 : Int32)) L = true then
  if qin (x3 + (2 : Int32)) L = true then
  if qin (x3 + (3 : Int32)) L = true then
  (p_C_comes f σ (xs (qi (x3 + (1 : Int32)))) (xs (qi (x3 + (2 : Int32)))) (xs (qi (x3 + (3 : Int32))))).bind fun u188 =>
  if qin (x3 + (1 : Int32)) L = true then
  if qin (x3 + (2 : Int32)) L = true then
  if qin (x3 + (3 : Int32)) L = true then
  (p_M_comes f σ (xs (qi (x3 + (1 : Int32)))) (xs (qi (x3 + (2 : Int32)))) (xs (qi (x3 + (3 : Int32))))).bind fun u193 =>
  if u188 = u193.1 then
    k18 u193.2 (x3 + (6 : Int32))
  else
    some (0 : Int32)
  else none
  else none
  else none
  else none
  else none
  else none
def p_law_b1044 (f : Nat) (xs : Nat → Int32) (L : Nat) (k18 : qMem → Int32 → Option (Int32)) (σ : qMem) (x3 : Int32) : Option (Int32) :=
  if qin (x3 + (1 : Int32)) L = true then
  (p_C_fails f σ (xs (qi (x3 + (1 : Int32))))).bind fun u196 =>
  if qin (x3 + (1 : Int32)) L = true then
  (p_M_fails f σ (xs (qi (x3 + (1 : Int32))))).bind fun u199 =>
  if u196 = u199.1 then
    k18 u199.2 (x3 + (6 : Int32))
  else
    some (0 : Int32)
  else none
  else none
def p_law_b1067 (f : Nat) (xs : Nat → Int32) (L : Nat) (k18 : qMem → Int32 → Option (Int32)) (σ : qMem) (x3 : Int32) : Option (Int32) :=
  if qin (x3 + (1 : Int32)) L = true then
  if qin (x3 + (2 : Int32)) L = true then
  (p_C_price f σ (xs (qi (x3 + (1 : Int32)))) (xs (qi (x3 + (2 : Int32))))).bind fun u203 =>
  if qin (x3 + (1 : Int32)) L = true then
  if qin (x3 + (2 : Int32)) L = true then
  (p_M_price f u203.2 (xs (qi (x3 + (1 : Int32)))) (xs (qi (x3 + (2 : Int32))))).bind fun u207 =>
  if u203.1 = u207.1 then
    k18 u207.2 (x3 + (6 : Int32))
  else
    some (0 : Int32)
  else none
  else none
  else none
  else none
def p_law_b1100 (f : Nat) (xs : Nat → Int32) (L : Nat) (k18 : qMem → Int32 → Option (Int32)) (σ : qMem) (x3 : Int32) : Option (Int32) :=
  if qin (x3 + (1 : Int32)) L = true then
  (p_C_spent f σ (xs (qi (x3 + (1 : Int32))))).bind fun u210 =>
  if qin (x3 + (1 : Int32)) L = true then
  (p_M_spent f σ (xs (qi (x3 + (1 : Int32))))).bind fun u213 =>
  if u210 = u213.1 then
    k18 u213.2 (x3 + (6 : Int32))
  else
    some (0 : Int32)
  else none
  else none
def p_law_b1123 (f : Nat) (xs : Nat → Int32) (L : Nat) (k18 : qMem → Int32 → Option (Int32)) (σ : qMem) (x3 : Int32) : Option (Int32) :=
  if qin (x3 + (1 : Int32)) L = true then
  if qin (x3 + (2 : Int32)) L = true then
  if qin (x3 + (3 : Int32)) L = true then
  if qin (x3 + (4 : Int32)) L = true then
  if qin (x3 + (5 : Int32)) L = true then
  (p_C_vacant f σ (xs (qi (x3 + (1 : Int32)))) (xs (qi (x3 + (2 : Int32)))) (xs (qi (x3 + (3 : Int32)))) (xs (qi (x3 + (4 : Int32)))) (xs (qi (x3 + (5 : Int32))))).bind fun u220 =>
  if qin (x3 + (1 : Int32)) L = true then
  if qin (x3 + (2 : Int32)) L = true then
  if qin (x3 + (3 : Int32)) L = true then
  if qin (x3 + (4 : Int32)) L = true then
  if qin (x3 + (5 : Int32)) L = true then
  (p_M_vacant f u220.2 (xs (qi (x3 + (1 : Int32)))) (xs (qi (x3 + (2 : Int32)))) (xs (qi (x3 + (3 : Int32)))) (xs (qi (x3 + (4 : Int32)))) (xs (qi (x3 + (5 : Int32))))).bind fun u227 =>
  if u220.1 = u227.1 then
    k18 u227.2 (x3 + (6 : Int32))
  else
    some (0 : Int32)
  else none
  else none
  else none
  else none
  else none
  else none
  else none
  else none
  else none
  else none
def p_law_b1186 (f : Nat) (xs : Nat → Int32) (L : Nat) (k18 : qMem → Int32 → Option (Int32)) (σ : qMem) (x3 : Int32) : Option (Int32) :=
  if qin (x3 + (1 : Int32)) L = true then
  if qin (x3 + (2 : Int32)) L = true then
  (p_C_turn f σ (xs (qi (x3 + (1 : Int32)))) (xs (qi (x3 + (2 : Int32))))).bind fun u231 =>
  if qin (x3 + (1 : Int32)) L = true then
  if qin (x3 + (2 : Int32)) L = true then
  (p_M_turn f σ (xs (qi (x3 + (1 : Int32)))) (xs (qi (x3 + (2 : Int32))))).bind fun u235 =>
  if u231 = u235.1 then
    k18 u235.2 (x3 + (6 : Int32))
  else
    some (0 : Int32)
  else none
  else none
  else none
  else none
def p_law_b1219 (f : Nat) (xs : Nat → Int32) (L : Nat) (k18 : qMem → Int32 → Option (Int32)) (σ : qMem) (x3 : Int32) : Option (Int32) :=
  if qin (x3 + (1 : Int32)) L = true then
  if qin (x3 + (2 : Int32)) L = true then
  if qin (x3 + (3 : Int32)) L = true then
  if qin (x3 + (4 : Int32)) L = true then
  (p_C_act f σ (xs (qi (x3 + (1 : Int32)))) (xs (qi (x3 + (2 : Int32)))) (xs (qi (x3 + (3 : Int32)))) (xs (qi (x3 + (4 : Int32))))).bind fun u241 =>
  if qin (x3 + (1 : Int32)) L = true then
  if qin (x3 + (2 : Int32)) L = true then
  if qin (x3 + (3 : Int32)) L = true then
  if qin (x3 + (4 : Int32)) L = true then
  (p_M_act f u241.2 (xs (qi (x3 + (1 : Int32)))) (xs (qi (x3 + (2 : Int32)))) (xs (qi (x3 + (3 : Int32)))) (xs (qi (x3 + (4 : Int32))))).bind fun u247 =>
  if u241.1 = u247.1 then
    k18 u247.2 (x3 + (6 : Int32))
  else
    some (0 : Int32)
  else none
  else none
  else none
  else none
  else none
  else none
  else none
  else none
def p_law_b1272 (f : Nat) (xs : Nat → Int32) (L : Nat) (k18 : qMem → Int32 → Option (Int32)) (σ : qMem) (x3 : Int32) : Option (Int32) :=
  if qin (x3 + (1 : Int32)) L = true then
  (p_C_taken f σ (xs (qi (x3 + (1 : Int32))))).bind fun u250 =>
  if qin (x3 + (1 : Int32)) L = true then
  (p_M_taken f σ (xs (qi (x3 + (1 : Int32))))).bind fun u253 =>
  if u250 = u253.1 then
    k18 u253.2 (x3 + (6 : Int32))
  else
    some (0 : Int32)
  else none
  else none
def p_law_b1295 (f : Nat) (xs : Nat → Int32) (L : Nat) (k18 : qMem → Int32 → Option (Int32)) (σ : qMem) (x3 : Int32) : Option (Int32) :=
  if qin (x3 + (1 : Int32)) L = true then
  if qin (x3 + (2 : Int32)) L = true then
  (p_C_pension f σ (xs (qi (x3 + (1 : Int32)))) (xs (qi (x3 + (2 : Int32))))).bind fun u257 =>
  if qin (x3 + (1 : Int32)) L = true then
  if qin (x3 + (2 : Int32)) L = true then
  (p_M_pension f σ (xs (qi (x3 + (1 : Int32)))) (xs (qi (x3 + (2 : Int32))))).bind fun u261 =>
  if u257 = u261.1 then
    k18 u261.2 (x3 + (6 : Int32))
  else
    some (0 : Int32)
  else none
  else none
  else none
  else none
def p_law_b1328 (f : Nat) (xs : Nat → Int32) (L : Nat) (k18 : qMem → Int32 → Option (Int32)) (σ : qMem) (x3 : Int32) : Option (Int32) :=
  if qin (x3 + (1 : Int32)) L = true then
  if qin (x3 + (2 : Int32)) L = true then
  if qin (x3 + (3 : Int32)) L = true then
  (p_C_bid f σ (xs (qi (x3 + (1 : Int32)))) (xs (qi (x3 + (2 : Int32)))) (xs (qi (x3 + (3 : Int32))))).bind fun u266 =>
  if qin (x3 + (1 : Int32)) L = true then
  if qin (x3 + (2 : Int32)) L = true then
  if qin (x3 + (3 : Int32)) L = true then
  (p_M_bid f u266.2 (xs (qi (x3 + (1 : Int32)))) (xs (qi (x3 + (2 : Int32)))) (xs (qi (x3 + (3 : Int32))))).bind fun u271 =>
  if u266.1 = u271.1 then
    k18 u271.2 (x3 + (6 : Int32))
  else
    some (0 : Int32)
  else none
  else none
  else none
  else none
  else none
  else none
def p_law_b1371 (f : Nat) (xs : Nat → Int32) (L : Nat) (k18 : qMem → Int32 → Option (Int32)) (σ : qMem) (x3 : Int32) : Option (Int32) :=
  if qin (x3 + (1 : Int32)) L = true then
  if qin (x3 + (2 : Int32)) L = true then
  (p_C_sold f σ (xs (qi (x3 + (1 : Int32)))) (xs (qi (x3 + (2 : Int32))))).bind fun u275 =>
  if qin (x3 + (1 : Int32)) L = true then
  if qin (x3 + (2 : Int32)) L = true then
  (p_M_sold f σ (xs (qi (x3 + (1 : Int32)))) (xs (qi (x3 + (2 : Int32))))).bind fun u279 =>
  if u275 = u279.1 then
    k18 u279.2 (x3 + (6 : Int32))
  else
    some (0 : Int32)
  else none
  else none
  else none
  else none
def p_law_b1404 (f : Nat) (xs : Nat → Int32) (L : Nat) (k18 : qMem → Int32 → Option (Int32)) (σ : qMem) (x3 : Int32) : Option (Int32) :=
  if qin (x3 + (1 : Int32)) L = true then
  if qin (x3 + (2 : Int32)) L = true then
  if qin (x3 + (3 : Int32)) L = true then
  (p_C_dawn f σ (xs (qi (x3 + (1 : Int32)))) (xs (qi (x3 + (2 : Int32)))) (xs (qi (x3 + (3 : Int32))))).bind fun u284 =>
  if qin (x3 + (1 : Int32)) L = true then
  if qin (x3 + (2 : Int32)) L = true then
  if qin (x3 + (3 : Int32)) L = true then
  (p_M_dawn f u284.2 (xs (qi (x3 + (1 : Int32)))) (xs (qi (x3 + (2 : Int32)))) (xs (qi (x3 + (3 : Int32))))).bind fun u289 =>
  if u284.1 = u289.1 then
    k18 u289.2 (x3 + (6 : Int32))
  else
    some (0 : Int32)
  else none
  else none
  else none
  else none
  else none
  else none
def p_law_b1447 (f : Nat) (xs : Nat → Int32) (L : Nat) (k18 : qMem → Int32 → Option (Int32)) (σ : qMem) (x3 : Int32) : Option (Int32) :=
  if qin (x3 + (1 : Int32)) L = true then
  (p_C_day f σ (xs (qi (x3 + (1 : Int32))))).bind fun u292 =>
  if qin (x3 + (1 : Int32)) L = true then
  (p_M_day f u292.2 (xs (qi (x3 + (1 : Int32))))).bind fun u295 =>
  if u292.1 = u295.1 then
    k18 u295.2 (x3 + (6 : Int32))
  else
    some (0 : Int32)
  else none
  else none
def p_law_b1470 (f : Nat) (xs : Nat → Int32) (L : Nat) (k18 : qMem → Int32 → Option (Int32)) (σ : qMem) (x3 : Int32) : Option (Int32) :=
  if qin (x3 + (1 : Int32)) L = true then
  (p_C_kind f σ (xs (qi (x3 + (1 : Int32))))).bind fun u298 =>
  if qin (x3 + (1 : Int32)) L = true then
  (p_M_kind f σ (xs (qi (x3 + (1 : Int32))))).bind fun u301 =>
  if u298 = u301.1 then
    k18 u301.2 (x3 + (6 : Int32))
  else
    some (0 : Int32)
  else none
  else none
def p_law_b1493 (f : Nat) (xs : Nat → Int32) (L : Nat) (k18 : qMem → Int32 → Option (Int32)) (σ : qMem) (x3 : Int32) : Option (Int32) :=
  if qin (x3 + (1 : Int32)) L = true then
  if qin (x3 + (2 : Int32)) L = true then
  (p_C_as f σ (xs (qi (x3 + (1 : Int32)))) (xs (qi (x3 + (2 : Int32))))).bind fun u305 =>
  if qin (x3 + (1 : Int32)) L = true then
  if qin (x3 + (2 : Int32)) L = true then
  (p_M_as f u305.2 (xs (qi (x3 + (1 : Int32)))) (xs (qi (x3 + (2 : Int32))))).bind fun u309 =>
  if u305.1 = u309.1 then
    k18 u309.2 (x3 + (6 : Int32))
  else
    some (0 : Int32)
  else none
  else none
  else none
  else none
def p_law_b1526 (f : Nat) (xs : Nat → Int32) (L : Nat) (k18 : qMem → Int32 → Option (Int32)) (σ : qMem) (x3 : Int32) : Option (Int32) :=
  if qin (x3 + (1 : Int32)) L = true then
  if qin (x3 + (2 : Int32)) L = true then
  (p_C_ask f σ (xs (qi (x3 + (1 : Int32)))) (xs (qi (x3 + (2 : Int32))))).bind fun u313 =>
  if qin (x3 + (1 : Int32)) L = true then
  if qin (x3 + (2 : Int32)) L = true then
  (p_M_ask f u313.2 (xs (qi (x3 + (1 : Int32)))) (xs (qi (x3 + (2 : Int32))))).bind fun u317 =>
  if u313.1 = u317.1 then
    k18 u317.2 (x3 + (6 : Int32))
  else
    some (0 : Int32)
  else none
  else none
  else none
  else none
def p_law_b1559 (f : Nat) (xs : Nat → Int32) (L : Nat) (k18 : qMem → Int32 → Option (Int32)) (σ : qMem) (x3 : Int32) : Option (Int32) :=
  if qin (x3 + (1 : Int32)) L = true then
  (p_C_trace f σ (xs (qi (x3 + (1 : Int32))))).bind fun u320 =>
  if qin (x3 + (1 : Int32)) L = true then
  (p_M_trace f σ (xs (qi (x3 + (1 : Int32))))).bind fun u323 =>
  if u320 = u323.1 then
    k18 u323.2 (x3 + (6 : Int32))
  else
    some (0 : Int32)
  else none
  else none
def p_law_b1582 (f : Nat) (xs : Nat → Int32) (L : Nat) (k18 : qMem → Int32 → Option (Int32)) (σ : qMem) (x3 : Int32) : Option (Int32) :=
  if qin (x3 + (1 : Int32)) L = true then
  (p_C_all f σ (xs (qi (x3 + (1 : Int32))))).bind fun u326 =>
  if qin (x3 + (1 : Int32)) L = true then
  (p_M_all f σ (xs (qi (x3 + (1 : Int32))))).bind fun u329 =>
  if u326 = u329.1 then
    k18 u329.2 (x3 + (6 : Int32))
  else
    some (0 : Int32)
  else none
  else none
def p_law_b1605 (f : Nat) (xs : Nat → Int32) (L : Nat) (k18 : qMem → Int32 → Option (Int32)) (σ : qMem) (x3 : Int32) : Option (Int32) :=
  (p_C_status f σ).bind fun u331 =>
  (p_M_status f σ).bind fun u333 =>
  if u331 = u333.1 then
    k18 u333.2 (x3 + (6 : Int32))
  else
    some (0 : Int32)
def p_law_l18 (f : Nat) (xs : Nat → Int32) (L : Nat) (k18 : qMem → Int32 → Option (Int32)) (σ : qMem) (x3 : Int32) : Option (Int32) :=
  if ((Int32.ofNat L) - (6 : Int32)) < x3 then
    some (1 : Int32)
  else
    if qin x3 L = true then
    if ((xs (qi x3)) &&& (63 : Int32)) = (0 : Int32) then
      p_law_b208 f xs L k18 σ x3
    else if ((xs (qi x3)) &&& (63 : Int32)) = (1 : Int32) then
      p_law_b251 f xs L k18 σ x3
    else if ((xs (qi x3)) &&& (63 : Int32)) = (2 : Int32) then
      p_law_b294 f xs L k18 σ x3
    else if ((xs (qi x3)) &&& (63 : Int32)) = (3 : Int32) then
      p_law_b357 f xs L k18 σ x3
    else if ((xs (qi x3)) &&& (63 : Int32)) = (4 : Int32) then
      p_law_b380 f xs L k18 σ x3
    else if ((xs (qi x3)) &&& (63 : Int32)) = (5 : Int32) then
      p_law_b443 f xs L k18 σ x3
    else if ((xs (qi x3)) &&& (63 : Int32)) = (6 : Int32) then
      p_law_b456 f xs L k18 σ x3
    else if ((xs (qi x3)) &&& (63 : Int32)) = (7 : Int32) then
      p_law_b469 f xs L k18 σ x3
    else if ((xs (qi x3)) &&& (63 : Int32)) = (8 : Int32) then
      p_law_b502 f xs L k18 σ x3
    else if ((xs (qi x3)) &&& (63 : Int32)) = (9 : Int32) then
      p_law_b535 f xs L k18 σ x3
    else if ((xs (qi x3)) &&& (63 : Int32)) = (10 : Int32) then
      p_law_b578 f xs L k18 σ x3
    else if ((xs (qi x3)) &&& (63 : Int32)) = (11 : Int32) then
      p_law_b611 f xs L k18 σ x3
    else if ((xs (qi x3)) &&& (63 : Int32)) = (12 : Int32) then
      p_law_b654 f xs L k18 σ x3
    else if ((xs (qi x3)) &&& (63 : Int32)) = (13 : Int32) then
      p_law_b697 f xs L k18 σ x3
    else if ((xs (qi x3)) &&& (63 : Int32)) = (14 : Int32) then
      p_law_b740 f xs L k18 σ x3
    else if ((xs (qi x3)) &&& (63 : Int32)) = (15 : Int32) then
      p_law_b763 f xs L k18 σ x3
    else if ((xs (qi x3)) &&& (63 : Int32)) = (16 : Int32) then
      p_law_b806 f xs L k18 σ x3
    else if ((xs (qi x3)) &&& (63 : Int32)) = (17 : Int32) then
      p_law_b839 f xs L k18 σ x3
    else if ((xs (qi x3)) &&& (63 : Int32)) = (18 : Int32) then
      p_law_b882 f xs L k18 σ x3
    else if ((xs (qi x3)) &&& (63 : Int32)) = (19 : Int32) then
      p_law_b925 f xs L k18 σ x3
    else if ((xs (qi x3)) &&& (63 : Int32)) = (20 : Int32) then
      p_law_b968 f xs L k18 σ x3
    else if ((xs (qi x3)) &&& (63 : Int32)) = (21 : Int32) then
      p_law_b1001 f xs L k18 σ x3
    else if ((xs (qi x3)) &&& (63 : Int32)) = (22 : Int32) then
      p_law_b1044 f xs L k18 σ x3
    else if ((xs (qi x3)) &&& (63 : Int32)) = (23 : Int32) then
      p_law_b1067 f xs L k18 σ x3
    else if ((xs (qi x3)) &&& (63 : Int32)) = (24 : Int32) then
      p_law_b1100 f xs L k18 σ x3
    else if ((xs (qi x3)) &&& (63 : Int32)) = (25 : Int32) then
      p_law_b1123 f xs L k18 σ x3
    else if ((xs (qi x3)) &&& (63 : Int32)) = (26 : Int32) then
      p_law_b1186 f xs L k18 σ x3
    else if ((xs (qi x3)) &&& (63 : Int32)) = (27 : Int32) then
      p_law_b1219 f xs L k18 σ x3
    else if ((xs (qi x3)) &&& (63 : Int32)) = (28 : Int32) then
      p_law_b1272 f xs L k18 σ x3
    else if ((xs (qi x3)) &&& (63 : Int32)) = (29 : Int32) then
      p_law_b1295 f xs L k18 σ x3
    else if ((xs (qi x3)) &&& (63 : Int32)) = (30 : Int32) then
      p_law_b1328 f xs L k18 σ x3
    else if ((xs (qi x3)) &&& (63 : Int32)) = (31 : Int32) then
      p_law_b1371 f xs L k18 σ x3
    else if ((xs (qi x3)) &&& (63 : Int32)) = (32 : Int32) then
      p_law_b1404 f xs L k18 σ x3
    else if ((xs (qi x3)) &&& (63 : Int32)) = (33 : Int32) then
      p_law_b1447 f xs L k18 σ x3
    else if ((xs (qi x3)) &&& (63 : Int32)) = (34 : Int32) then
      p_law_b1470 f xs L k18 σ x3
    else if ((xs (qi x3)) &&& (63 : Int32)) = (35 : Int32) then
      p_law_b1493 f xs L k18 σ x3
    else if ((xs (qi x3)) &&& (63 : Int32)) = (36 : Int32) then
      p_law_b1526 f xs L k18 σ x3
    else if ((xs (qi x3)) &&& (63 : Int32)) = (37 : Int32) then
      p_law_b1559 f xs L k18 σ x3
    else if ((xs (qi x3)) &&& (63 : Int32)) = (38 : Int32) then
      p_law_b1582 f xs L k18 σ x3
    else if ((xs (qi x3)) &&& (63 : Int32)) = (39 : Int32) then
      p_law_b1605 f xs L k18 σ x3
    else
      k18 σ (x3 + (6 : Int32))
    else none
