def Lead_init (N : Nat) (l0 : Option Nat) (h : Hp) : Option (Unit × Hp) :=
  kn l0 <|
  na 13 100 h fun x1 h2 =>
  pr [0] 0 l0 x1 h2 fun h3 =>
  pi [0] 2 l0 1 h3 fun h4 =>
  some ((), h4)
def Lead_add (N : Nat) (l0 : Option Nat) (l1 : Int32) (h : Hp) : Option (Unit × Hp) :=
  gi [0] 1 l0 h fun x1 =>
  if 100 ≤ x1 then (some ((), h)) else (gr [0] 0 l0 h fun x2 =>
  gi [0] 1 l0 h fun x3 =>
  si x2 x3 l1 h fun h4 =>
  gi [0] 1 l0 h4 fun x5 =>
  pi [0] 1 l0 (x5 + (1 : Int32)) h4 fun h6 =>
  some ((), h6))
def Rows_changed_53 (N : Nat) (re8 : Int64 → Int32 → Int32 → Hp → Option (Int64 × Hp)) (l3 : Int64) (l5 : Int32) (l6 : Int32) (h : Hp) : Option (Int64 × Hp) :=
  nm (l5 + 4) fun x1 =>
  nm (l6 >>> ((1 : Int32) &&& 31)) fun x2 =>
  re8 l3 x1 x2 h
def Rows_changed_8 (N : Nat) : Nat → Int64 → Int32 → Int32 → Hp → Option (Int64 × Hp)
  | 0, _, _, _, _ => none
  | n + 1, l3, l5, l6, h =>
  if l6 ≤ 0 then (some (l3, h)) else (if (l6 &&& (1 : Int32)) = 0 then (Rows_changed_53 N (Rows_changed_8 N n) l3 l5 l6 h) else (nm (((UInt64.toInt64 (Int64.toUInt64 l3 >>> (Int64.toUInt64 (Int32.toInt64 l5) &&& Int64.toUInt64 63))) ^^^ (UInt64.toInt64 (Int64.toUInt64 l3 >>> (Int64.toUInt64 (Int32.toInt64 (l5 + (4 : Int32))) &&& Int64.toUInt64 63)))) &&& (15 : Int64)) fun x1 =>
  nm (l3 ^^^ ((x1 <<< (Int32.toInt64 l5 &&& 63)) ||| (x1 <<< (Int32.toInt64 (l5 + (4 : Int32)) &&& 63)))) fun x2 =>
  Rows_changed_53 N (Rows_changed_8 N n) x2 l5 l6 h))
def Rows_changed (N : Nat) (l0 : Int64) (l2 : Int32) (h : Hp) : Option (Int64 × Hp) :=
  Rows_changed_8 N N l0 0 l2 h
def Lead_rungFrom_5 (N : Nat) : Nat → Option Nat → Int64 → Int32 → Hp → Option (Int64 × Hp)
  | 0, _, _, _, _ => none
  | n + 1, l0, l3, l5, h =>
  gi [0] 1 l0 h fun x1 =>
  if x1 ≤ l5 then (some (l3, h)) else (gr [0] 0 l0 h fun x2 =>
  li 13 x2 l5 h fun x3 =>
  cl (Rows_changed N l3 x3 h) fun x5 h4 =>
  nm (l5 + 1) fun x6 =>
  Lead_rungFrom_5 N n l0 x5 x6 h4)
def Lead_rungFrom (N : Nat) (l0 : Option Nat) (l1 : Int64) (h : Hp) : Option (Int64 × Hp) :=
  Lead_rungFrom_5 N N l0 l1 0 h
def Meth_init (N : Nat) (l0 : Option Nat) (l1 : Int32) (l2 : Option Nat) (h : Hp) : Option (Unit × Hp) :=
  kn l0 <|
  nw 0 h fun x1 h2 =>
  cl (ck [0] x1 h2 (Lead_init N x1 h2)) fun _ h3 =>
  pr [1, 2, 3, 6, 7, 10] 2 l0 x1 h3 fun h4 =>
  na 13 3 h4 fun x5 h6 =>
  si x5 0 (-1) h6 fun h7 =>
  si x5 1 (-1) h7 fun h8 =>
  si x5 2 (-1) h8 fun h9 =>
  pr [1, 2, 3, 6, 7, 10] 3 l0 x5 h9 fun h10 =>
  na 13 3 h10 fun x11 h12 =>
  pr [1, 2, 3, 6, 7, 10] 4 l0 x11 h12 fun h13 =>
  pi [1, 2, 3, 6, 7, 10] 0 l0 l1 h13 fun h14 =>
  pr [1, 2, 3, 6, 7, 10] 1 l0 l2 h14 fun h15 =>
  some ((), h15)
def Plain_init (N : Nat) (l0 : Option Nat) (l1 : Int32) (l2 : Option Nat) (h : Hp) : Option (Unit × Hp) :=
  cl (ck [1, 2, 7, 10] l0 h (Meth_init N l0 l1 l2 h)) fun _ h1 =>
  some ((), h1)
def Little_init (N : Nat) (l0 : Option Nat) (l1 : Int32) (l2 : Option Nat) (h : Hp) : Option (Unit × Hp) :=
  cl (ck [1] l0 h (Plain_init N l0 l1 l2 h)) fun _ h1 =>
  some ((), h1)
def Plain_leadOf (N : Nat) (l0 : Option Nat) (l1 : Int32) (h : Hp) : Option (Option Nat × Hp) :=
  gr [1, 2, 7, 10] 1 l0 h fun x1 =>
  li 13 x1 0 h fun x2 =>
  si x1 0 (x2 + (1 : Int32)) h fun h3 =>
  gr [1, 2, 7, 10] 2 l0 h3 fun x4 =>
  some (x4, h3)
def Meth_withCall (N : Nat) (l0 : Option Nat) (l1 : Option Nat) (l2 : Int32) (l3 : Int32) (l4 : Option Nat) (h : Hp) : Option (Int32 × Hp) :=
  gi [0] 2 l1 h fun x1 =>
  if x1 = 0 then (pi [0] 2 l4 0 h fun h2 =>
  gi [0] 1 l1 h2 fun x3 =>
  pi [0] 1 l4 x3 h2 fun h4 =>
  gr [0] 0 l1 h4 fun x5 =>
  gr [0] 0 l4 h4 fun x6 =>
  gi [0] 1 l1 h4 fun x7 =>
  ac x5 0 x6 0 x7 h4 fun h8 =>
  if l2 = 0 then (some (0, h8)) else (gr [1, 2, 3, 6, 7, 10] 3 l0 h8 fun x9 =>
  li 13 x9 l2 h8 fun x10 =>
  if 0 ≤ x10 then (if l3 < 0 then (some (2, h8)) else (gi [0] 1 l4 h8 fun x11 =>
  if l3 < x11 then (gr [0] 0 l4 h8 fun x12 =>
  gr [1, 2, 3, 6, 7, 10] 4 l0 h8 fun x13 =>
  li 13 x13 l2 h8 fun x14 =>
  si x12 l3 x14 h8 fun h15 =>
  some (0, h15)) else (some (2, h8)))) else (some (1, h8)))) else (gi [0] 2 l1 h fun x16 =>
  some (x16, h))
def Plain_plainCalled (N : Nat) (l0 : Option Nat) (l1 : Int32) (l2 : Int32) (l3 : Int32) (l4 : Option Nat) (h : Hp) : Option (Int32 × Hp) :=
  gr [1, 2, 7, 10] 1 l0 h fun x1 =>
  li 13 x1 1 h fun x2 =>
  si x1 1 (x2 + (1 : Int32)) h fun h3 =>
  cl (ds [(1, Plain_leadOf N l0 l1 h3), (2, Plain_leadOf N l0 l1 h3), (7, Plain_leadOf N l0 l1 h3), (10, Plain_leadOf N l0 l1 h3)] l0 h3) fun x5 h4 =>
  cl (ds [(1, Meth_withCall N l0 x5 l2 l3 l4 h4), (2, Meth_withCall N l0 x5 l2 l3 l4 h4), (7, Meth_withCall N l0 x5 l2 l3 l4 h4), (10, Meth_withCall N l0 x5 l2 l3 l4 h4)] l0 h4) fun x7 h6 =>
  some (x7, h6)
def Little_calledOf_29 (N : Nat) (l0 : Option Nat) (l1 : Int32) (l3 : Option Nat) (u0 : Int32) (h : Hp) : Option (Int32 × Hp) :=
  gr [1] 3 l0 h fun x1 =>
  li 13 x1 u0 h fun x2 =>
  cl (ds [(1, Plain_plainCalled N l0 l1 u0 x2 l3 h)] l0 h) fun x4 h3 =>
  some (x4, h3)
def Little_calledOf_28 (N : Nat) (l0 : Option Nat) (l1 : Int32) (l2 : Int32) (l3 : Option Nat) (h : Hp) : Option (Int32 × Hp) :=
  Little_calledOf_29 N l0 l1 l3 l2 h
def Little_calledOf (N : Nat) (l0 : Option Nat) (l1 : Int32) (l2 : Int32) (l3 : Option Nat) (h : Hp) : Option (Int32 × Hp) :=
  gr [1] 1 l0 h fun x1 =>
  li 13 x1 4 h fun x2 =>
  si x1 4 (x2 + (1 : Int32)) h fun h3 =>
  if l2 = 2 then (gr [1] 3 l0 h3 fun x4 =>
  li 13 x4 2 h3 fun x5 =>
  if 0 ≤ x5 then (Little_calledOf_28 N l0 l1 l2 l3 h3) else (Little_calledOf_29 N l0 l1 l3 1 h3)) else (Little_calledOf_28 N l0 l1 l2 l3 h3)
def Meth_placeBehind (N : Nat) (l0 : Int32) (l1 : Int32) (h : Hp) : Option (Int32 × Hp) :=
  if ((l1 >>> ((l0 - (1 : Int32)) &&& 31)) &&& (1 : Int32)) = 0 then (if l0 ≤ 1 then (some (l0, h)) else (if ((l1 >>> ((l0 - (2 : Int32)) &&& 31)) &&& (1 : Int32)) = 0 then (some (l0, h)) else (some ((l0 - (1 : Int32)), h)))) else (some ((l0 + (1 : Int32)), h))
def Meth_trebleBehind_4 (N : Nat) : Nat → Option Nat → Int32 → Int32 → Hp → Option (Int32 × Hp)
  | 0, _, _, _, _ => none
  | n + 1, l1, l2, l3, h =>
  gi [0] 1 l1 h fun x1 =>
  if x1 ≤ l3 then (some (l2, h)) else (gr [0] 0 l1 h fun x2 =>
  li 13 x2 l3 h fun x3 =>
  cl (Meth_placeBehind N l2 x3 h) fun x5 h4 =>
  nm (l3 + 1) fun x6 =>
  Meth_trebleBehind_4 N n l1 x5 x6 h4)
def Meth_trebleBehind (N : Nat) (l0 : Option Nat) (l1 : Option Nat) (h : Hp) : Option (Int32 × Hp) :=
  Meth_trebleBehind_4 N N l1 1 0 h
def Plain_judged (N : Nat) (l0 : Option Nat) (h : Hp) : Option (Int32 × Hp) :=
  gr [1, 2, 7, 10] 1 l0 h fun x1 =>
  li 13 x1 2 h fun x2 =>
  si x1 2 (x2 + (1 : Int32)) h fun h3 =>
  cl (ds [(1, Plain_leadOf N l0 0 h3), (2, Plain_leadOf N l0 0 h3), (7, Plain_leadOf N l0 0 h3), (10, Plain_leadOf N l0 0 h3)] l0 h3) fun x5 h4 =>
  gi [0] 2 x5 h4 fun x6 =>
  if x6 = 0 then (cl (ds [(1, Meth_trebleBehind N l0 x5 h4), (2, Meth_trebleBehind N l0 x5 h4), (7, Meth_trebleBehind N l0 x5 h4), (10, Meth_trebleBehind N l0 x5 h4)] l0 h4) fun x8 h7 =>
  if x8 = 1 then (some (1, h7)) else (some (0, h7))) else (gi [0] 2 x5 h4 fun x9 =>
  some ((-x9), h4))
def Little_trebleKeepsOffLastPlace_4 (N : Nat) : Nat → Option Nat → Option Nat → Int32 → Int32 → Hp → Option (Int32 × Hp)
  | 0, _, _, _, _, _ => none
  | n + 1, l0, l1, l2, l3, h =>
  gi [0] 1 l1 h fun x1 =>
  if x1 ≤ l3 then (rz 1 h) else (gr [0] 0 l1 h fun x2 =>
  li 13 x2 l3 h fun x3 =>
  cl (Meth_placeBehind N l2 x3 h) fun x5 h4 =>
  gi [1] 0 l0 h4 fun x6 =>
  if x5 = x6 then (rz 0 h4) else (nm (l3 + 1) fun x7 =>
  Little_trebleKeepsOffLastPlace_4 N n l0 l1 x5 x7 h4))
def Little_trebleKeepsOffLastPlace (N : Nat) (l0 : Option Nat) (l1 : Option Nat) (h : Hp) : Option (Int32 × Hp) :=
  Little_trebleKeepsOffLastPlace_4 N N l0 l1 1 0 h
def Little_judged (N : Nat) (l0 : Option Nat) (h : Hp) : Option (Int32 × Hp) :=
  gr [1] 1 l0 h fun x1 =>
  li 13 x1 5 h fun x2 =>
  si x1 5 (x2 + (1 : Int32)) h fun h3 =>
  cl (ck [1] l0 h3 (Plain_judged N l0 h3)) fun x5 h4 =>
  if 0 ≤ x5 then (cl (ds [(1, Plain_leadOf N l0 0 h4)] l0 h4) fun x7 h6 =>
  cl (ds [(1, Little_trebleKeepsOffLastPlace N l0 x7 h6)] l0 h6) fun x9 h8 =>
  if x5 = 1 then (if x9 = 0 then (some (0, h8)) else (some (1, h8))) else (some (0, h8))) else (some (x5, h4))
def Plain_calledOf (N : Nat) (l0 : Option Nat) (l1 : Int32) (l2 : Int32) (l3 : Option Nat) (h : Hp) : Option (Int32 × Hp) :=
  gr [1, 2, 7, 10] 3 l0 h fun x1 =>
  li 13 x1 l2 h fun x2 =>
  cl (ds [(1, Plain_plainCalled N l0 l1 l2 x2 l3 h), (2, Plain_plainCalled N l0 l1 l2 x2 l3 h), (7, Plain_plainCalled N l0 l1 l2 x2 l3 h), (10, Plain_plainCalled N l0 l1 l2 x2 l3 h)] l0 h) fun x4 h3 =>
  some (x4, h3)
def Principle_init (N : Nat) (l0 : Option Nat) (l1 : Int32) (l2 : Option Nat) (h : Hp) : Option (Unit × Hp) :=
  cl (ck [3] l0 h (Meth_init N l0 l1 l2 h)) fun _ h1 =>
  some ((), h1)
def Principle_leadOf (N : Nat) (l0 : Option Nat) (l1 : Int32) (h : Hp) : Option (Option Nat × Hp) :=
  gr [3] 1 l0 h fun x1 =>
  li 13 x1 12 h fun x2 =>
  si x1 12 (x2 + (1 : Int32)) h fun h3 =>
  gr [3] 2 l0 h3 fun x4 =>
  some (x4, h3)
def Principle_calledOf (N : Nat) (l0 : Option Nat) (l1 : Int32) (l2 : Int32) (l3 : Option Nat) (h : Hp) : Option (Int32 × Hp) :=
  gr [3] 1 l0 h fun x1 =>
  li 13 x1 13 h fun x2 =>
  si x1 13 (x2 + (1 : Int32)) h fun h3 =>
  cl (ds [(3, Principle_leadOf N l0 l1 h3)] l0 h3) fun x5 h4 =>
  gi [0] 1 x5 h4 fun x6 =>
  gr [3] 3 l0 h4 fun x7 =>
  li 13 x7 l2 h4 fun x8 =>
  cl (ds [(3, Meth_withCall N l0 x5 l2 ((x6 - (1 : Int32)) - x8) l3 h4)] l0 h4) fun x10 h9 =>
  some (x10, h9)
def Principle_judged (N : Nat) (l0 : Option Nat) (h : Hp) : Option (Int32 × Hp) :=
  gr [3] 1 l0 h fun x1 =>
  li 13 x1 14 h fun x2 =>
  si x1 14 (x2 + (1 : Int32)) h fun h3 =>
  cl (ds [(3, Principle_leadOf N l0 0 h3)] l0 h3) fun x5 h4 =>
  gi [0] 2 x5 h4 fun x6 =>
  if x6 = 0 then (cl (ds [(3, Meth_trebleBehind N l0 x5 h4)] l0 h4) fun x8 h7 =>
  if x8 = 1 then (some (0, h7)) else (some (1, h7))) else (gi [0] 2 x5 h4 fun x9 =>
  some ((-x9), h4))
def Rows_init (N : Nat) (l0 : Option Nat) (l1 : Int32) (h : Hp) : Option (Unit × Hp) :=
  kn l0 <|
  na 13 512 h fun x1 h2 =>
  pr [4] 2 l0 x1 h2 fun h3 =>
  na 14 (jmax l1 (0 : Int32)) h3 fun x4 h5 =>
  pr [4] 0 l0 x4 h5 fun h6 =>
  na 13 (jmax l1 (0 : Int32)) h6 fun x7 h8 =>
  pr [4] 1 l0 x7 h8 fun h9 =>
  some ((), h9)
def Rows_slotOf (N : Nat) (l0 : Int64) (h : Hp) : Option (Int32 × Hp) :=
  some ((Int64.toInt32 (UInt64.toInt64 (Int64.toUInt64 (l0 * (-7046029254386353131 : Int64)) >>> (Int64.toUInt64 (Int32.toInt64 (55 : Int32)) &&& Int64.toUInt64 63)))), h)
def Rows_add (N : Nat) (l0 : Option Nat) (l1 : Int64) (h : Hp) : Option (Unit × Hp) :=
  gi [4] 3 l0 h fun x1 =>
  gr [4] 0 l0 h fun x2 =>
  al x2 h fun x3 =>
  if x1 < x3 then (cl (Rows_slotOf N l1 h) fun x5 h4 =>
  gr [4] 0 l0 h4 fun x6 =>
  gi [4] 3 l0 h4 fun x7 =>
  sl x6 x7 l1 h4 fun h8 =>
  gr [4] 1 l0 h8 fun x9 =>
  gi [4] 3 l0 h8 fun x10 =>
  gr [4] 2 l0 h8 fun x11 =>
  li 13 x11 x5 h8 fun x12 =>
  si x9 x10 x12 h8 fun h13 =>
  gi [4] 3 l0 h13 fun x14 =>
  pi [4] 3 l0 (x14 + (1 : Int32)) h13 fun h15 =>
  gr [4] 2 l0 h15 fun x16 =>
  gi [4] 3 l0 h15 fun x17 =>
  si x16 x5 x17 h15 fun h18 =>
  some ((), h18)) else (some ((), h))
def Rows_keepFirst_0 (N : Nat) : Nat → Option Nat → Int32 → Hp → Option (Unit × Hp)
  | 0, _, _, _ => none
  | n + 1, l0, l1, h =>
  gi [4] 3 l0 h fun x1 =>
  if x1 ≤ l1 then (some ((), h)) else (gi [4] 3 l0 h fun x2 =>
  if x2 ≤ 0 then (some ((), h)) else (gi [4] 3 l0 h fun x3 =>
  pi [4] 3 l0 (x3 - (1 : Int32)) h fun h4 =>
  gr [4] 2 l0 h4 fun x5 =>
  gr [4] 0 l0 h4 fun x6 =>
  gi [4] 3 l0 h4 fun x7 =>
  ll x6 x7 h4 fun x8 =>
  cl (Rows_slotOf N x8 h4) fun x10 h9 =>
  gr [4] 1 l0 h9 fun x11 =>
  gi [4] 3 l0 h9 fun x12 =>
  li 13 x11 x12 h9 fun x13 =>
  si x5 x10 x13 h9 fun h14 =>
  Rows_keepFirst_0 N n l0 l1 h14))
def Rows_keepFirst (N : Nat) (l0 : Option Nat) (l1 : Int32) (h : Hp) : Option (Unit × Hp) :=
  Rows_keepFirst_0 N N l0 l1 h
def Rows_indexOf_13 (N : Nat) : Nat → Option Nat → Int64 → Int32 → Int32 → Hp → Option (Int32 × Hp)
  | 0, _, _, _, _, _ => none
  | n + 1, l0, l1, l3, l4, h =>
  gi [4] 3 l0 h fun x1 =>
  if x1 ≤ l4 then (some ((-1), h)) else (if l3 ≤ 0 then (some ((-1), h)) else (gr [4] 0 l0 h fun x2 =>
  ll x2 (l3 - (1 : Int32)) h fun x3 =>
  if (lg_cmp x3 l1) = 0 then (some ((l3 - (1 : Int32)), h)) else (gr [4] 1 l0 h fun x4 =>
  li 13 x4 (l3 - (1 : Int32)) h fun x5 =>
  nm (l4 + 1) fun x6 =>
  Rows_indexOf_13 N n l0 l1 x5 x6 h)))
def Rows_indexOf (N : Nat) (l0 : Option Nat) (l1 : Int64) (h : Hp) : Option (Int32 × Hp) :=
  gr [4] 2 l0 h fun x1 =>
  cl (Rows_slotOf N l1 h) fun x3 h2 =>
  li 13 x1 x3 h2 fun x4 =>
  Rows_indexOf_13 N N l0 l1 x4 0 h2
def Rows_codeAt_12 (N : Nat)  (h : Hp) : Option (Int64 × Hp) :=
  some (0, h)
def Rows_codeAt (N : Nat) (l0 : Option Nat) (l1 : Int32) (h : Hp) : Option (Int64 × Hp) :=
  if l1 < 0 then (Rows_codeAt_12 N  h) else (gi [4] 3 l0 h fun x1 =>
  if l1 < x1 then (gr [4] 0 l0 h fun x2 =>
  ll x2 l1 h fun x3 =>
  some (x3, h)) else (Rows_codeAt_12 N  h))
def Rows_digit (N : Nat) (l0 : Int64) (l2 : Int32) (h : Hp) : Option (Int32 × Hp) :=
  some (((Int64.toInt32 (UInt64.toInt64 (Int64.toUInt64 l0 >>> (Int64.toUInt64 (Int32.toInt64 ((4 : Int32) * l2)) &&& Int64.toUInt64 63)))) &&& (15 : Int32)), h)
def Rows_toldDigits_32 (N : Nat) (re5 : Int64 → Int64 → Int32 → Hp → Option (Int64 × Hp)) (l0 : Int64) (l2 : Int64) (l4 : Int32) (h : Hp) : Option (Int64 × Hp) :=
  nm (l4 + 1) fun x1 =>
  re5 l0 l2 x1 h
def Rows_toldDigits_5 (N : Nat) : Nat → Int64 → Int64 → Int32 → Hp → Option (Int64 × Hp)
  | 0, _, _, _, _ => none
  | n + 1, l0, l2, l4, h =>
  if 12 ≤ l4 then (some (l2, h)) else (cl (Rows_digit N l0 l4 h) fun x2 h1 =>
  if x2 = 0 then (Rows_toldDigits_32 N (Rows_toldDigits_5 N n) l0 l2 l4 h1) else (nm (l2 ||| ((15 : Int64) <<< (Int32.toInt64 ((4 : Int32) * l4) &&& 63))) fun x3 =>
  Rows_toldDigits_32 N (Rows_toldDigits_5 N n) l0 x3 l4 h1))
def Rows_toldDigits (N : Nat) (l0 : Int64) (h : Hp) : Option (Int64 × Hp) :=
  Rows_toldDigits_5 N N l0 0 0 h
def Rows_countFitting_37 (N : Nat) (re11 : Option Nat → Int64 → Int64 → Int32 → Int32 → Hp → Option (Int32 × Hp)) (l0 : Option Nat) (l1 : Int64) (l3 : Int64) (l5 : Int32) (l6 : Int32) (h : Hp) : Option (Int32 × Hp) :=
  nm (l6 + 1) fun x1 =>
  re11 l0 l1 l3 l5 x1 h
def Rows_countFitting_11 (N : Nat) : Nat → Option Nat → Int64 → Int64 → Int32 → Int32 → Hp → Option (Int32 × Hp)
  | 0, _, _, _, _, _, _ => none
  | n + 1, l0, l1, l3, l5, l6, h =>
  gi [4] 3 l0 h fun x1 =>
  if x1 ≤ l6 then (some (l5, h)) else (gr [4] 0 l0 h fun x2 =>
  ll x2 l6 h fun x3 =>
  if (lg_cmp (x3 &&& l3) l1) = 0 then (nm (l5 + 1) fun x4 =>
  Rows_countFitting_37 N (Rows_countFitting_11 N n) l0 l1 l3 x4 l6 h) else (Rows_countFitting_37 N (Rows_countFitting_11 N n) l0 l1 l3 l5 l6 h))
def Rows_countFitting (N : Nat) (l0 : Option Nat) (l1 : Int64) (h : Hp) : Option (Int32 × Hp) :=
  cl (Rows_toldDigits N l1 h) fun x2 h1 =>
  Rows_countFitting_11 N N l0 l1 x2 0 1 h1
def Rows_rounds (N : Nat) (l0 : Int32) (h : Hp) : Option (Int64 × Hp) :=
  some (((223928981472033 : Int64) &&& (((1 : Int64) <<< (Int32.toInt64 ((4 : Int32) * l0) &&& 63)) - (1 : Int64))), h)
def Rows_isPattern_20 (N : Nat) : Nat → Int64 → Int32 → Int32 → Hp → Option (Int32 × Hp)
  | 0, _, _, _, _ => none
  | n + 1, l0, l2, l3, h =>
  if l2 ≤ l3 then (rz 1 h) else (cl (Rows_digit N l0 l3 h) fun x2 h1 =>
  if x2 ≤ l2 then (nm (l3 + 1) fun x3 =>
  Rows_isPattern_20 N n l0 l2 x3 h1) else (rz 0 h1))
def Rows_isPattern (N : Nat) (l0 : Int64) (l2 : Int32) (h : Hp) : Option (Int32 × Hp) :=
  if (lg_cmp l0 (0 : Int64)) < 0 then (rz 0 h) else (if (lg_cmp (UInt64.toInt64 (Int64.toUInt64 l0 >>> (Int64.toUInt64 (Int32.toInt64 ((4 : Int32) * l2)) &&& Int64.toUInt64 63))) (0 : Int64)) = 0 then (Rows_isPattern_20 N N l0 l2 0 h) else (rz 0 h))
def Rows_isRow_15 (N : Nat) : Nat → Int64 → Int32 → Int32 → Int32 → Hp → Option (Int32 × Hp)
  | 0, _, _, _, _, _ => none
  | n + 1, l0, l2, l3, l4, h =>
  if l2 ≤ l4 then (if l3 = (((1 : Int32) <<< ((l2 + (1 : Int32)) &&& 31)) - (2 : Int32)) then (rz 1 h) else (rz 0 h)) else (cl (Rows_digit N l0 l4 h) fun x2 h1 =>
  nm (l3 ||| ((1 : Int32) <<< (x2 &&& 31))) fun x3 =>
  nm (l4 + 1) fun x4 =>
  Rows_isRow_15 N n l0 l2 x3 x4 h1)
def Rows_isRow (N : Nat) (l0 : Int64) (l2 : Int32) (h : Hp) : Option (Int32 × Hp) :=
  cl (Rows_isPattern N l0 l2 h) fun x2 h1 =>
  if x2 = 0 then (rz 0 h1) else (Rows_isRow_15 N N l0 l2 0 0 h1)
def Rows_isChange (N : Nat) (l0 : Int32) (l1 : Int32) (h : Hp) : Option (Int32 × Hp) :=
  if l0 < 0 then (rz 0 h) else (if ((1 : Int32) <<< ((l1 - (1 : Int32)) &&& 31)) ≤ l0 then (rz 0 h) else (if (l0 &&& (l0 >>> ((1 : Int32) &&& 31))) = 0 then (rz 1 h) else (rz 0 h)))
def Jk_bitCount (N : Nat) (l0 : Int32) (h : Hp) : Option (Int32 × Hp) :=
  nm (l0 - ((UInt32.toInt32 (Int32.toUInt32 l0 >>> (Int32.toUInt32 (1 : Int32) &&& Int32.toUInt32 31))) &&& (1431655765 : Int32))) fun x1 =>
  nm ((x1 &&& (858993459 : Int32)) + ((UInt32.toInt32 (Int32.toUInt32 x1 >>> (Int32.toUInt32 (2 : Int32) &&& Int32.toUInt32 31))) &&& (858993459 : Int32))) fun x2 =>
  nm ((x2 + (UInt32.toInt32 (Int32.toUInt32 x2 >>> (Int32.toUInt32 (4 : Int32) &&& Int32.toUInt32 31)))) &&& (252645135 : Int32)) fun x3 =>
  nm (x3 + (UInt32.toInt32 (Int32.toUInt32 x3 >>> (Int32.toUInt32 (8 : Int32) &&& Int32.toUInt32 31)))) fun x4 =>
  nm (x4 + (UInt32.toInt32 (Int32.toUInt32 x4 >>> (Int32.toUInt32 (16 : Int32) &&& Int32.toUInt32 31)))) fun x5 =>
  some ((x5 &&& (63 : Int32)), h)
def Rows_numberOf_14 (N : Nat) : Nat → Int64 → Int32 → Int32 → Int32 → Int32 → Hp → Option (Int32 × Hp)
  | 0, _, _, _, _, _, _ => none
  | n + 1, l0, l2, l3, l4, l5, h =>
  if l2 ≤ l5 then (some (l3, h)) else (cl (Rows_digit N l0 l5 h) fun x2 h1 =>
  nm ((1 : Int32) <<< (x2 &&& 31)) fun x3 =>
  nm (l4 &&& (x3 ^^^ (-1 : Int32))) fun x4 =>
  cl (Jk_bitCount N (x4 &&& (x3 - (1 : Int32))) h1) fun x6 h5 =>
  nm ((l3 * (l2 - l5)) + x6) fun x7 =>
  nm (l5 + 1) fun x8 =>
  Rows_numberOf_14 N n l0 l2 x7 x4 x8 h5)
def Rows_numberOf (N : Nat) (l0 : Int64) (l2 : Int32) (h : Hp) : Option (Int32 × Hp) :=
  nm (((1 : Int32) <<< ((l2 + (1 : Int32)) &&& 31)) - (2 : Int32)) fun x1 =>
  Rows_numberOf_14 N N l0 l2 0 x1 0 h
def Rows_bellLeft_27 (N : Nat) (re4 : Int32 → Int32 → Int32 → Hp → Option (Int32 × Hp)) (l0 : Int32) (l2 : Int32) (l3 : Int32) (h : Hp) : Option (Int32 × Hp) :=
  nm (l3 + 1) fun x1 =>
  re4 l0 l2 x1 h
def Rows_bellLeft_4 (N : Nat) : Nat → Int32 → Int32 → Int32 → Hp → Option (Int32 × Hp)
  | 0, _, _, _, _ => none
  | n + 1, l0, l2, l3, h =>
  if 12 < l3 then (some (0, h)) else (if ((l0 >>> (l3 &&& 31)) &&& (1 : Int32)) = 0 then (Rows_bellLeft_27 N (Rows_bellLeft_4 N n) l0 l2 l3 h) else (if l2 = 0 then (some (l3, h)) else (nm (l2 + (-1)) fun x1 =>
  Rows_bellLeft_27 N (Rows_bellLeft_4 N n) l0 x1 l3 h)))
def Rows_bellLeft (N : Nat) (l0 : Int32) (l1 : Int32) (h : Hp) : Option (Int32 × Hp) :=
  Rows_bellLeft_4 N N l0 l1 1 h
def Rows_taken_14 (N : Nat) : Nat → Int64 → Int32 → Int64 → Int32 → Int32 → Hp → Option (Int64 × Hp)
  | 0, _, _, _, _, _, _ => none
  | n + 1, l0, l2, l3, l5, l6, h =>
  if l2 ≤ l6 then (some (l3, h)) else (cl (Rows_digit N l0 l6 h) fun x2 h1 =>
  cl (Rows_bellLeft N l5 x2 h1) fun x4 h3 =>
  nm (l3 ||| ((Int32.toInt64 x4) <<< (Int32.toInt64 ((4 : Int32) * l6) &&& 63))) fun x5 =>
  nm (l5 &&& (((1 : Int32) <<< (x4 &&& 31)) ^^^ (-1 : Int32))) fun x6 =>
  nm (l6 + 1) fun x7 =>
  Rows_taken_14 N n l0 l2 x5 x6 x7 h3)
def Rows_taken (N : Nat) (l0 : Int64) (l2 : Int32) (h : Hp) : Option (Int64 × Hp) :=
  nm (((1 : Int32) <<< ((l2 + (1 : Int32)) &&& 31)) - (2 : Int32)) fun x1 =>
  Rows_taken_14 N N l0 l2 0 x1 0 h
def Rows_rowOf_14 (N : Nat) : Nat → Int32 → Int64 → Int32 → Int32 → Hp → Option (Int64 × Hp)
  | 0, _, _, _, _, _ => none
  | n + 1, l1, l2, l4, l5, h =>
  if l1 < l5 then (if l4 = 0 then (cl (Rows_taken N l2 l1 h) fun x2 h1 =>
  some (x2, h1)) else (some (0, h))) else (nz l5 <|
  nm ((l2 <<< (Int32.toInt64 (4 : Int32) &&& 63)) ||| (Int32.toInt64 (l4 - l4 / l5 * l5))) fun x3 =>
  nz l5 <|
  nm (l4 / l5) fun x4 =>
  nm (l5 + 1) fun x5 =>
  Rows_rowOf_14 N n l1 x3 x4 x5 h)
def Rows_rowOf (N : Nat) (l0 : Int32) (l1 : Int32) (h : Hp) : Option (Int64 × Hp) :=
  if 0 ≤ l0 then (Rows_rowOf_14 N N l1 0 l0 1 h) else (some (0, h))
def Rows_times_6 (N : Nat) : Nat → Int64 → Int64 → Int32 → Int64 → Int32 → Hp → Option (Int64 × Hp)
  | 0, _, _, _, _, _, _ => none
  | n + 1, l0, l2, l4, l5, l7, h =>
  if l4 ≤ l7 then (some (l5, h)) else (cl (Rows_digit N l2 l7 h) fun x2 h1 =>
  cl (Rows_digit N l0 (x2 - (1 : Int32)) h1) fun x4 h3 =>
  nm (Int32.toInt64 x4) fun x5 =>
  nm (l5 ||| (x5 <<< (Int32.toInt64 ((4 : Int32) * l7) &&& 63))) fun x6 =>
  nm (l7 + 1) fun x7 =>
  Rows_times_6 N n l0 l2 l4 x6 x7 h3)
def Rows_times (N : Nat) (l0 : Int64) (l2 : Int64) (l4 : Int32) (h : Hp) : Option (Int64 × Hp) :=
  Rows_times_6 N N l0 l2 l4 0 0 h
def Rows_inverseOf_5 (N : Nat) : Nat → Int64 → Int32 → Int64 → Int32 → Hp → Option (Int64 × Hp)
  | 0, _, _, _, _, _ => none
  | n + 1, l0, l2, l3, l5, h =>
  if l2 ≤ l5 then (some (l3, h)) else (cl (Rows_digit N l0 l5 h) fun x2 h1 =>
  nm (l3 ||| (((Int32.toInt64 l5) + (1 : Int64)) <<< (Int32.toInt64 ((4 : Int32) * (x2 - (1 : Int32))) &&& 63))) fun x3 =>
  nm (l5 + 1) fun x4 =>
  Rows_inverseOf_5 N n l0 l2 x3 x4 h1)
def Rows_inverseOf (N : Nat) (l0 : Int64) (l2 : Int32) (h : Hp) : Option (Int64 × Hp) :=
  Rows_inverseOf_5 N N l0 l2 0 0 h
def Rows_orderOf_11 (N : Nat) : Nat → Int64 → Int32 → Int64 → Int64 → Int32 → Hp → Option (Int32 × Hp)
  | 0, _, _, _, _, _, _ => none
  | n + 1, l0, l2, l3, l5, l7, h =>
  if (lg_cmp l5 l3) = 0 then (some (l7, h)) else (if 60 ≤ l7 then (some (l7, h)) else (cl (Rows_times N l5 l0 l2 h) fun x2 h1 =>
  nm (l7 + 1) fun x3 =>
  Rows_orderOf_11 N n l0 l2 l3 x2 x3 h1))
def Rows_orderOf (N : Nat) (l0 : Int64) (l2 : Int32) (h : Hp) : Option (Int32 × Hp) :=
  cl (Rows_rounds N l2 h) fun x2 h1 =>
  Rows_orderOf_11 N N l0 l2 x2 l0 1 h1
def Rows_closedUp_54 (N : Nat) (re8 : Int64 → Int32 → Int64 → Int32 → Int32 → Hp → Option (Int64 × Hp)) (l0 : Int64) (l2 : Int32) (l3 : Int64) (l5 : Int32) (l6 : Int32) (h : Hp) : Option (Int64 × Hp) :=
  nm (l6 + 1) fun x1 =>
  re8 l0 l2 l3 l5 x1 h
def Rows_closedUp_8 (N : Nat) : Nat → Int64 → Int32 → Int64 → Int32 → Int32 → Hp → Option (Int64 × Hp)
  | 0, _, _, _, _, _, _ => none
  | n + 1, l0, l2, l3, l5, l6, h =>
  if 12 ≤ l6 then (some (l3, h)) else (cl (Rows_digit N l0 l6 h) fun x2 h1 =>
  nm (Int32.toInt64 x2) fun x3 =>
  if (lg_cmp x3 (0 : Int64)) ≤ 0 then (Rows_closedUp_54 N (Rows_closedUp_8 N n) l0 l2 l3 l5 l6 h1) else (if ((l2 >>> (((Int64.toInt32 x3) - (1 : Int32)) &&& 31)) &&& (1 : Int32)) = 0 then (Rows_closedUp_54 N (Rows_closedUp_8 N n) l0 l2 l3 l5 l6 h1) else (nm (l3 ||| (x3 <<< (Int32.toInt64 l5 &&& 63))) fun x4 =>
  nm (l5 + 4) fun x5 =>
  Rows_closedUp_54 N (Rows_closedUp_8 N n) l0 l2 x4 x5 l6 h1)))
def Rows_closedUp (N : Nat) (l0 : Int64) (l2 : Int32) (h : Hp) : Option (Int64 × Hp) :=
  Rows_closedUp_8 N N l0 l2 0 0 0 h
def Search_init (N : Nat) (l0 : Option Nat) (h : Hp) : Option (Unit × Hp) :=
  kn l0 <|
  na 13 90 h fun x1 h2 =>
  pr [5] 0 l0 x1 h2 fun h3 =>
  na 18 90 h3 fun x4 h5 =>
  pr [5] 1 l0 x4 h5 fun h6 =>
  na 17 1080 h6 fun x7 h8 =>
  pr [5] 8 l0 x7 h8 fun h9 =>
  na 13 1080 h9 fun x10 h11 =>
  pr [5] 9 l0 x10 h11 fun h12 =>
  nw 4 h12 fun x13 h14 =>
  cl (ck [4] x13 h14 (Rows_init N x13 1201 h14)) fun _ h15 =>
  pr [5] 10 l0 x13 h15 fun h16 =>
  na 13 1201 h16 fun x17 h18 =>
  pr [5] 11 l0 x17 h18 fun h19 =>
  na 13 12 h19 fun x20 h21 =>
  pr [5] 12 l0 x20 h21 fun h22 =>
  na 13 12 h22 fun x23 h24 =>
  pr [5] 13 l0 x23 h24 fun h25 =>
  pi [5] 17 l0 (-1) h25 fun h26 =>
  some ((), h26)
def Search_forget (N : Nat) (l0 : Option Nat) (h : Hp) : Option (Unit × Hp) :=
  pi [5] 17 l0 (-1) h fun h1 =>
  pi [5] 18 l0 0 h1 fun h2 =>
  some ((), h2)
def Jk_fill_5 (N : Nat) : Nat → Option Nat → Int32 → Int32 → Int32 → Hp → Option (Unit × Hp)
  | 0, _, _, _, _, _ => none
  | n + 1, l0, l1, l2, l3, h =>
  if l3 ≤ l2 then (some ((), h)) else (si l0 l2 l1 h fun h1 =>
  nm (l2 + 1) fun x2 =>
  Jk_fill_5 N n l0 l1 x2 l3 h1)
def Jk_fill (N : Nat) (l0 : Option Nat) (l1 : Int32) (h : Hp) : Option (Unit × Hp) :=
  al l0 h fun x1 =>
  Jk_fill_5 N N l0 l1 0 x1 h
def Search_openPlace (N : Nat) (l0 : Option Nat) (h : Hp) : Option (Unit × Hp) :=
  gr [5] 12 l0 h fun x1 =>
  gi [5] 14 l0 h fun x2 =>
  si x1 x2 (-1) h fun h3 =>
  gr [5] 13 l0 h3 fun x4 =>
  gi [5] 14 l0 h3 fun x5 =>
  gr [5] 10 l0 h3 fun x6 =>
  gi [4] 3 x6 h3 fun x7 =>
  si x4 x5 x7 h3 fun h8 =>
  pr [5] 15 l0 (none : Option Nat) h8 fun h9 =>
  some ((), h9)
def Search_begin (N : Nat) (l0 : Option Nat) (l1 : Int32) (l2 : Int32) (l3 : Int32) (l4 : Int64) (h : Hp) : Option (Unit × Hp) :=
  pi [5] 3 l0 l2 h fun h1 =>
  pi [5] 4 l0 l3 h1 fun h2 =>
  pl [5] 5 l0 l4 h2 fun h3 =>
  cl (Rows_toldDigits N l4 h3) fun x5 h4 =>
  pl [5] 6 l0 x5 h4 fun h6 =>
  cl (Rows_rounds N l1 h6) fun x8 h7 =>
  pl [5] 7 l0 x8 h7 fun h9 =>
  pi [5] 2 l0 0 h9 fun h10 =>
  gr [5] 9 l0 h10 fun x11 =>
  cl (Jk_fill N x11 0 h10) fun _ h12 =>
  gr [5] 10 l0 h12 fun x13 =>
  cl (ds [(4, Rows_keepFirst N x13 0 h12)] x13 h12) fun _ h14 =>
  gr [5] 10 l0 h14 fun x15 =>
  gl [5] 7 l0 h14 fun x16 =>
  cl (ds [(4, Rows_add N x15 x16 h14)] x15 h14) fun _ h17 =>
  pi [5] 14 l0 0 h17 fun h18 =>
  cl (ds [(5, Search_openPlace N l0 h18)] l0 h18) fun _ h19 =>
  pi [5] 17 l0 2 h19 fun h20 =>
  pi [5] 18 l0 0 h20 fun h21 =>
  pz [5] 19 l0 0 h21 fun h22 =>
  some ((), h22)
def Search_offer (N : Nat) (l0 : Option Nat) (l1 : Option Nat) (l2 : Int32) (h : Hp) : Option (Unit × Hp) :=
  gi [5] 2 l0 h fun x1 =>
  if 90 ≤ x1 then (some ((), h)) else (gr [5] 0 l0 h fun x2 =>
  gi [5] 2 l0 h fun x3 =>
  si x2 x3 l2 h fun h4 =>
  gr [5] 1 l0 h4 fun x5 =>
  gi [5] 2 l0 h4 fun x6 =>
  sr 18 [1, 2, 3, 6, 7, 10] x5 x6 l1 h4 fun h7 =>
  gi [5] 2 l0 h7 fun x8 =>
  pi [5] 2 l0 (x8 + (1 : Int32)) h7 fun h9 =>
  some ((), h9))
def Search_isThere (N : Nat) (l0 : Option Nat) (h : Hp) : Option (Int32 × Hp) :=
  gi [5] 17 l0 h fun x1 =>
  if x1 = (-1) then (rz 0 h) else (rz 1 h)
def Search_itemFound_20 (N : Nat)  (h : Hp) : Option (Int32 × Hp) :=
  some ((-1), h)
def Search_itemFound (N : Nat) (l0 : Option Nat) (l1 : Int32) (h : Hp) : Option (Int32 × Hp) :=
  gi [5] 17 l0 h fun x1 =>
  if x1 = 1 then (if l1 < 0 then (Search_itemFound_20 N  h) else (gi [5] 3 l0 h fun x2 =>
  if l1 < x2 then (gr [5] 0 l0 h fun x3 =>
  gr [5] 12 l0 h fun x4 =>
  li 13 x4 l1 h fun x5 =>
  li 13 x3 x5 h fun x6 =>
  some (x6, h)) else (Search_itemFound_20 N  h))) else (Search_itemFound_20 N  h)
def Search_leaveItem (N : Nat) (l0 : Option Nat) (h : Hp) : Option (Unit × Hp) :=
  gr [5] 10 l0 h fun x1 =>
  gr [5] 13 l0 h fun x2 =>
  gi [5] 14 l0 h fun x3 =>
  li 13 x2 x3 h fun x4 =>
  cl (ds [(4, Rows_keepFirst N x1 x4 h)] x1 h) fun _ h5 =>
  pr [5] 15 l0 (none : Option Nat) h5 fun h6 =>
  some ((), h6)
def Search_ringRow_171 (N : Nat) (l0 : Option Nat) (h : Hp) : Option (Unit × Hp) :=
  cl (ds [(5, Search_leaveItem N l0 h)] l0 h) fun _ h1 =>
  some ((), h1)
def Search_ringRow_155 (N : Nat) (l0 : Option Nat) (l2 : Int32) (l3 : Int64) (l5 : Int32) (l6 : Int32) (l7 : Int32) (h : Hp) : Option (Unit × Hp) :=
  if l7 = 0 then (gr [5] 10 l0 h fun x1 =>
  cl (ds [(4, Rows_indexOf N x1 l3 h)] x1 h) fun x3 h2 =>
  if x3 < 0 then (gr [5] 11 l0 h2 fun x4 =>
  si x4 l2 l5 h2 fun h5 =>
  gr [5] 10 l0 h5 fun x6 =>
  cl (ds [(4, Rows_add N x6 l3 h5)] x6 h5) fun _ h7 =>
  if l6 = 0 then (some ((), h7)) else (gi [5] 14 l0 h7 fun x8 =>
  pi [5] 14 l0 (x8 + (1 : Int32)) h7 fun h9 =>
  cl (ds [(5, Search_openPlace N l0 h9)] l0 h9) fun _ h10 =>
  some ((), h10))) else (Search_ringRow_171 N l0 h2)) else (Search_ringRow_171 N l0 h)
def Search_ringRow_122 (N : Nat) (l0 : Option Nat) (l2 : Int32) (l3 : Int64) (l5 : Int32) (l6 : Int32) (u0 : Int32) (h : Hp) : Option (Unit × Hp) :=
  if u0 = 0 then (Search_ringRow_155 N l0 l2 l3 l5 l6 u0 h) else (gl [5] 7 l0 h fun x1 =>
  if (lg_cmp l3 x1) = 0 then (gi [5] 4 l0 h fun x2 =>
  if l5 < x2 then (Search_ringRow_155 N l0 l2 l3 l5 l6 u0 h) else (pi [5] 17 l0 1 h fun h3 =>
  some ((), h3))) else (Search_ringRow_155 N l0 l2 l3 l5 l6 u0 h))
def Search_ringRow_121 (N : Nat) (l0 : Option Nat) (l2 : Int32) (l3 : Int64) (l5 : Int32) (l6 : Int32) (h : Hp) : Option (Unit × Hp) :=
  Search_ringRow_122 N l0 l2 l3 l5 l6 0 h
def Search_ringRow_97 (N : Nat) (l0 : Option Nat) (l2 : Int32) (l3 : Int64) (l5 : Int32) (u0 : Int32) (h : Hp) : Option (Unit × Hp) :=
  if u0 = 0 then (Search_ringRow_121 N l0 l2 l3 l5 u0 h) else (gi [5] 14 l0 h fun x1 =>
  gi [5] 3 l0 h fun x2 =>
  if x1 = (x2 - (1 : Int32)) then (Search_ringRow_122 N l0 l2 l3 l5 u0 1 h) else (Search_ringRow_121 N l0 l2 l3 l5 u0 h))
def Search_ringRow_78 (N : Nat) (l0 : Option Nat) (l1 : Option Nat) (l2 : Int32) (l3 : Int64) (u0 : Int32) (u1 : Int32) (h : Hp) : Option (Unit × Hp) :=
  nm (u0 + u1) fun x1 =>
  gi [5] 16 l0 h fun x2 =>
  gi [0] 1 l1 h fun x3 =>
  if x2 < x3 then (Search_ringRow_97 N l0 l2 l3 x1 0 h) else (Search_ringRow_97 N l0 l2 l3 x1 1 h)
def Search_ringRow (N : Nat) (l0 : Option Nat) (l1 : Option Nat) (h : Hp) : Option (Unit × Hp) :=
  gr [5] 10 l0 h fun x1 =>
  gi [4] 3 x1 h fun x2 =>
  gr [5] 10 l0 h fun x3 =>
  cl (ds [(4, Rows_codeAt N x3 (x2 - (1 : Int32)) h)] x3 h) fun x5 h4 =>
  gr [0] 0 l1 h4 fun x6 =>
  gi [5] 16 l0 h4 fun x7 =>
  li 13 x6 x7 h4 fun x8 =>
  cl (Rows_changed N x5 x8 h4) fun x10 h9 =>
  gi [5] 16 l0 h9 fun x11 =>
  pi [5] 16 l0 (x11 + (1 : Int32)) h9 fun h12 =>
  gi [5] 18 l0 h12 fun x13 =>
  pi [5] 18 l0 (x13 + (1 : Int32)) h12 fun h14 =>
  gr [5] 11 l0 h14 fun x15 =>
  li 13 x15 (x2 - (1 : Int32)) h14 fun x16 =>
  gl [5] 6 l0 h14 fun x17 =>
  gl [5] 5 l0 h14 fun x18 =>
  if (lg_cmp (x10 &&& x17) x18) = 0 then (Search_ringRow_78 N l0 l1 x2 x10 x16 1 h14) else (Search_ringRow_78 N l0 l1 x2 x10 x16 0 h14)
def Search_takesNextChoice (N : Nat) (l0 : Option Nat) (h : Hp) : Option (Int32 × Hp) :=
  gr [5] 12 l0 h fun x1 =>
  gi [5] 14 l0 h fun x2 =>
  li 13 x1 x2 h fun x3 =>
  si x1 x2 (x3 + (1 : Int32)) h fun h4 =>
  gr [5] 12 l0 h4 fun x5 =>
  gi [5] 14 l0 h4 fun x6 =>
  li 13 x5 x6 h4 fun x7 =>
  gi [5] 2 l0 h4 fun x8 =>
  if x8 ≤ x7 then (gi [5] 14 l0 h4 fun x9 =>
  if x9 ≤ 0 then (pi [5] 17 l0 0 h4 fun h10 =>
  rz 0 h10) else (gi [5] 14 l0 h4 fun x11 =>
  pi [5] 14 l0 (x11 - (1 : Int32)) h4 fun h12 =>
  cl (ds [(5, Search_leaveItem N l0 h12)] l0 h12) fun _ h13 =>
  rz 0 h13)) else (rz 1 h4)
def Spliced_partOf (N : Nat) (l0 : Option Nat) (l1 : Int32) (h : Hp) : Option (Option Nat × Hp) :=
  gi [6] 7 l0 h fun x1 =>
  if x1 = 0 then (some ((none : Option Nat), h)) else (gr [6] 6 l0 h fun x2 =>
  gi [6] 7 l0 h fun x3 =>
  nz x3 <|
  lr 18 x2 (l1 - l1 / x3 * x3) h fun x4 =>
  some (x4, h))
def Surprise_calledOf_71 (N : Nat) (l0 : Option Nat) (l1 : Int32) (l2 : Int32) (l3 : Option Nat) (l4 : Int32) (h : Hp) : Option (Int32 × Hp) :=
  cl (ds [(7, Plain_plainCalled N l0 l1 l2 l4 l3 h)] l0 h) fun x2 h1 =>
  some (x2, h1)
def Surprise_calledOf (N : Nat) (l0 : Option Nat) (l1 : Int32) (l2 : Int32) (l3 : Option Nat) (h : Hp) : Option (Int32 × Hp) :=
  gr [7] 1 l0 h fun x1 =>
  li 13 x1 10 h fun x2 =>
  si x1 10 (x2 + (1 : Int32)) h fun h3 =>
  gr [7] 3 l0 h3 fun x4 =>
  li 13 x4 l2 h3 fun x5 =>
  if l2 = 0 then (Surprise_calledOf_71 N l0 l1 l2 l3 x5 h3) else (cl (ds [(7, Plain_leadOf N l0 l1 h3)] l0 h3) fun x7 h6 =>
  gi [0] 2 x7 h6 fun x8 =>
  if x8 = 0 then (gi [0] 1 x7 h6 fun x9 =>
  if x5 < x9 then (Surprise_calledOf_71 N l0 l1 l2 l3 x5 h6) else (gi [0] 1 x7 h6 fun x10 =>
  if x10 ≤ 0 then (Surprise_calledOf_71 N l0 l1 l2 l3 x5 h6) else (gi [0] 1 x7 h6 fun x11 =>
  nm (x11 - (1 : Int32)) fun x12 =>
  Surprise_calledOf_71 N l0 l1 l2 l3 x12 h6))) else (gi [0] 2 x7 h6 fun x13 =>
  some (x13, h6)))
def Spliced_calledOf (N : Nat) (l0 : Option Nat) (l1 : Int32) (l2 : Int32) (l3 : Option Nat) (h : Hp) : Option (Int32 × Hp) :=
  gr [6] 1 l0 h fun x1 =>
  li 13 x1 16 h fun x2 =>
  si x1 16 (x2 + (1 : Int32)) h fun h3 =>
  cl (ds [(6, Spliced_partOf N l0 l1 h3)] l0 h3) fun x5 h4 =>
  if x5 = none then (some (7, h4)) else (cl (ds [(1, Little_calledOf N x5 l1 l2 l3 h4), (2, Plain_calledOf N x5 l1 l2 l3 h4), (3, Principle_calledOf N x5 l1 l2 l3 h4), (7, Surprise_calledOf N x5 l1 l2 l3 h4), (10, Plain_calledOf N x5 l1 l2 l3 h4)] x5 h4) fun x7 h6 =>
  some (x7, h6))
def Search_lookAtItem_109 (N : Nat) (l0 : Option Nat) (u0 : Option Nat) (u1 : Option Nat) (h : Hp) : Option (Unit × Hp) :=
  pr [5] 15 u0 u1 h fun h1 =>
  pi [5] 16 l0 0 h1 fun h2 =>
  some ((), h2)
def Search_lookAtItem_92 (N : Nat) (l0 : Option Nat) (l3 : Int32) (l4 : Option Nat) (h : Hp) : Option (Unit × Hp) :=
  gr [5] 9 l0 h fun x1 =>
  li 13 x1 l3 h fun x2 =>
  if x2 = 1 then (Search_lookAtItem_109 N l0 l0 l4 h) else (Search_lookAtItem_109 N l0 l0 (none : Option Nat) h)
def Search_lookAtItem_91 (N : Nat) (l0 : Option Nat) (l3 : Int32) (l4 : Option Nat) (u0 : Option Nat) (u1 : Int32) (u2 : Int32) (h : Hp) : Option (Unit × Hp) :=
  si u0 u1 u2 h fun h1 =>
  Search_lookAtItem_92 N l0 l3 l4 h1
def Search_lookAtItem_90 (N : Nat) (l0 : Option Nat) (l3 : Int32) (l4 : Option Nat) (u0 : Option Nat) (u1 : Int32) (h : Hp) : Option (Unit × Hp) :=
  Search_lookAtItem_91 N l0 l3 l4 u0 u1 2 h
def Search_lookAtItem_40 (N : Nat) (l0 : Option Nat) (l1 : Int32) (l2 : Option Nat) (l3 : Int32) (l4 : Option Nat) (h : Hp) : Option (Unit × Hp) :=
  gr [5] 9 l0 h fun x1 =>
  li 13 x1 l3 h fun x2 =>
  if x2 = 0 then (if l2 = none then (Search_lookAtItem_92 N l0 l3 l4 h) else (gi [5] 14 l0 h fun x3 =>
  nz 3 <|
  cl (ds [(1, Little_calledOf N l2 x3 (l1 - l1 / 3 * 3) l4 h), (2, Plain_calledOf N l2 x3 (l1 - l1 / 3 * 3) l4 h), (3, Principle_calledOf N l2 x3 (l1 - l1 / 3 * 3) l4 h), (6, Spliced_calledOf N l2 x3 (l1 - l1 / 3 * 3) l4 h), (7, Surprise_calledOf N l2 x3 (l1 - l1 / 3 * 3) l4 h), (10, Plain_calledOf N l2 x3 (l1 - l1 / 3 * 3) l4 h)] l2 h) fun x5 h4 =>
  gr [5] 9 l0 h4 fun x6 =>
  if x5 = 0 then (gi [0] 1 l4 h4 fun x7 =>
  if x7 ≤ 0 then (Search_lookAtItem_90 N l0 l3 l4 x6 l3 h4) else (Search_lookAtItem_91 N l0 l3 l4 x6 l3 1 h4)) else (Search_lookAtItem_90 N l0 l3 l4 x6 l3 h4))) else (Search_lookAtItem_92 N l0 l3 l4 h)
def Search_lookAtItem (N : Nat) (l0 : Option Nat) (l1 : Int32) (l2 : Option Nat) (h : Hp) : Option (Unit × Hp) :=
  gi [5] 14 l0 h fun x1 =>
  nm ((x1 * (90 : Int32)) + l1) fun x2 =>
  gr [5] 8 l0 h fun x3 =>
  lr 17 x3 x2 h fun x4 =>
  if x4 = none then (nw 0 h fun x5 h6 =>
  cl (ck [0] x5 h6 (Lead_init N x5 h6)) fun _ h7 =>
  gr [5] 8 l0 h7 fun x8 =>
  sr 17 [0] x8 x2 x5 h7 fun h9 =>
  Search_lookAtItem_40 N l0 l1 l2 x2 x5 h9) else (Search_lookAtItem_40 N l0 l1 l2 x2 x4 h)
def Search_seek_92 (N : Nat) (re4 : Option Nat → Int32 → Int32 → Hp → Option (Int32 × Hp)) (l0 : Option Nat) (l2 : Int32) (l3 : Int32) (h : Hp) : Option (Int32 × Hp) :=
  nm (l3 + 1) fun x1 =>
  re4 l0 l2 x1 h
def Search_seek_32 (N : Nat) (re4 : Option Nat → Int32 → Int32 → Hp → Option (Int32 × Hp)) (l0 : Option Nat) (l2 : Int32) (l3 : Int32) (h : Hp) : Option (Int32 × Hp) :=
  gr [5] 15 l0 h fun x1 =>
  if x1 = none then (cl (ds [(5, Search_takesNextChoice N l0 h)] l0 h) fun x3 h2 =>
  if x3 = 0 then (Search_seek_92 N re4 l0 l2 l3 h2) else (gr [5] 0 l0 h2 fun x4 =>
  gr [5] 12 l0 h2 fun x5 =>
  gi [5] 14 l0 h2 fun x6 =>
  li 13 x5 x6 h2 fun x7 =>
  li 13 x4 x7 h2 fun x8 =>
  gr [5] 1 l0 h2 fun x9 =>
  gr [5] 12 l0 h2 fun x10 =>
  gi [5] 14 l0 h2 fun x11 =>
  li 13 x10 x11 h2 fun x12 =>
  lr 18 x9 x12 h2 fun x13 =>
  cl (ds [(5, Search_lookAtItem N l0 x8 x13 h2)] l0 h2) fun _ h14 =>
  Search_seek_92 N re4 l0 l2 l3 h14)) else (nm (l2 + (-1)) fun x15 =>
  gr [5] 15 l0 h fun x16 =>
  cl (ds [(5, Search_ringRow N l0 x16 h)] l0 h) fun _ h17 =>
  Search_seek_92 N re4 l0 x15 l3 h17)
def Search_seek_98 (N : Nat) (l0 : Option Nat) (h : Hp) : Option (Int32 × Hp) :=
  gi [5] 17 l0 h fun x1 =>
  some (x1, h)
def Search_seek_4 (N : Nat) : Nat → Option Nat → Int32 → Int32 → Hp → Option (Int32 × Hp)
  | 0, _, _, _, _ => none
  | n + 1, l0, l2, l3, h =>
  if 1000000 ≤ l3 then (Search_seek_98 N l0 h) else (gi [5] 17 l0 h fun x1 =>
  if x1 = 2 then (gr [5] 15 l0 h fun x2 =>
  if x2 = none then (Search_seek_32 N (Search_seek_4 N n) l0 l2 l3 h) else (if l2 = 0 then (Search_seek_98 N l0 h) else (Search_seek_32 N (Search_seek_4 N n) l0 l2 l3 h))) else (Search_seek_98 N l0 h))
def Search_seek (N : Nat) (l0 : Option Nat) (l1 : Int32) (h : Hp) : Option (Int32 × Hp) :=
  Search_seek_4 N N l0 l1 0 h
def Spliced_init (N : Nat) (l0 : Option Nat) (l1 : Int32) (l2 : Option Nat) (h : Hp) : Option (Unit × Hp) :=
  cl (ck [6] l0 h (Meth_init N l0 l1 l2 h)) fun _ h1 =>
  na 18 6 h1 fun x2 h3 =>
  pr [6] 6 l0 x2 h3 fun h4 =>
  gr [6] 2 l0 h4 fun x5 =>
  pi [0] 2 x5 7 h4 fun h6 =>
  some ((), h6)
def Spliced_leadOf (N : Nat) (l0 : Option Nat) (l1 : Int32) (h : Hp) : Option (Option Nat × Hp) :=
  gr [6] 1 l0 h fun x1 =>
  li 13 x1 15 h fun x2 =>
  si x1 15 (x2 + (1 : Int32)) h fun h3 =>
  cl (ds [(6, Spliced_partOf N l0 l1 h3)] l0 h3) fun x5 h4 =>
  if x5 = none then (gr [6] 2 l0 h4 fun x8 =>
  some (x8, h4)) else (cl (ds [(1, Plain_leadOf N x5 l1 h4), (2, Plain_leadOf N x5 l1 h4), (3, Principle_leadOf N x5 l1 h4), (7, Plain_leadOf N x5 l1 h4), (10, Plain_leadOf N x5 l1 h4)] x5 h4) fun x7 h6 =>
  some (x7, h6))
def Treble_trebleIsAsOftenAtEachPlace_75 (N : Nat) (re47 : Option Nat → Option Nat → Int32 → Int32 → Hp → Option (Int32 × Hp)) (l0 : Option Nat) (l2 : Option Nat) (l3 : Int32) (l4 : Int32) (h : Hp) : Option (Int32 × Hp) :=
  nm (l4 + 1) fun x1 =>
  re47 l0 l2 l3 x1 h
def Treble_trebleIsAsOftenAtEachPlace_47 (N : Nat) : Nat → Option Nat → Option Nat → Int32 → Int32 → Hp → Option (Int32 × Hp)
  | 0, _, _, _, _, _ => none
  | n + 1, l0, l2, l3, l4, h =>
  gi [7, 10] 0 l0 h fun x1 =>
  if x1 < l4 then (rz 1 h) else (li 13 l2 l4 h fun x2 =>
  if x2 = 0 then (Treble_trebleIsAsOftenAtEachPlace_75 N (Treble_trebleIsAsOftenAtEachPlace_47 N n) l0 l2 l3 l4 h) else (li 13 l2 l4 h fun x3 =>
  li 13 l2 l3 h fun x4 =>
  if x3 = x4 then (Treble_trebleIsAsOftenAtEachPlace_75 N (Treble_trebleIsAsOftenAtEachPlace_47 N n) l0 l2 l3 l4 h) else (rz 0 h)))
def Treble_trebleIsAsOftenAtEachPlace_10 (N : Nat) : Nat → Option Nat → Option Nat → Option Nat → Int32 → Int32 → Hp → Option (Int32 × Hp)
  | 0, _, _, _, _, _, _ => none
  | n + 1, l0, l1, l2, l3, l4, h =>
  gi [0] 1 l1 h fun x1 =>
  if x1 ≤ l4 then (Treble_trebleIsAsOftenAtEachPlace_47 N N l0 l2 l3 1 h) else (gr [0] 0 l1 h fun x2 =>
  li 13 x2 l4 h fun x3 =>
  cl (Meth_placeBehind N l3 x3 h) fun x5 h4 =>
  li 13 l2 x5 h4 fun x6 =>
  si l2 x5 (x6 + (1 : Int32)) h4 fun h7 =>
  nm (l4 + 1) fun x8 =>
  Treble_trebleIsAsOftenAtEachPlace_10 N n l0 l1 l2 x5 x8 h7)
def Treble_trebleIsAsOftenAtEachPlace (N : Nat) (l0 : Option Nat) (l1 : Option Nat) (h : Hp) : Option (Int32 × Hp) :=
  na 13 13 h fun x1 h2 =>
  Treble_trebleIsAsOftenAtEachPlace_10 N N l0 l1 x1 1 0 h2
def Treble_judged (N : Nat) (l0 : Option Nat) (h : Hp) : Option (Int32 × Hp) :=
  gr [7, 10] 1 l0 h fun x1 =>
  li 13 x1 8 h fun x2 =>
  si x1 8 (x2 + (1 : Int32)) h fun h3 =>
  cl (ck [7, 10] l0 h3 (Plain_judged N l0 h3)) fun x5 h4 =>
  if 0 ≤ x5 then (cl (ds [(7, Plain_leadOf N l0 0 h4), (10, Plain_leadOf N l0 0 h4)] l0 h4) fun x7 h6 =>
  cl (ds [(7, Treble_trebleIsAsOftenAtEachPlace N l0 x7 h6), (10, Treble_trebleIsAsOftenAtEachPlace N l0 x7 h6)] l0 h6) fun x9 h8 =>
  if x5 = 1 then (if x9 = 0 then (some (0, h8)) else (some (1, h8))) else (some (0, h8))) else (some (x5, h4))
def Surprise_hasInnerPlace (N : Nat) (l0 : Option Nat) (l1 : Int32) (h : Hp) : Option (Int32 × Hp) :=
  nm (l1 ||| (l1 <<< ((1 : Int32) &&& 31))) fun x1 =>
  gi [7] 0 l0 h fun x2 =>
  nm (((1 : Int32) <<< ((x2 - (1 : Int32)) &&& 31)) - (2 : Int32)) fun x3 =>
  if (x3 &&& (x1 ^^^ (-1 : Int32))) = 0 then (rz 0 h) else (rz 1 h)
def Surprise_hasPlacesWhereTrebleCrosses_56 (N : Nat) (re4 : Option Nat → Option Nat → Int32 → Int32 → Hp → Option (Int32 × Hp)) (l0 : Option Nat) (l1 : Option Nat) (l3 : Int32) (l4 : Int32) (h : Hp) : Option (Int32 × Hp) :=
  nm (l3 + 1) fun x1 =>
  re4 l0 l1 l4 x1 h
def Surprise_hasPlacesWhereTrebleCrosses_4 (N : Nat) : Nat → Option Nat → Option Nat → Int32 → Int32 → Hp → Option (Int32 × Hp)
  | 0, _, _, _, _, _ => none
  | n + 1, l0, l1, l2, l3, h =>
  gi [0] 1 l1 h fun x1 =>
  if x1 ≤ l3 then (rz 1 h) else (gr [0] 0 l1 h fun x2 =>
  li 13 x2 l3 h fun x3 =>
  cl (Meth_placeBehind N l2 x3 h) fun x5 h4 =>
  if x5 = l2 then (Surprise_hasPlacesWhereTrebleCrosses_56 N (Surprise_hasPlacesWhereTrebleCrosses_4 N n) l0 l1 l3 x5 h4) else (nz 2 <|
  if ((jmin l2 x5) - (jmin l2 x5) / 2 * 2) = 0 then (gr [0] 0 l1 h4 fun x6 =>
  li 13 x6 l3 h4 fun x7 =>
  cl (ds [(7, Surprise_hasInnerPlace N l0 x7 h4)] l0 h4) fun x9 h8 =>
  if x9 = 0 then (rz 0 h8) else (Surprise_hasPlacesWhereTrebleCrosses_56 N (Surprise_hasPlacesWhereTrebleCrosses_4 N n) l0 l1 l3 x5 h8)) else (Surprise_hasPlacesWhereTrebleCrosses_56 N (Surprise_hasPlacesWhereTrebleCrosses_4 N n) l0 l1 l3 x5 h4)))
def Surprise_hasPlacesWhereTrebleCrosses (N : Nat) (l0 : Option Nat) (l1 : Option Nat) (h : Hp) : Option (Int32 × Hp) :=
  Surprise_hasPlacesWhereTrebleCrosses_4 N N l0 l1 1 0 h
def Surprise_judged (N : Nat) (l0 : Option Nat) (h : Hp) : Option (Int32 × Hp) :=
  gr [7] 1 l0 h fun x1 =>
  li 13 x1 11 h fun x2 =>
  si x1 11 (x2 + (1 : Int32)) h fun h3 =>
  cl (ck [7] l0 h3 (Treble_judged N l0 h3)) fun x5 h4 =>
  if 0 ≤ x5 then (cl (ds [(7, Plain_leadOf N l0 0 h4)] l0 h4) fun x7 h6 =>
  cl (ds [(7, Surprise_hasPlacesWhereTrebleCrosses N l0 x7 h6)] l0 h6) fun x9 h8 =>
  if x5 = 1 then (if x9 = 0 then (some (0, h8)) else (some (1, h8))) else (some (0, h8))) else (some (x5, h4))
def Spliced_judged_44 (N : Nat) (re16 : Option Nat → Int32 → Int32 → Hp → Option (Int32 × Hp)) (l0 : Option Nat) (l2 : Int32) (u0 : Int32) (h : Hp) : Option (Int32 × Hp) :=
  if u0 = 1 then (nm (l2 + 1) fun x1 =>
  re16 l0 u0 x1 h) else (some (u0, h))
def Spliced_judged_16 (N : Nat) : Nat → Option Nat → Int32 → Int32 → Hp → Option (Int32 × Hp)
  | 0, _, _, _, _ => none
  | n + 1, l0, l1, l2, h =>
  gi [6] 7 l0 h fun x1 =>
  if x1 ≤ l2 then (some (l1, h)) else (gr [6] 6 l0 h fun x2 =>
  lr 18 x2 l2 h fun x3 =>
  if x3 = none then (Spliced_judged_44 N (Spliced_judged_16 N n) l0 l2 (-4) h) else (cl (ds [(1, Little_judged N x3 h), (2, Plain_judged N x3 h), (3, Principle_judged N x3 h), (7, Surprise_judged N x3 h), (10, Treble_judged N x3 h)] x3 h) fun x5 h4 =>
  Spliced_judged_44 N (Spliced_judged_16 N n) l0 l2 x5 h4))
def Spliced_judged (N : Nat) (l0 : Option Nat) (h : Hp) : Option (Int32 × Hp) :=
  gr [6] 1 l0 h fun x1 =>
  li 13 x1 17 h fun x2 =>
  si x1 17 (x2 + (1 : Int32)) h fun h3 =>
  Spliced_judged_16 N N l0 (-7) 0 h3
def Treble_init (N : Nat) (l0 : Option Nat) (l1 : Int32) (l2 : Option Nat) (h : Hp) : Option (Unit × Hp) :=
  cl (ck [7, 10] l0 h (Plain_init N l0 l1 l2 h)) fun _ h1 =>
  some ((), h1)
def Surprise_init (N : Nat) (l0 : Option Nat) (l1 : Int32) (l2 : Option Nat) (h : Hp) : Option (Unit × Hp) :=
  cl (ck [7] l0 h (Treble_init N l0 l1 l2 h)) fun _ h1 =>
  some ((), h1)
def Tape_init (N : Nat) (l0 : Option Nat) (h : Hp) : Option (Unit × Hp) :=
  kn l0 <|
  na 15 300 h fun x1 h2 =>
  pr [8] 0 l0 x1 h2 fun h3 =>
  na 13 300 h3 fun x4 h5 =>
  pr [8] 2 l0 x4 h5 fun h6 =>
  some ((), h6)
def Tape_add_3 (N : Nat) : Nat → Option Nat → Int32 → Int32 → Hp → Option (Unit × Hp)
  | 0, _, _, _, _ => none
  | n + 1, l0, l1, l2, h =>
  if l2 < 0 then (some ((), h)) else (gi [8] 1 l0 h fun x1 =>
  if 300 ≤ x1 then (some ((), h)) else (gr [8] 0 l0 h fun x2 =>
  gi [8] 1 l0 h fun x3 =>
  sb x2 x3 (Int8.toInt32 (Int32.toInt8 (l1 >>> (l2 &&& 31)))) h fun h4 =>
  gi [8] 1 l0 h4 fun x5 =>
  pi [8] 1 l0 (x5 + (1 : Int32)) h4 fun h6 =>
  nm (l2 + (-8)) fun x7 =>
  Tape_add_3 N n l0 l1 x7 h6))
def Tape_add (N : Nat) (l0 : Option Nat) (l1 : Int32) (h : Hp) : Option (Unit × Hp) :=
  Tape_add_3 N N l0 l1 24 h
def Tape_placeTold_17 (N : Nat) (l0 : Int32) (h : Hp) : Option (Int32 × Hp) :=
  sw l0 [(48, some (10, h)), (69, some (11, h)), (84, some (12, h))] (some (0, h))
def Tape_placeTold (N : Nat) (l0 : Int32) (h : Hp) : Option (Int32 × Hp) :=
  if l0 < 49 then (Tape_placeTold_17 N l0 h) else (if 57 < l0 then (Tape_placeTold_17 N l0 h) else (some ((l0 - (48 : Int32)), h)))
def Tape_pairs_4 (N : Nat) : Nat → Int32 → Int32 → Int32 → Hp → Option (Int32 × Hp)
  | 0, _, _, _, _ => none
  | n + 1, l1, l2, l3, h =>
  if l1 ≤ l3 then (some (l2, h)) else (nm (l2 ||| ((1 : Int32) <<< ((l3 - (1 : Int32)) &&& 31))) fun x1 =>
  nm (l3 + 2) fun x2 =>
  Tape_pairs_4 N n l1 x1 x2 h)
def Tape_pairs (N : Nat) (l0 : Int32) (l1 : Int32) (h : Hp) : Option (Int32 × Hp) :=
  Tape_pairs_4 N N l1 0 l0 h
def Tape_takesPlace_89 (N : Nat) (l0 : Option Nat) (l1 : Int32) (h : Hp) : Option (Int32 × Hp) :=
  pi [8] 6 l0 l1 h fun h1 =>
  pi [8] 5 l0 2 h1 fun h2 =>
  rz 1 h2
def Tape_takesPlace_32 (N : Nat) (l0 : Option Nat) (l1 : Int32) (u0 : Option Nat) (u1 : Int32) (h : Hp) : Option (Int32 × Hp) :=
  cl (Tape_pairs N u1 (l1 - (1 : Int32)) h) fun x2 h1 =>
  pi [8] 7 u0 x2 h1 fun h3 =>
  Tape_takesPlace_89 N l0 l1 h3
def Tape_takesPlace (N : Nat) (l0 : Option Nat) (l1 : Int32) (l2 : Int32) (h : Hp) : Option (Int32 × Hp) :=
  if l1 < 1 then (rz 0 h) else (if l1 ≤ l2 then (gi [8] 5 l0 h fun x1 =>
  if x1 = 2 then (gi [8] 6 l0 h fun x2 =>
  if l1 ≤ x2 then (rz 0 h) else (gi [8] 6 l0 h fun x3 =>
  nz 2 <|
  if ((l1 - x3) - (l1 - x3) / 2 * 2) = 0 then (rz 0 h) else (gi [8] 7 l0 h fun x4 =>
  gi [8] 6 l0 h fun x5 =>
  cl (Tape_pairs N (x5 + (1 : Int32)) (l1 - (1 : Int32)) h) fun x7 h6 =>
  pi [8] 7 l0 (x4 ||| x7) h6 fun h8 =>
  Tape_takesPlace_89 N l0 l1 h8))) else (nz 2 <|
  if (l1 - l1 / 2 * 2) = 0 then (Tape_takesPlace_32 N l0 l1 l0 2 h) else (Tape_takesPlace_32 N l0 l1 l0 1 h))) else (rz 0 h))
def Tape_tell (N : Nat) (l0 : Option Nat) (l1 : Int32) (h : Hp) : Option (Unit × Hp) :=
  gi [8] 3 l0 h fun x1 =>
  if 300 ≤ x1 then (some ((), h)) else (gr [8] 2 l0 h fun x2 =>
  gi [8] 3 l0 h fun x3 =>
  si x2 x3 l1 h fun h4 =>
  gi [8] 3 l0 h4 fun x5 =>
  pi [8] 3 l0 (x5 + (1 : Int32)) h4 fun h6 =>
  some ((), h6))
def Tape_closePlaces (N : Nat) (l0 : Option Nat) (l1 : Int32) (h : Hp) : Option (Unit × Hp) :=
  gi [8] 5 l0 h fun x1 =>
  if x1 = 2 then (gi [8] 7 l0 h fun x2 =>
  gi [8] 6 l0 h fun x3 =>
  cl (Tape_pairs N (x3 + (1 : Int32)) l1 h) fun x5 h4 =>
  cl (ds [(8, Tape_tell N l0 (x2 ||| x5) h4)] l0 h4) fun _ h6 =>
  some ((), h6)) else (some ((), h))
def Tape_takesCross (N : Nat) (l0 : Option Nat) (l1 : Int32) (h : Hp) : Option (Int32 × Hp) :=
  gi [8] 5 l0 h fun x1 =>
  if x1 = 3 then (rz 0 h) else (cl (ds [(8, Tape_closePlaces N l0 l1 h)] l0 h) fun _ h2 =>
  cl (Tape_pairs N 1 l1 h2) fun x4 h3 =>
  cl (ds [(8, Tape_tell N l0 x4 h3)] l0 h3) fun _ h5 =>
  pi [8] 5 l0 1 h5 fun h6 =>
  rz 1 h6)
def Tape_takesDot (N : Nat) (l0 : Option Nat) (l1 : Int32) (h : Hp) : Option (Int32 × Hp) :=
  gi [8] 5 l0 h fun x1 =>
  if x1 = 2 then (cl (ds [(8, Tape_closePlaces N l0 l1 h)] l0 h) fun _ h2 =>
  pi [8] 5 l0 3 h2 fun h3 =>
  rz 1 h3) else (rz 0 h)
def Tape_canCloseBlock_16 (N : Nat)  (h : Hp) : Option (Int32 × Hp) :=
  rz 1 h
def Tape_canCloseBlock (N : Nat) (l0 : Option Nat) (h : Hp) : Option (Int32 × Hp) :=
  gi [8] 5 l0 h fun x1 =>
  if x1 = 1 then (Tape_canCloseBlock_16 N  h) else (gi [8] 5 l0 h fun x2 =>
  if x2 = 2 then (Tape_canCloseBlock_16 N  h) else (rz 0 h))
def Tape_takesComma (N : Nat) (l0 : Option Nat) (l1 : Int32) (h : Hp) : Option (Int32 × Hp) :=
  gi [8] 4 l0 h fun x1 =>
  if x1 = 0 then (cl (ds [(8, Tape_canCloseBlock N l0 h)] l0 h) fun x3 h2 =>
  if x3 = 0 then (rz 0 h2) else (cl (ds [(8, Tape_closePlaces N l0 l1 h2)] l0 h2) fun _ h4 =>
  gi [8] 3 l0 h4 fun x5 =>
  pi [8] 4 l0 x5 h4 fun h6 =>
  pi [8] 5 l0 0 h6 fun h7 =>
  rz 1 h7)) else (rz 0 h)
def Tape_takes (N : Nat) (l0 : Option Nat) (l1 : Int32) (l2 : Int32) (h : Hp) : Option (Int32 × Hp) :=
  sw l1 [(44, cl (ds [(8, Tape_takesComma N l0 l2 h)] l0 h) fun x2 h1 =>
  rz x2 h1), (46, cl (ds [(8, Tape_takesDot N l0 l2 h)] l0 h) fun x4 h3 =>
  rz x4 h3), (120, cl (ds [(8, Tape_takesCross N l0 l2 h)] l0 h) fun x6 h5 =>
  rz x6 h5)] (cl (Tape_placeTold N l1 h) fun x8 h7 =>
  cl (ds [(8, Tape_takesPlace N l0 x8 l2 h7)] l0 h7) fun x10 h9 =>
  rz x10 h9)
def Tape_write_99 (N : Nat) : Nat → Option Nat → Option Nat → Int32 → Hp → Option (Unit × Hp)
  | 0, _, _, _, _ => none
  | n + 1, l0, l1, l2, h =>
  gi [8] 4 l0 h fun x1 =>
  if x1 ≤ 0 then (some ((), h)) else (gi [8] 4 l0 h fun x2 =>
  if l2 < x2 then (some ((), h)) else (gr [8] 2 l0 h fun x3 =>
  li 13 x3 l2 h fun x4 =>
  cl (ds [(0, Lead_add N l1 x4 h)] l1 h) fun _ h5 =>
  nm (l2 + (-1)) fun x6 =>
  Tape_write_99 N n l0 l1 x6 h5))
def Tape_write_68 (N : Nat) : Nat → Option Nat → Option Nat → Int32 → Hp → Option (Unit × Hp)
  | 0, _, _, _, _ => none
  | n + 1, l0, l1, l2, h =>
  gi [8] 3 l0 h fun x1 =>
  if x1 ≤ l2 then (gi [8] 3 l0 h fun x2 =>
  nm (x2 - (2 : Int32)) fun x3 =>
  Tape_write_99 N N l0 l1 x3 h) else (gr [8] 2 l0 h fun x4 =>
  li 13 x4 l2 h fun x5 =>
  cl (ds [(0, Lead_add N l1 x5 h)] l1 h) fun _ h6 =>
  nm (l2 + 1) fun x7 =>
  Tape_write_68 N n l0 l1 x7 h6)
def Tape_write_43 (N : Nat) : Nat → Option Nat → Option Nat → Int32 → Hp → Option (Unit × Hp)
  | 0, _, _, _, _ => none
  | n + 1, l0, l1, l2, h =>
  if l2 < 0 then (gi [8] 4 l0 h fun x1 =>
  Tape_write_68 N N l0 l1 x1 h) else (gr [8] 2 l0 h fun x2 =>
  li 13 x2 l2 h fun x3 =>
  cl (ds [(0, Lead_add N l1 x3 h)] l1 h) fun _ h4 =>
  nm (l2 + (-1)) fun x5 =>
  Tape_write_43 N n l0 l1 x5 h4)
def Tape_write_12 (N : Nat) : Nat → Option Nat → Option Nat → Int32 → Hp → Option (Unit × Hp)
  | 0, _, _, _, _ => none
  | n + 1, l0, l1, l2, h =>
  gi [8] 4 l0 h fun x1 =>
  if x1 ≤ l2 then (gi [8] 4 l0 h fun x2 =>
  nm (x2 - (2 : Int32)) fun x3 =>
  Tape_write_43 N N l0 l1 x3 h) else (gr [8] 2 l0 h fun x4 =>
  li 13 x4 l2 h fun x5 =>
  cl (ds [(0, Lead_add N l1 x5 h)] l1 h) fun _ h6 =>
  nm (l2 + 1) fun x7 =>
  Tape_write_12 N n l0 l1 x7 h6)
def Tape_write (N : Nat) (l0 : Option Nat) (l1 : Option Nat) (h : Hp) : Option (Unit × Hp) :=
  pi [0] 2 l1 0 h fun h1 =>
  pi [0] 1 l1 0 h1 fun h2 =>
  Tape_write_12 N N l0 l1 0 h2
def Tape_readLead_90 (N : Nat) (l0 : Option Nat) (l2 : Option Nat) (u0 : Int32) (h : Hp) : Option (Int32 × Hp) :=
  if u0 ≤ 100 then (cl (ds [(8, Tape_write N l0 l2 h)] l0 h) fun _ h1 =>
  some (u0, h1)) else (some ((-1000), h))
def Tape_readLead_17 (N : Nat) : Nat → Option Nat → Int32 → Option Nat → Int32 → Hp → Option (Int32 × Hp)
  | 0, _, _, _, _, _ => none
  | n + 1, l0, l1, l2, l3, h =>
  gi [8] 1 l0 h fun x1 =>
  if x1 ≤ l3 then (cl (ds [(8, Tape_canCloseBlock N l0 h)] l0 h) fun x3 h2 =>
  if x3 = 0 then (gi [8] 1 l0 h2 fun x8 =>
  some (((-1 : Int32) - x8), h2)) else (cl (ds [(8, Tape_closePlaces N l0 l1 h2)] l0 h2) fun _ h4 =>
  gi [8] 4 l0 h4 fun x5 =>
  if x5 = 0 then (gi [8] 3 l0 h4 fun x7 =>
  Tape_readLead_90 N l0 l2 x7 h4) else (gi [8] 3 l0 h4 fun x6 =>
  Tape_readLead_90 N l0 l2 (((2 : Int32) * x6) - (2 : Int32)) h4))) else (gr [8] 0 l0 h fun x9 =>
  li 15 x9 l3 h fun x10 =>
  cl (ds [(8, Tape_takes N l0 x10 l1 h)] l0 h) fun x12 h11 =>
  if x12 = 0 then (some (((-1 : Int32) - l3), h11)) else (nm (l3 + 1) fun x13 =>
  Tape_readLead_17 N n l0 l1 l2 x13 h11))
def Tape_readLead (N : Nat) (l0 : Option Nat) (l1 : Int32) (l2 : Option Nat) (h : Hp) : Option (Int32 × Hp) :=
  pi [8] 3 l0 0 h fun h1 =>
  pi [8] 4 l0 0 h1 fun h2 =>
  pi [8] 5 l0 0 h2 fun h3 =>
  Tape_readLead_17 N N l0 l1 l2 0 h3
def Touch_init (N : Nat) (l0 : Option Nat) (h : Hp) : Option (Unit × Hp) :=
  kn l0 <|
  na 18 100 h fun x1 h2 =>
  pr [9] 0 l0 x1 h2 fun h3 =>
  na 13 100 h3 fun x4 h5 =>
  pr [9] 1 l0 x4 h5 fun h6 =>
  nw 4 h6 fun x7 h8 =>
  cl (ck [4] x7 h8 (Rows_init N x7 2001 h8)) fun _ h9 =>
  pr [9] 5 l0 x7 h9 fun h10 =>
  nw 0 h10 fun x11 h12 =>
  cl (ck [0] x11 h12 (Lead_init N x11 h12)) fun _ h13 =>
  pr [9] 6 l0 x11 h13 fun h14 =>
  na 13 2001 h14 fun x15 h16 =>
  pr [9] 12 l0 x15 h16 fun h17 =>
  na 13 2001 h17 fun x18 h19 =>
  pr [9] 14 l0 x18 h19 fun h20 =>
  some ((), h20)
def Touch_beginAnew (N : Nat) (l0 : Option Nat) (h : Hp) : Option (Unit × Hp) :=
  gr [9] 5 l0 h fun x1 =>
  cl (ds [(4, Rows_keepFirst N x1 0 h)] x1 h) fun _ h2 =>
  gr [9] 5 l0 h2 fun x3 =>
  gl [9] 4 l0 h2 fun x4 =>
  cl (ds [(4, Rows_add N x3 x4 h2)] x3 h2) fun _ h5 =>
  gr [9] 6 l0 h5 fun x6 =>
  pi [0] 1 x6 0 h5 fun h7 =>
  pi [9] 7 l0 0 h7 fun h8 =>
  pi [9] 8 l0 0 h8 fun h9 =>
  pz [9] 9 l0 0 h9 fun h10 =>
  pi [9] 10 l0 (-1) h10 fun h11 =>
  pi [9] 11 l0 (-1) h11 fun h12 =>
  pi [9] 13 l0 0 h12 fun h13 =>
  some ((), h13)
def Touch_forget (N : Nat) (l0 : Option Nat) (l1 : Int32) (h : Hp) : Option (Unit × Hp) :=
  pi [9] 3 l0 l1 h fun h1 =>
  cl (Rows_rounds N l1 h1) fun x3 h2 =>
  pl [9] 4 l0 x3 h2 fun h4 =>
  pi [9] 2 l0 0 h4 fun h5 =>
  pi [9] 15 l0 0 h5 fun h6 =>
  cl (ds [(9, Touch_beginAnew N l0 h6)] l0 h6) fun _ h7 =>
  some ((), h7)
def Touch_addItem (N : Nat) (l0 : Option Nat) (l1 : Option Nat) (l2 : Int32) (h : Hp) : Option (Unit × Hp) :=
  gi [9] 2 l0 h fun x1 =>
  if 100 ≤ x1 then (some ((), h)) else (gr [9] 0 l0 h fun x2 =>
  gi [9] 2 l0 h fun x3 =>
  sr 18 [1, 2, 3, 6, 7, 10] x2 x3 l1 h fun h4 =>
  gr [9] 1 l0 h4 fun x5 =>
  gi [9] 2 l0 h4 fun x6 =>
  si x5 x6 l2 h4 fun h7 =>
  gi [9] 2 l0 h7 fun x8 =>
  pi [9] 2 l0 (x8 + (1 : Int32)) h7 fun h9 =>
  some ((), h9))
def Touch_ringRow_129 (N : Nat) (u0 : Option Nat) (u1 : Int32) (h : Hp) : Option (Unit × Hp) :=
  pz [9] 9 u0 u1 h fun h1 =>
  some ((), h1)
def Touch_ringRow_124 (N : Nat) (u0 : Option Nat) (h : Hp) : Option (Unit × Hp) :=
  Touch_ringRow_129 N u0 1 h
def Touch_ringRow_99 (N : Nat) (l0 : Option Nat) (l1 : Int32) (l2 : Int64) (h : Hp) : Option (Unit × Hp) :=
  gr [9] 5 l0 h fun x1 =>
  cl (ds [(4, Rows_add N x1 l2 h)] x1 h) fun _ h2 =>
  gl [9] 4 l0 h2 fun x3 =>
  if (lg_cmp l2 x3) = 0 then (Touch_ringRow_124 N l0 h2) else (if l1 < 2000 then (Touch_ringRow_129 N l0 0 h2) else (Touch_ringRow_124 N l0 h2))
def Touch_ringRow_96 (N : Nat) (l0 : Option Nat) (l1 : Int32) (l2 : Int64) (u0 : Option Nat) (u1 : Int32) (h : Hp) : Option (Unit × Hp) :=
  pi [9] 11 u0 u1 h fun h1 =>
  Touch_ringRow_99 N l0 l1 l2 h1
def Touch_ringRow (N : Nat) (l0 : Option Nat) (h : Hp) : Option (Unit × Hp) :=
  gr [9] 5 l0 h fun x1 =>
  gi [4] 3 x1 h fun x2 =>
  gr [9] 5 l0 h fun x3 =>
  cl (ds [(4, Rows_codeAt N x3 (x2 - (1 : Int32)) h)] x3 h) fun x5 h4 =>
  gr [9] 6 l0 h4 fun x6 =>
  gr [0] 0 x6 h4 fun x7 =>
  gi [9] 7 l0 h4 fun x8 =>
  li 13 x7 x8 h4 fun x9 =>
  cl (Rows_changed N x5 x9 h4) fun x11 h10 =>
  gi [9] 7 l0 h10 fun x12 =>
  pi [9] 7 l0 (x12 + (1 : Int32)) h10 fun h13 =>
  gl [9] 4 l0 h13 fun x14 =>
  if (lg_cmp x11 x14) = 0 then (pi [9] 10 l0 x2 h13 fun h19 =>
  Touch_ringRow_99 N l0 x2 x11 h19) else (gi [9] 11 l0 h13 fun x15 =>
  if 0 ≤ x15 then (Touch_ringRow_99 N l0 x2 x11 h13) else (gr [9] 5 l0 h13 fun x16 =>
  cl (ds [(4, Rows_indexOf N x16 x11 h13)] x16 h13) fun x18 h17 =>
  if 0 ≤ x18 then (Touch_ringRow_96 N l0 x2 x11 l0 ((x2 * (10000 : Int32)) + x18) h17) else (Touch_ringRow_96 N l0 x2 x11 l0 (-1) h17)))
def Touch_beginItem_65 (N : Nat) (l2 : Int32) (u0 : Option Nat) (u1 : Int32) (h : Hp) : Option (Int32 × Hp) :=
  pz [9] 9 u0 u1 h fun h1 =>
  some (l2, h1)
def Touch_beginItem_39 (N : Nat) (l0 : Option Nat) (u0 : Int32) (h : Hp) : Option (Int32 × Hp) :=
  pi [9] 7 l0 0 h fun h1 =>
  gi [9] 8 l0 h1 fun x2 =>
  pi [9] 8 l0 (x2 + (1 : Int32)) h1 fun h3 =>
  if u0 = 0 then (Touch_beginItem_65 N u0 l0 0 h3) else (Touch_beginItem_65 N u0 l0 1 h3)
def Touch_beginItem (N : Nat) (l0 : Option Nat) (h : Hp) : Option (Int32 × Hp) :=
  gr [9] 0 l0 h fun x1 =>
  gi [9] 8 l0 h fun x2 =>
  lr 18 x1 x2 h fun x3 =>
  if x3 = none then (Touch_beginItem_39 N l0 4 h) else (gi [9] 8 l0 h fun x4 =>
  gr [9] 1 l0 h fun x5 =>
  gi [9] 8 l0 h fun x6 =>
  li 13 x5 x6 h fun x7 =>
  gr [9] 6 l0 h fun x8 =>
  cl (ds [(1, Little_calledOf N x3 x4 x7 x8 h), (2, Plain_calledOf N x3 x4 x7 x8 h), (3, Principle_calledOf N x3 x4 x7 x8 h), (6, Spliced_calledOf N x3 x4 x7 x8 h), (7, Surprise_calledOf N x3 x4 x7 x8 h), (10, Plain_calledOf N x3 x4 x7 x8 h)] x3 h) fun x10 h9 =>
  Touch_beginItem_39 N l0 x10 h9)
def Touch_ringOn_67 (N : Nat) (re7 : Option Nat → Int32 → Int32 → Int32 → Int32 → Hp → Option (Int32 × Hp)) (l0 : Option Nat) (l1 : Int32) (l2 : Int32) (l3 : Int32) (l4 : Int32) (h : Hp) : Option (Int32 × Hp) :=
  nm (l4 + 1) fun x1 =>
  re7 l0 l1 l2 l3 x1 h
def Touch_ringOn_7 (N : Nat) : Nat → Option Nat → Int32 → Int32 → Int32 → Int32 → Hp → Option (Int32 × Hp)
  | 0, _, _, _, _, _, _ => none
  | n + 1, l0, l1, l2, l3, l4, h =>
  if (l1 + (100 : Int32)) ≤ l4 then (some (l2, h)) else (if l3 ≤ 0 then (some (l2, h)) else (gi [9] 9 l0 h fun x1 =>
  if x1 = 0 then (gi [9] 7 l0 h fun x2 =>
  gr [9] 6 l0 h fun x3 =>
  gi [0] 1 x3 h fun x4 =>
  if x4 ≤ x2 then (gi [9] 8 l0 h fun x5 =>
  gi [9] 2 l0 h fun x6 =>
  if x6 ≤ x5 then (some (l2, h)) else (cl (ds [(9, Touch_beginItem N l0 h)] l0 h) fun x8 h7 =>
  Touch_ringOn_67 N (Touch_ringOn_7 N n) l0 l1 x8 l3 l4 h7)) else (cl (ds [(9, Touch_ringRow N l0 h)] l0 h) fun _ h9 =>
  nm (l3 + (-1)) fun x10 =>
  Touch_ringOn_67 N (Touch_ringOn_7 N n) l0 l1 l2 x10 l4 h9)) else (some (l2, h))))
def Touch_ringOn (N : Nat) (l0 : Option Nat) (l1 : Int32) (h : Hp) : Option (Int32 × Hp) :=
  Touch_ringOn_7 N N l0 l1 0 l1 0 h
def Touch_provableRows (N : Nat) (l0 : Option Nat) (h : Hp) : Option (Int32 × Hp) :=
  gi [9] 10 l0 h fun x1 =>
  if 0 ≤ x1 then (gr [9] 5 l0 h fun x2 =>
  gi [4] 3 x2 h fun x3 =>
  some ((x3 - (1 : Int32)), h)) else (gr [9] 5 l0 h fun x4 =>
  gi [4] 3 x4 h fun x5 =>
  some (x5, h))
def Touch_sink_97 (N : Nat) (l0 : Option Nat) (l3 : Int32) (l4 : Int32) (h : Hp) : Option (Unit × Hp) :=
  gr [9] 12 l0 h fun x1 =>
  si x1 l4 l3 h fun h2 =>
  some ((), h2)
def Touch_sink_54 (N : Nat) (re18 : Option Nat → Int32 → Int32 → Int32 → Int32 → Hp → Option (Unit × Hp)) (l0 : Option Nat) (l2 : Int32) (l3 : Int32) (l4 : Int32) (l5 : Int32) (h : Hp) : Option (Unit × Hp) :=
  gr [9] 12 l0 h fun x1 =>
  li 13 x1 l5 h fun x2 =>
  if l3 < x2 then (gr [9] 12 l0 h fun x3 =>
  gr [9] 12 l0 h fun x4 =>
  li 13 x4 l5 h fun x5 =>
  si x3 l4 x5 h fun h6 =>
  nm (((2 : Int32) * l5) + (1 : Int32)) fun x7 =>
  re18 l0 l2 l3 l5 x7 h6) else (Touch_sink_97 N l0 l3 l4 h)
def Touch_sink_18 (N : Nat) : Nat → Option Nat → Int32 → Int32 → Int32 → Int32 → Hp → Option (Unit × Hp)
  | 0, _, _, _, _, _, _ => none
  | n + 1, l0, l2, l3, l4, l5, h =>
  if l2 ≤ l5 then (Touch_sink_97 N l0 l3 l4 h) else (if l2 ≤ (l5 + (1 : Int32)) then (Touch_sink_54 N (Touch_sink_18 N n) l0 l2 l3 l4 l5 h) else (gr [9] 12 l0 h fun x1 =>
  li 13 x1 (l5 + (1 : Int32)) h fun x2 =>
  gr [9] 12 l0 h fun x3 =>
  li 13 x3 l5 h fun x4 =>
  if x2 ≤ x4 then (Touch_sink_54 N (Touch_sink_18 N n) l0 l2 l3 l4 l5 h) else (nm (l5 + 1) fun x5 =>
  Touch_sink_54 N (Touch_sink_18 N n) l0 l2 l3 l4 x5 h)))
def Touch_sink (N : Nat) (l0 : Option Nat) (l1 : Int32) (l2 : Int32) (h : Hp) : Option (Unit × Hp) :=
  gr [9] 12 l0 h fun x1 =>
  li 13 x1 l1 h fun x2 =>
  nm (((2 : Int32) * l1) + (1 : Int32)) fun x3 =>
  Touch_sink_18 N N l0 l2 x2 l1 x3 h
def Touch_heapSort_26 (N : Nat) : Nat → Option Nat → Int32 → Hp → Option (Unit × Hp)
  | 0, _, _, _ => none
  | n + 1, l0, l2, h =>
  if l2 ≤ 0 then (some ((), h)) else (gr [9] 12 l0 h fun x1 =>
  li 13 x1 0 h fun x2 =>
  gr [9] 12 l0 h fun x3 =>
  gr [9] 12 l0 h fun x4 =>
  li 13 x4 l2 h fun x5 =>
  si x3 0 x5 h fun h6 =>
  gr [9] 12 l0 h6 fun x7 =>
  si x7 l2 x2 h6 fun h8 =>
  cl (ds [(9, Touch_sink N l0 0 l2 h8)] l0 h8) fun _ h9 =>
  nm (l2 + (-1)) fun x10 =>
  Touch_heapSort_26 N n l0 x10 h9)
def Touch_heapSort_6 (N : Nat) : Nat → Option Nat → Int32 → Int32 → Hp → Option (Unit × Hp)
  | 0, _, _, _, _ => none
  | n + 1, l0, l1, l2, h =>
  if l2 < 0 then (nm (l1 - (1 : Int32)) fun x1 =>
  Touch_heapSort_26 N N l0 x1 h) else (cl (ds [(9, Touch_sink N l0 l2 l1 h)] l0 h) fun _ h2 =>
  nm (l2 + (-1)) fun x3 =>
  Touch_heapSort_6 N n l0 l1 x3 h2)
def Touch_heapSort (N : Nat) (l0 : Option Nat) (l1 : Int32) (h : Hp) : Option (Unit × Hp) :=
  nz 2 <|
  nm ((l1 / 2) - (1 : Int32)) fun x1 =>
  Touch_heapSort_6 N N l0 l1 x1 h
def Touch_orderNumbers_21 (N : Nat) : Nat → Option Nat → Int32 → Int32 → Hp → Option (Int32 × Hp)
  | 0, _, _, _, _ => none
  | n + 1, l0, l1, l2, h =>
  if l1 ≤ l2 then (cl (ds [(9, Touch_heapSort N l0 l1 h)] l0 h) fun _ h1 =>
  gr [9] 5 l0 h1 fun x2 =>
  gi [4] 3 x2 h1 fun x3 =>
  pi [9] 13 l0 x3 h1 fun h4 =>
  some (l1, h4)) else (gr [9] 12 l0 h fun x5 =>
  gr [9] 5 l0 h fun x6 =>
  cl (ds [(4, Rows_codeAt N x6 l2 h)] x6 h) fun x8 h7 =>
  gi [9] 3 l0 h7 fun x9 =>
  cl (Rows_numberOf N x8 x9 h7) fun x11 h10 =>
  si x5 l2 x11 h10 fun h12 =>
  nm (l2 + 1) fun x13 =>
  Touch_orderNumbers_21 N n l0 l1 x13 h12)
def Touch_orderNumbers (N : Nat) (l0 : Option Nat) (h : Hp) : Option (Int32 × Hp) :=
  cl (ds [(9, Touch_provableRows N l0 h)] l0 h) fun x2 h1 =>
  gi [9] 13 l0 h1 fun x3 =>
  gr [9] 5 l0 h1 fun x4 =>
  gi [4] 3 x4 h1 fun x5 =>
  if x3 = x5 then (some (x2, h1)) else (Touch_orderNumbers_21 N N l0 x2 0 h1)
def Touch_makeProof (N : Nat) (l0 : Option Nat) (h : Hp) : Option (Int32 × Hp) :=
  gi [9] 11 l0 h fun x1 =>
  if x1 < 0 then (cl (ds [(9, Touch_orderNumbers N l0 h)] l0 h) fun x3 h2 =>
  pi [9] 15 l0 x3 h2 fun h4 =>
  gr [9] 12 l0 h4 fun x5 =>
  gr [9] 14 l0 h4 fun x6 =>
  gi [9] 15 l0 h4 fun x7 =>
  ac x5 0 x6 0 x7 h4 fun h8 =>
  gi [9] 15 l0 h8 fun x9 =>
  some (x9, h8)) else (some ((-1), h))
def Touch_isProven_27 (N : Nat) : Nat → Option Nat → Int32 → Hp → Option (Int32 × Hp)
  | 0, _, _, _ => none
  | n + 1, l0, l1, h =>
  gi [9] 15 l0 h fun x1 =>
  if x1 ≤ l1 then (rz 1 h) else (gr [9] 14 l0 h fun x2 =>
  li 13 x2 l1 h fun x3 =>
  gr [9] 12 l0 h fun x4 =>
  li 13 x4 l1 h fun x5 =>
  if x3 = x5 then (nm (l1 + 1) fun x6 =>
  Touch_isProven_27 N n l0 x6 h) else (rz 0 h))
def Touch_isProven (N : Nat) (l0 : Option Nat) (h : Hp) : Option (Int32 × Hp) :=
  gi [9] 11 l0 h fun x1 =>
  if 0 ≤ x1 then (rz 0 h) else (gi [9] 15 l0 h fun x2 =>
  cl (ds [(9, Touch_provableRows N l0 h)] l0 h) fun x4 h3 =>
  if x2 = x4 then (cl (ds [(9, Touch_orderNumbers N l0 h3)] l0 h3) fun x6 h5 =>
  Touch_isProven_27 N N l0 0 h5) else (rz 0 h3))
def C_init (N : Nat) (l0 : Option Nat) (h : Hp) : Option (Unit × Hp) :=
  kn l0 <|
  nw 8 h fun x1 h2 =>
  cl (ck [8] x1 h2 (Tape_init N x1 h2)) fun _ h3 =>
  pr [11] 0 l0 x1 h3 fun h4 =>
  na 13 18 h4 fun x5 h6 =>
  pr [11] 1 l0 x5 h6 fun h7 =>
  na 18 30 h7 fun x8 h9 =>
  pr [11] 2 l0 x8 h9 fun h10 =>
  pi [11] 4 l0 6 h10 fun h11 =>
  pi [11] 5 l0 63 h11 fun h12 =>
  nw 9 h12 fun x13 h14 =>
  cl (ck [9] x13 h14 (Touch_init N x13 h14)) fun _ h15 =>
  pr [11] 7 l0 x13 h15 fun h16 =>
  nw 5 h16 fun x17 h18 =>
  cl (ck [5] x17 h18 (Search_init N x17 h18)) fun _ h19 =>
  pr [11] 8 l0 x17 h19 fun h20 =>
  nw 0 h20 fun x21 h22 =>
  cl (ck [0] x21 h22 (Lead_init N x21 h22)) fun _ h23 =>
  pr [11] 9 l0 x21 h23 fun h24 =>
  nw 4 h24 fun x25 h26 =>
  cl (ck [4] x25 h26 (Rows_init N x25 100 h26)) fun _ h27 =>
  pr [11] 10 l0 x25 h27 fun h28 =>
  gr [11] 7 l0 h28 fun x29 =>
  cl (ds [(9, Touch_forget N x29 6 h28)] x29 h28) fun _ h30 =>
  some ((), h30)
def C_feed (N : Nat) (l0 : Option Nat) (l1 : Int32) (l2 : Int32) (l3 : Int32) (l4 : Int32) (l5 : Int32) (h : Hp) : Option (Int32 × Hp) :=
  gr [11] 0 l0 h fun x1 =>
  gi [8] 1 x1 h fun x2 =>
  if (x2 + (20 : Int32)) ≤ 300 then (gr [11] 0 l0 h fun x3 =>
  cl (ds [(8, Tape_add N x3 l1 h)] x3 h) fun _ h4 =>
  gr [11] 0 l0 h4 fun x5 =>
  cl (ds [(8, Tape_add N x5 l2 h4)] x5 h4) fun _ h6 =>
  gr [11] 0 l0 h6 fun x7 =>
  cl (ds [(8, Tape_add N x7 l3 h6)] x7 h6) fun _ h8 =>
  gr [11] 0 l0 h8 fun x9 =>
  cl (ds [(8, Tape_add N x9 l4 h8)] x9 h8) fun _ h10 =>
  gr [11] 0 l0 h10 fun x11 =>
  cl (ds [(8, Tape_add N x11 l5 h10)] x11 h10) fun _ h12 =>
  gr [11] 0 l0 h12 fun x13 =>
  gi [8] 1 x13 h12 fun x14 =>
  some (x14, h12)) else (some ((-1), h))
def C_end (N : Nat) (l0 : Option Nat) (l1 : Int32) (h : Hp) : Option (Int32 × Hp) :=
  if l1 < 0 then (some ((-1), h)) else (gr [11] 0 l0 h fun x1 =>
  gi [8] 1 x1 h fun x2 =>
  if l1 ≤ x2 then (gr [11] 0 l0 h fun x3 =>
  pi [8] 1 x3 l1 h fun h4 =>
  some (l1, h4)) else (some ((-1), h)))
def C_bells (N : Nat) (l0 : Option Nat) (l1 : Int32) (h : Hp) : Option (Int32 × Hp) :=
  if l1 < 4 then (some ((-1), h)) else (if l1 ≤ 12 then (pi [11] 4 l0 l1 h fun h1 =>
  pi [11] 5 l0 (((1 : Int32) <<< (l1 &&& 31)) - (1 : Int32)) h1 fun h2 =>
  pi [11] 3 l0 0 h2 fun h3 =>
  gr [11] 7 l0 h3 fun x4 =>
  cl (ds [(9, Touch_forget N x4 l1 h3)] x4 h3) fun _ h5 =>
  gr [11] 8 l0 h5 fun x6 =>
  cl (ds [(5, Search_forget N x6 h5)] x6 h5) fun _ h7 =>
  some (1, h7)) else (some ((-1), h)))
def C_newMethod (N : Nat) (l0 : Option Nat) (l1 : Int32) (h : Hp) : Option (Option Nat × Hp) :=
  sw l1 [(0, nw 2 h fun x1 h2 =>
  gi [11] 4 l0 h2 fun x3 =>
  gr [11] 1 l0 h2 fun x4 =>
  cl (ck [1, 2, 7, 10] x1 h2 (Plain_init N x1 x3 x4 h2)) fun _ h5 =>
  some (x1, h5)), (1, nw 1 h fun x6 h7 =>
  gi [11] 4 l0 h7 fun x8 =>
  gr [11] 1 l0 h7 fun x9 =>
  cl (ck [1] x6 h7 (Little_init N x6 x8 x9 h7)) fun _ h10 =>
  some (x6, h10)), (2, nw 10 h fun x11 h12 =>
  gi [11] 4 l0 h12 fun x13 =>
  gr [11] 1 l0 h12 fun x14 =>
  cl (ck [7, 10] x11 h12 (Treble_init N x11 x13 x14 h12)) fun _ h15 =>
  some (x11, h15)), (3, nw 7 h fun x16 h17 =>
  gi [11] 4 l0 h17 fun x18 =>
  gr [11] 1 l0 h17 fun x19 =>
  cl (ck [7] x16 h17 (Surprise_init N x16 x18 x19 h17)) fun _ h20 =>
  some (x16, h20)), (4, nw 3 h fun x21 h22 =>
  gi [11] 4 l0 h22 fun x23 =>
  gr [11] 1 l0 h22 fun x24 =>
  cl (ck [3] x21 h22 (Principle_init N x21 x23 x24 h22)) fun _ h25 =>
  some (x21, h25))] (nw 6 h fun x26 h27 =>
  gi [11] 4 l0 h27 fun x28 =>
  gr [11] 1 l0 h27 fun x29 =>
  cl (ck [6] x26 h27 (Spliced_init N x26 x28 x29 h27)) fun _ h30 =>
  some (x26, h30))
def C_method (N : Nat) (l0 : Option Nat) (l1 : Int32) (h : Hp) : Option (Int32 × Hp) :=
  if l1 < 0 then (some ((-1), h)) else (if l1 < 6 then (gi [11] 3 l0 h fun x1 =>
  if x1 < 30 then (gr [11] 2 l0 h fun x2 =>
  gi [11] 3 l0 h fun x3 =>
  cl (ds [(11, C_newMethod N l0 l1 h)] l0 h) fun x5 h4 =>
  sr 18 [1, 2, 3, 6, 7, 10] x2 x3 x5 h4 fun h6 =>
  gi [11] 3 l0 h6 fun x7 =>
  pi [11] 3 l0 (x7 + (1 : Int32)) h6 fun h8 =>
  gr [11] 8 l0 h8 fun x9 =>
  pz [5] 19 x9 1 h8 fun h10 =>
  gi [11] 3 l0 h10 fun x11 =>
  some ((x11 - (1 : Int32)), h10)) else (some ((-2), h))) else (some ((-1), h)))
def C_methodAt_12 (N : Nat)  (h : Hp) : Option (Option Nat × Hp) :=
  some ((none : Option Nat), h)
def C_methodAt (N : Nat) (l0 : Option Nat) (l1 : Int32) (h : Hp) : Option (Option Nat × Hp) :=
  if l1 < 0 then (C_methodAt_12 N  h) else (gi [11] 3 l0 h fun x1 =>
  if l1 < x1 then (gr [11] 2 l0 h fun x2 =>
  lr 18 x2 l1 h fun x3 =>
  some (x3, h)) else (C_methodAt_12 N  h))
def C_finds (N : Nat) (l0 : Option Nat) (l1 : Int32) (l2 : Int32) (h : Hp) : Option (Int32 × Hp) :=
  pi [11] 6 l0 l1 h fun h1 =>
  some (l2, h1)
def C_notation_67 (N : Nat) (l0 : Option Nat) (l3 : Int32) (h : Hp) : Option (Int32 × Hp) :=
  cl (ds [(11, C_finds N l0 0 l3 h)] l0 h) fun x2 h1 =>
  some (x2, h1)
def C_notation (N : Nat) (l0 : Option Nat) (l1 : Int32) (h : Hp) : Option (Int32 × Hp) :=
  cl (ds [(11, C_methodAt N l0 l1 h)] l0 h) fun x2 h1 =>
  if x2 = none then (cl (ds [(11, C_finds N l0 4 0 h1)] l0 h1) fun x16 h15 =>
  some (x16, h15)) else (io 6 [1, 2, 3, 6, 7, 10] x2 h1 fun x3 =>
  if x3 = 0 then (gr [11] 0 l0 h1 fun x4 =>
  gi [11] 4 l0 h1 fun x5 =>
  gr [1, 2, 3, 6, 7, 10] 2 x2 h1 fun x6 =>
  cl (ds [(8, Tape_readLead N x4 x5 x6 h1)] x4 h1) fun x8 h7 =>
  gr [11] 0 l0 h7 fun x9 =>
  pi [8] 1 x9 0 h7 fun h10 =>
  if x8 < 0 then (C_notation_67 N l0 x8 h10) else (gr [11] 8 l0 h10 fun x11 =>
  pz [5] 19 x11 1 h10 fun h12 =>
  C_notation_67 N l0 x8 h12)) else (cl (ds [(11, C_finds N l0 3 0 h1)] l0 h1) fun x14 h13 =>
  some (x14, h13)))
def C_cut (N : Nat) (l0 : Option Nat) (l1 : Int32) (l2 : Int32) (h : Hp) : Option (Int32 × Hp) :=
  cl (ds [(11, C_methodAt N l0 l1 h)] l0 h) fun x2 h1 =>
  if x2 = none then (cl (ds [(11, C_finds N l0 4 0 h1)] l0 h1) fun x25 h24 =>
  some (x25, h24)) else (io 6 [1, 2, 3, 6, 7, 10] x2 h1 fun x3 =>
  if x3 = 0 then (gr [1, 2, 3, 6, 7, 10] 2 x2 h1 fun x4 =>
  gi [0] 2 x4 h1 fun x5 =>
  if x5 = 0 then (if 0 ≤ l2 then (gr [1, 2, 3, 6, 7, 10] 2 x2 h1 fun x6 =>
  gi [0] 1 x6 h1 fun x7 =>
  if l2 ≤ x7 then (gr [1, 2, 3, 6, 7, 10] 2 x2 h1 fun x8 =>
  pi [0] 1 x8 l2 h1 fun h9 =>
  gr [11] 8 l0 h9 fun x10 =>
  pz [5] 19 x10 1 h9 fun h11 =>
  cl (ds [(11, C_finds N l0 0 l2 h11)] l0 h11) fun x13 h12 =>
  some (x13, h12)) else (cl (ds [(11, C_finds N l0 5 0 h1)] l0 h1) fun x15 h14 =>
  some (x15, h14))) else (cl (ds [(11, C_finds N l0 6 0 h1)] l0 h1) fun x17 h16 =>
  some (x17, h16))) else (gr [1, 2, 3, 6, 7, 10] 2 x2 h1 fun x18 =>
  gi [0] 2 x18 h1 fun x19 =>
  cl (ds [(11, C_finds N l0 x19 0 h1)] l0 h1) fun x21 h20 =>
  some (x21, h20))) else (cl (ds [(11, C_finds N l0 3 0 h1)] l0 h1) fun x23 h22 =>
  some (x23, h22)))
def C_called_49 (N : Nat) (l0 : Option Nat) (h : Hp) : Option (Int32 × Hp) :=
  cl (ds [(11, C_finds N l0 2 0 h)] l0 h) fun x2 h1 =>
  some (x2, h1)
def C_called_45 (N : Nat) (l0 : Option Nat) (l2 : Int32) (l3 : Int32) (l4 : Int32) (l5 : Option Nat) (h : Hp) : Option (Int32 × Hp) :=
  if 0 ≤ l3 then (gi [11] 4 l0 h fun x1 =>
  cl (Rows_isChange N l4 x1 h) fun x3 h2 =>
  if x3 = 0 then (cl (ds [(11, C_finds N l0 8 0 h2)] l0 h2) fun x13 h12 =>
  some (x13, h12)) else (gr [1, 2, 3, 6, 7, 10] 3 l5 h2 fun x4 =>
  si x4 l2 l3 h2 fun h5 =>
  gr [1, 2, 3, 6, 7, 10] 4 l5 h5 fun x6 =>
  si x6 l2 l4 h5 fun h7 =>
  gr [11] 8 l0 h7 fun x8 =>
  pz [5] 19 x8 1 h7 fun h9 =>
  cl (ds [(11, C_finds N l0 0 1 h9)] l0 h9) fun x11 h10 =>
  some (x11, h10))) else (C_called_49 N l0 h)
def C_called (N : Nat) (l0 : Option Nat) (l1 : Int32) (l2 : Int32) (l3 : Int32) (l4 : Int32) (h : Hp) : Option (Int32 × Hp) :=
  cl (ds [(11, C_methodAt N l0 l1 h)] l0 h) fun x2 h1 =>
  if x2 = none then (cl (ds [(11, C_finds N l0 4 0 h1)] l0 h1) fun x7 h6 =>
  some (x7, h6)) else (io 6 [1, 2, 3, 6, 7, 10] x2 h1 fun x3 =>
  if x3 = 0 then (if l2 = 1 then (C_called_45 N l0 l2 l3 l4 x2 h1) else (if l2 = 2 then (C_called_45 N l0 l2 l3 l4 x2 h1) else (C_called_49 N l0 h1))) else (cl (ds [(11, C_finds N l0 9 0 h1)] l0 h1) fun x5 h4 =>
  some (x5, h4)))
def C_part_22 (N : Nat) (l0 : Option Nat) (h : Hp) : Option (Int32 × Hp) :=
  cl (ds [(11, C_finds N l0 4 0 h)] l0 h) fun x2 h1 =>
  some (x2, h1)
def C_part_50 (N : Nat) (l0 : Option Nat) (h : Hp) : Option (Int32 × Hp) :=
  cl (ds [(11, C_finds N l0 3 0 h)] l0 h) fun x2 h1 =>
  some (x2, h1)
def C_part_72 (N : Nat) (l0 : Option Nat) (h : Hp) : Option (Int32 × Hp) :=
  cl (ds [(11, C_finds N l0 2 0 h)] l0 h) fun x2 h1 =>
  some (x2, h1)
def C_part (N : Nat) (l0 : Option Nat) (l1 : Int32) (l2 : Int32) (h : Hp) : Option (Int32 × Hp) :=
  cl (ds [(11, C_methodAt N l0 l1 h)] l0 h) fun x2 h1 =>
  cl (ds [(11, C_methodAt N l0 l2 h1)] l0 h1) fun x4 h3 =>
  if x2 = none then (C_part_22 N l0 h3) else (if x4 = none then (C_part_22 N l0 h3) else (io 6 [1, 2, 3, 6, 7, 10] x2 h3 fun x5 =>
  if x5 = 0 then (C_part_50 N l0 h3) else (kc 6 x2 h3 <|
  io 6 [1, 2, 3, 6, 7, 10] x4 h3 fun x6 =>
  if x6 = 0 then (if l1 ≤ l2 then (C_part_72 N l0 h3) else (gi [6] 7 x2 h3 fun x7 =>
  if x7 < 6 then (gr [6] 6 x2 h3 fun x8 =>
  gi [6] 7 x2 h3 fun x9 =>
  sr 18 [1, 2, 3, 6, 7, 10] x8 x9 x4 h3 fun h10 =>
  gi [6] 7 x2 h10 fun x11 =>
  pi [6] 7 x2 (x11 + (1 : Int32)) h10 fun h12 =>
  gr [11] 8 l0 h12 fun x13 =>
  pz [5] 19 x13 1 h12 fun h14 =>
  gi [6] 7 x2 h14 fun x15 =>
  cl (ds [(11, C_finds N l0 0 x15 h14)] l0 h14) fun x17 h16 =>
  some (x17, h16)) else (C_part_72 N l0 h3))) else (C_part_50 N l0 h3))))
def C_isCall (N : Nat) (l0 : Int32) (h : Hp) : Option (Int32 × Hp) :=
  if l0 < 0 then (rz 0 h) else (if 3 ≤ l0 then (rz 0 h) else (rz 1 h))
def C_lead_30 (N : Nat) (l0 : Option Nat) (h : Hp) : Option (Int32 × Hp) :=
  cl (ds [(11, C_finds N l0 2 (-1) h)] l0 h) fun x2 h1 =>
  some (x2, h1)
def C_lead_80 (N : Nat) (l0 : Option Nat) (h : Hp) : Option (Int32 × Hp) :=
  cl (ds [(11, C_finds N l0 2 (-1) h)] l0 h) fun x2 h1 =>
  some (x2, h1)
def C_lead (N : Nat) (l0 : Option Nat) (l1 : Int32) (l2 : Int32) (l3 : Int32) (l4 : Int32) (h : Hp) : Option (Int32 × Hp) :=
  cl (ds [(11, C_methodAt N l0 l1 h)] l0 h) fun x2 h1 =>
  if x2 = none then (cl (ds [(11, C_finds N l0 4 (-1) h1)] l0 h1) fun x18 h17 =>
  some (x18, h17)) else (if l2 < 0 then (C_lead_30 N l0 h1) else (cl (C_isCall N l3 h1) fun x4 h3 =>
  if x4 = 0 then (C_lead_30 N l0 h3) else (gr [11] 9 l0 h3 fun x5 =>
  cl (ds [(1, Little_calledOf N x2 l2 l3 x5 h3), (2, Plain_calledOf N x2 l2 l3 x5 h3), (3, Principle_calledOf N x2 l2 l3 x5 h3), (6, Spliced_calledOf N x2 l2 l3 x5 h3), (7, Surprise_calledOf N x2 l2 l3 x5 h3), (10, Plain_calledOf N x2 l2 l3 x5 h3)] x2 h3) fun x7 h6 =>
  if x7 = 0 then (if l4 < 0 then (C_lead_80 N l0 h6) else (gr [11] 9 l0 h6 fun x8 =>
  gi [0] 1 x8 h6 fun x9 =>
  if l4 < x9 then (gr [11] 9 l0 h6 fun x10 =>
  gr [0] 0 x10 h6 fun x11 =>
  li 13 x11 l4 h6 fun x12 =>
  cl (ds [(11, C_finds N l0 0 x12 h6)] l0 h6) fun x14 h13 =>
  some (x14, h13)) else (C_lead_80 N l0 h6))) else (cl (ds [(11, C_finds N l0 x7 (-1) h6)] l0 h6) fun x16 h15 =>
  some (x16, h15)))))
def C_judge (N : Nat) (l0 : Option Nat) (l1 : Int32) (h : Hp) : Option (Int32 × Hp) :=
  cl (ds [(11, C_methodAt N l0 l1 h)] l0 h) fun x2 h1 =>
  if x2 = none then (cl (ds [(11, C_finds N l0 4 0 h1)] l0 h1) fun x10 h9 =>
  some (x10, h9)) else (cl (ds [(1, Little_judged N x2 h1), (2, Plain_judged N x2 h1), (3, Principle_judged N x2 h1), (6, Spliced_judged N x2 h1), (7, Surprise_judged N x2 h1), (10, Treble_judged N x2 h1)] x2 h1) fun x4 h3 =>
  if 0 ≤ x4 then (cl (ds [(11, C_finds N l0 0 x4 h3)] l0 h3) fun x6 h5 =>
  some (x6, h5)) else (cl (ds [(11, C_finds N l0 (-x4) 0 h3)] l0 h3) fun x8 h7 =>
  some (x8, h7)))
def C_findsRow (N : Nat) (l0 : Option Nat) (l1 : Int64) (h : Hp) : Option (Int64 × Hp) :=
  pi [11] 6 l0 0 h fun h1 =>
  some (l1, h1)
def C_leadHead (N : Nat) (l0 : Option Nat) (l1 : Int32) (l2 : Int32) (h : Hp) : Option (Int64 × Hp) :=
  cl (ds [(11, C_methodAt N l0 l1 h)] l0 h) fun x2 h1 =>
  if x2 = none then (cl (ds [(11, C_finds N l0 4 0 h1)] l0 h1) fun x21 h20 =>
  some ((Int32.toInt64 x21), h20)) else (cl (C_isCall N l2 h1) fun x4 h3 =>
  if x4 = 0 then (cl (ds [(11, C_finds N l0 2 0 h3)] l0 h3) fun x19 h18 =>
  some ((Int32.toInt64 x19), h18)) else (gr [11] 9 l0 h3 fun x5 =>
  cl (ds [(1, Little_calledOf N x2 0 l2 x5 h3), (2, Plain_calledOf N x2 0 l2 x5 h3), (3, Principle_calledOf N x2 0 l2 x5 h3), (6, Spliced_calledOf N x2 0 l2 x5 h3), (7, Surprise_calledOf N x2 0 l2 x5 h3), (10, Plain_calledOf N x2 0 l2 x5 h3)] x2 h3) fun x7 h6 =>
  if x7 = 0 then (gr [11] 9 l0 h6 fun x8 =>
  gi [11] 4 l0 h6 fun x9 =>
  cl (Rows_rounds N x9 h6) fun x11 h10 =>
  cl (ds [(0, Lead_rungFrom N x8 x11 h10)] x8 h10) fun x13 h12 =>
  cl (ds [(11, C_findsRow N l0 x13 h12)] l0 h12) fun x15 h14 =>
  some (x15, h14)) else (cl (ds [(11, C_finds N l0 x7 0 h6)] l0 h6) fun x17 h16 =>
  some ((Int32.toInt64 x17), h16))))
def C_course (N : Nat) (l0 : Option Nat) (l1 : Int32) (h : Hp) : Option (Int32 × Hp) :=
  cl (ds [(11, C_methodAt N l0 l1 h)] l0 h) fun x2 h1 =>
  if x2 = none then (cl (ds [(11, C_finds N l0 4 0 h1)] l0 h1) fun x20 h19 =>
  some (x20, h19)) else (cl (ds [(1, Plain_leadOf N x2 0 h1), (2, Plain_leadOf N x2 0 h1), (3, Principle_leadOf N x2 0 h1), (6, Spliced_leadOf N x2 0 h1), (7, Plain_leadOf N x2 0 h1), (10, Plain_leadOf N x2 0 h1)] x2 h1) fun x4 h3 =>
  gi [0] 2 x4 h3 fun x5 =>
  if x5 = 0 then (gi [11] 4 l0 h3 fun x6 =>
  cl (Rows_rounds N x6 h3) fun x8 h7 =>
  cl (ds [(0, Lead_rungFrom N x4 x8 h7)] x4 h7) fun x10 h9 =>
  gi [11] 4 l0 h9 fun x11 =>
  cl (Rows_orderOf N x10 x11 h9) fun x13 h12 =>
  cl (ds [(11, C_finds N l0 0 x13 h12)] l0 h12) fun x15 h14 =>
  some (x15, h14)) else (gi [0] 2 x4 h3 fun x16 =>
  cl (ds [(11, C_finds N l0 x16 0 h3)] l0 h3) fun x18 h17 =>
  some (x18, h17)))
def C_sharedRows_91 (N : Nat) (re67 : Option Nat → Option Nat → Int64 → Int32 → Int32 → Hp → Option (Int32 × Hp)) (l0 : Option Nat) (l1 : Option Nat) (l4 : Int64) (l6 : Int32) (l7 : Int32) (h : Hp) : Option (Int32 × Hp) :=
  gr [0] 0 l1 h fun x1 =>
  li 13 x1 l7 h fun x2 =>
  cl (Rows_changed N l4 x2 h) fun x4 h3 =>
  nm (l7 + 1) fun x5 =>
  re67 l0 l1 x4 l6 x5 h3
def C_sharedRows_67 (N : Nat) : Nat → Option Nat → Option Nat → Int64 → Int32 → Int32 → Hp → Option (Int32 × Hp)
  | 0, _, _, _, _, _, _ => none
  | n + 1, l0, l1, l4, l6, l7, h =>
  gi [0] 1 l1 h fun x1 =>
  if x1 ≤ l7 then (some (l6, h)) else (gr [11] 10 l0 h fun x2 =>
  cl (ds [(4, Rows_indexOf N x2 l4 h)] x2 h) fun x4 h3 =>
  if x4 < 0 then (C_sharedRows_91 N (C_sharedRows_67 N n) l0 l1 l4 l6 l7 h3) else (nm (l6 + 1) fun x5 =>
  C_sharedRows_91 N (C_sharedRows_67 N n) l0 l1 l4 x5 l7 h3))
def C_sharedRows_14 (N : Nat) : Nat → Option Nat → Option Nat → Int64 → Int32 → Hp → Option (Int32 × Hp)
  | 0, _, _, _, _, _ => none
  | n + 1, l0, l1, l4, l6, h =>
  gi [0] 1 l1 h fun x1 =>
  if x1 ≤ l6 then (gi [11] 4 l0 h fun x2 =>
  cl (Rows_rounds N x2 h) fun x4 h3 =>
  C_sharedRows_67 N N l0 l1 x4 0 0 h3) else (gr [11] 10 l0 h fun x5 =>
  cl (ds [(4, Rows_add N x5 l4 h)] x5 h) fun _ h6 =>
  gr [0] 0 l1 h6 fun x7 =>
  li 13 x7 l6 h6 fun x8 =>
  cl (Rows_changed N l4 x8 h6) fun x10 h9 =>
  nm (l6 + 1) fun x11 =>
  C_sharedRows_14 N n l0 l1 x10 x11 h9)
def C_sharedRows (N : Nat) (l0 : Option Nat) (l1 : Option Nat) (l2 : Int64) (h : Hp) : Option (Int32 × Hp) :=
  gr [11] 10 l0 h fun x1 =>
  cl (ds [(4, Rows_keepFirst N x1 0 h)] x1 h) fun _ h2 =>
  C_sharedRows_14 N N l0 l1 l2 0 h2
def C_falseness (N : Nat) (l0 : Option Nat) (l1 : Int32) (l2 : Int64) (h : Hp) : Option (Int32 × Hp) :=
  cl (ds [(11, C_methodAt N l0 l1 h)] l0 h) fun x2 h1 =>
  if x2 = none then (cl (ds [(11, C_finds N l0 4 0 h1)] l0 h1) fun x19 h18 =>
  some (x19, h18)) else (gi [11] 4 l0 h1 fun x3 =>
  cl (Rows_isRow N l2 x3 h1) fun x5 h4 =>
  if x5 = 0 then (cl (ds [(11, C_finds N l0 8 0 h4)] l0 h4) fun x17 h16 =>
  some (x17, h16)) else (cl (ds [(1, Plain_leadOf N x2 0 h4), (2, Plain_leadOf N x2 0 h4), (3, Principle_leadOf N x2 0 h4), (6, Spliced_leadOf N x2 0 h4), (7, Plain_leadOf N x2 0 h4), (10, Plain_leadOf N x2 0 h4)] x2 h4) fun x7 h6 =>
  gi [0] 2 x7 h6 fun x8 =>
  if x8 = 0 then (cl (ds [(11, C_sharedRows N l0 x7 l2 h6)] l0 h6) fun x10 h9 =>
  cl (ds [(11, C_finds N l0 0 x10 h9)] l0 h9) fun x12 h11 =>
  some (x12, h11)) else (gi [0] 2 x7 h6 fun x13 =>
  cl (ds [(11, C_finds N l0 x13 0 h6)] l0 h6) fun x15 h14 =>
  some (x15, h14))))
def C_hasOwnBody_27 (N : Nat) (l0 : Int32) (l1 : Int32) (u0 : Int32) (h : Hp) : Option (Int32 × Hp) :=
  if l1 = 0 then (if u0 = 0 then (rz 1 h) else (rz 0 h)) else (if l0 = 2 then (rz 0 h) else (rz 1 h))
def C_hasOwnBody_22 (N : Nat) (l0 : Int32) (l1 : Int32) (h : Hp) : Option (Int32 × Hp) :=
  C_hasOwnBody_27 N l0 l1 1 h
def C_hasOwnBody (N : Nat) (l0 : Int32) (l1 : Int32) (h : Hp) : Option (Int32 × Hp) :=
  if l1 = 2 then (rz 1 h) else (if l0 = 1 then (C_hasOwnBody_22 N l0 l1 h) else (if l0 = 2 then (C_hasOwnBody_22 N l0 l1 h) else (if l0 = 3 then (C_hasOwnBody_22 N l0 l1 h) else (C_hasOwnBody_27 N l0 l1 0 h))))
def C_trace (N : Nat) (l0 : Option Nat) (l1 : Int32) (l2 : Int32) (h : Hp) : Option (Int32 × Hp) :=
  if l1 < 0 then (some ((-1), h)) else (if 6 ≤ l1 then (some ((-1), h)) else (if l2 < 0 then (some ((-1), h)) else (if 3 ≤ l2 then (some ((-1), h)) else (cl (C_hasOwnBody N l1 l2 h) fun x2 h1 =>
  if x2 = 0 then (some ((-1), h1)) else (gr [11] 1 l0 h1 fun x3 =>
  li 13 x3 ((l1 * (3 : Int32)) + l2) h1 fun x4 =>
  some (x4, h1))))))
def C_change_22 (N : Nat) (l0 : Option Nat) (h : Hp) : Option (Int64 × Hp) :=
  cl (ds [(11, C_finds N l0 8 0 h)] l0 h) fun x2 h1 =>
  some ((Int32.toInt64 x2), h1)
def C_change (N : Nat) (l0 : Option Nat) (l1 : Int64) (l3 : Int32) (h : Hp) : Option (Int64 × Hp) :=
  gi [11] 4 l0 h fun x1 =>
  cl (Rows_isRow N l1 x1 h) fun x3 h2 =>
  if x3 = 0 then (C_change_22 N l0 h2) else (gi [11] 4 l0 h2 fun x4 =>
  cl (Rows_isChange N l3 x4 h2) fun x6 h5 =>
  if x6 = 0 then (C_change_22 N l0 h5) else (cl (Rows_changed N l1 l3 h5) fun x8 h7 =>
  cl (ds [(11, C_findsRow N l0 x8 h7)] l0 h7) fun x10 h9 =>
  some (x10, h9)))
def C_number (N : Nat) (l0 : Option Nat) (l1 : Int64) (h : Hp) : Option (Int32 × Hp) :=
  gi [11] 4 l0 h fun x1 =>
  cl (Rows_isRow N l1 x1 h) fun x3 h2 =>
  if x3 = 0 then (cl (ds [(11, C_finds N l0 8 (-1) h2)] l0 h2) fun x10 h9 =>
  some (x10, h9)) else (gi [11] 4 l0 h2 fun x4 =>
  cl (Rows_numberOf N l1 x4 h2) fun x6 h5 =>
  cl (ds [(11, C_finds N l0 0 x6 h5)] l0 h5) fun x8 h7 =>
  some (x8, h7))
def C_ofNumber (N : Nat) (l0 : Option Nat) (l1 : Int32) (h : Hp) : Option (Int64 × Hp) :=
  gi [11] 4 l0 h fun x1 =>
  cl (Rows_rowOf N l1 x1 h) fun x3 h2 =>
  if (lg_cmp x3 (0 : Int64)) = 0 then (cl (ds [(11, C_finds N l0 2 0 h2)] l0 h2) fun x7 h6 =>
  some ((Int32.toInt64 x7), h6)) else (cl (ds [(11, C_findsRow N l0 x3 h2)] l0 h2) fun x5 h4 =>
  some (x5, h4))
def C_product_22 (N : Nat) (l0 : Option Nat) (h : Hp) : Option (Int64 × Hp) :=
  cl (ds [(11, C_finds N l0 8 0 h)] l0 h) fun x2 h1 =>
  some ((Int32.toInt64 x2), h1)
def C_product (N : Nat) (l0 : Option Nat) (l1 : Int64) (l3 : Int64) (h : Hp) : Option (Int64 × Hp) :=
  gi [11] 4 l0 h fun x1 =>
  cl (Rows_isRow N l1 x1 h) fun x3 h2 =>
  if x3 = 0 then (C_product_22 N l0 h2) else (gi [11] 4 l0 h2 fun x4 =>
  cl (Rows_isRow N l3 x4 h2) fun x6 h5 =>
  if x6 = 0 then (C_product_22 N l0 h5) else (gi [11] 4 l0 h5 fun x7 =>
  cl (Rows_times N l1 l3 x7 h5) fun x9 h8 =>
  cl (ds [(11, C_findsRow N l0 x9 h8)] l0 h8) fun x11 h10 =>
  some (x11, h10)))
def C_inverse (N : Nat) (l0 : Option Nat) (l1 : Int64) (h : Hp) : Option (Int64 × Hp) :=
  gi [11] 4 l0 h fun x1 =>
  cl (Rows_isRow N l1 x1 h) fun x3 h2 =>
  if x3 = 0 then (cl (ds [(11, C_finds N l0 8 0 h2)] l0 h2) fun x10 h9 =>
  some ((Int32.toInt64 x10), h9)) else (gi [11] 4 l0 h2 fun x4 =>
  cl (Rows_inverseOf N l1 x4 h2) fun x6 h5 =>
  cl (ds [(11, C_findsRow N l0 x6 h5)] l0 h5) fun x8 h7 =>
  some (x8, h7))
def C_order (N : Nat) (l0 : Option Nat) (l1 : Int64) (h : Hp) : Option (Int32 × Hp) :=
  gi [11] 4 l0 h fun x1 =>
  cl (Rows_isRow N l1 x1 h) fun x3 h2 =>
  if x3 = 0 then (cl (ds [(11, C_finds N l0 8 0 h2)] l0 h2) fun x10 h9 =>
  some (x10, h9)) else (gi [11] 4 l0 h2 fun x4 =>
  cl (Rows_orderOf N l1 x4 h2) fun x6 h5 =>
  cl (ds [(11, C_finds N l0 0 x6 h5)] l0 h5) fun x8 h7 =>
  some (x8, h7))
def C_touch_36 (N : Nat) (l0 : Option Nat) (h : Hp) : Option (Int32 × Hp) :=
  cl (ds [(11, C_finds N l0 2 0 h)] l0 h) fun x2 h1 =>
  some (x2, h1)
def C_touch (N : Nat) (l0 : Option Nat) (l1 : Int32) (l2 : Int32) (h : Hp) : Option (Int32 × Hp) :=
  cl (ds [(11, C_methodAt N l0 l1 h)] l0 h) fun x2 h1 =>
  if x2 = none then (cl (ds [(11, C_finds N l0 4 0 h1)] l0 h1) fun x14 h13 =>
  some (x14, h13)) else (cl (C_isCall N l2 h1) fun x4 h3 =>
  if x4 = 0 then (C_touch_36 N l0 h3) else (gr [11] 7 l0 h3 fun x5 =>
  gi [9] 2 x5 h3 fun x6 =>
  if x6 < 100 then (gr [11] 7 l0 h3 fun x7 =>
  cl (ds [(9, Touch_addItem N x7 x2 l2 h3)] x7 h3) fun _ h8 =>
  gr [11] 7 l0 h8 fun x9 =>
  gi [9] 2 x9 h8 fun x10 =>
  cl (ds [(11, C_finds N l0 0 x10 h8)] l0 h8) fun x12 h11 =>
  some (x12, h11)) else (C_touch_36 N l0 h3)))
def C_clear (N : Nat) (l0 : Option Nat) (h : Hp) : Option (Int32 × Hp) :=
  gr [11] 7 l0 h fun x1 =>
  pi [9] 2 x1 0 h fun h2 =>
  gr [11] 7 l0 h2 fun x3 =>
  cl (ds [(9, Touch_beginAnew N x3 h2)] x3 h2) fun _ h4 =>
  some (1, h4)
def C_ring (N : Nat) (l0 : Option Nat) (h : Hp) : Option (Int32 × Hp) :=
  gr [11] 7 l0 h fun x1 =>
  cl (ds [(9, Touch_beginAnew N x1 h)] x1 h) fun _ h2 =>
  some (1, h2)
def C_on_11 (N : Nat) (l0 : Option Nat) (h : Hp) : Option (Int32 × Hp) :=
  gr [11] 7 l0 h fun x1 =>
  gr [9] 5 x1 h fun x2 =>
  gi [4] 3 x2 h fun x3 =>
  cl (ds [(11, C_finds N l0 2 (x3 - (1 : Int32)) h)] l0 h) fun x5 h4 =>
  some (x5, h4)
def C_on (N : Nat) (l0 : Option Nat) (l1 : Int32) (h : Hp) : Option (Int32 × Hp) :=
  if l1 < 0 then (C_on_11 N l0 h) else (if l1 ≤ 1000 then (gr [11] 7 l0 h fun x1 =>
  cl (ds [(9, Touch_ringOn N x1 l1 h)] x1 h) fun x3 h2 =>
  gr [11] 7 l0 h2 fun x4 =>
  gr [9] 5 x4 h2 fun x5 =>
  gi [4] 3 x5 h2 fun x6 =>
  cl (ds [(11, C_finds N l0 x3 (x6 - (1 : Int32)) h2)] l0 h2) fun x8 h7 =>
  some (x8, h7)) else (C_on_11 N l0 h))
def C_at (N : Nat) (l0 : Option Nat) (l1 : Int32) (h : Hp) : Option (Int64 × Hp) :=
  gr [11] 7 l0 h fun x1 =>
  gr [9] 5 x1 h fun x2 =>
  cl (ds [(4, Rows_codeAt N x2 l1 h)] x2 h) fun x4 h3 =>
  some (x4, h3)
def C_round (N : Nat) (l0 : Option Nat) (h : Hp) : Option (Int32 × Hp) :=
  gr [11] 7 l0 h fun x1 =>
  gi [9] 10 x1 h fun x2 =>
  some (x2, h)
def C_falseAt (N : Nat) (l0 : Option Nat) (h : Hp) : Option (Int32 × Hp) :=
  gr [11] 7 l0 h fun x1 =>
  gi [9] 11 x1 h fun x2 =>
  some (x2, h)
def C_proof (N : Nat) (l0 : Option Nat) (h : Hp) : Option (Int32 × Hp) :=
  gr [11] 7 l0 h fun x1 =>
  cl (ds [(9, Touch_makeProof N x1 h)] x1 h) fun x3 h2 =>
  some (x3, h2)
def C_proofAt (N : Nat) (l0 : Option Nat) (l1 : Int32) (h : Hp) : Option (Int32 × Hp) :=
  if l1 < 0 then (some ((-1), h)) else (gr [11] 7 l0 h fun x1 =>
  gi [9] 15 x1 h fun x2 =>
  if l1 < x2 then (gr [11] 7 l0 h fun x3 =>
  gr [9] 14 x3 h fun x4 =>
  li 13 x4 l1 h fun x5 =>
  some (x5, h)) else (some ((-1), h)))
def C_forge (N : Nat) (l0 : Option Nat) (l1 : Int32) (l2 : Int32) (h : Hp) : Option (Int32 × Hp) :=
  if l1 < 0 then (some ((-1), h)) else (gr [11] 7 l0 h fun x1 =>
  gi [9] 15 x1 h fun x2 =>
  if l1 < x2 then (gr [11] 7 l0 h fun x3 =>
  gr [9] 14 x3 h fun x4 =>
  li 13 x4 l1 h fun x5 =>
  gr [11] 7 l0 h fun x6 =>
  gr [9] 14 x6 h fun x7 =>
  si x7 l1 l2 h fun h8 =>
  some (x5, h8)) else (some ((-1), h)))
def C_check (N : Nat) (l0 : Option Nat) (h : Hp) : Option (Int32 × Hp) :=
  gr [11] 7 l0 h fun x1 =>
  cl (ds [(9, Touch_isProven N x1 h)] x1 h) fun x3 h2 =>
  rz x3 h2
def C_ringer_43 (N : Nat) (l0 : Option Nat) (u0 : Option Nat) (u1 : Int32) (h : Hp) : Option (Int32 × Hp) :=
  pi [11] 5 u0 u1 h fun h1 =>
  gi [11] 5 l0 h1 fun x2 =>
  cl (Jk_bitCount N x2 h1) fun x4 h3 =>
  some (x4, h3)
def C_ringer (N : Nat) (l0 : Option Nat) (l1 : Int32) (l2 : Int32) (h : Hp) : Option (Int32 × Hp) :=
  if l1 < 1 then (some ((-1), h)) else (gi [11] 4 l0 h fun x1 =>
  if l1 ≤ x1 then (nm ((1 : Int32) <<< ((l1 - (1 : Int32)) &&& 31)) fun x2 =>
  if l2 = 0 then (gi [11] 5 l0 h fun x3 =>
  C_ringer_43 N l0 l0 (x3 &&& (x2 ^^^ (-1 : Int32))) h) else (gi [11] 5 l0 h fun x4 =>
  C_ringer_43 N l0 l0 (x4 ||| x2) h)) else (some ((-1), h)))
def C_heard (N : Nat) (l0 : Option Nat) (l1 : Int32) (h : Hp) : Option (Int64 × Hp) :=
  gr [11] 7 l0 h fun x1 =>
  gr [9] 5 x1 h fun x2 =>
  cl (ds [(4, Rows_codeAt N x2 l1 h)] x2 h) fun x4 h3 =>
  gi [11] 5 l0 h3 fun x5 =>
  cl (Rows_closedUp N x4 x5 h3) fun x7 h6 =>
  some (x7, h6)
def C_fits (N : Nat) (l0 : Option Nat) (l1 : Int64) (l3 : Int64) (h : Hp) : Option (Int32 × Hp) :=
  gi [11] 4 l0 h fun x1 =>
  cl (Rows_isRow N l1 x1 h) fun x3 h2 =>
  if x3 = 0 then (rz 0 h2) else (gi [11] 4 l0 h2 fun x4 =>
  cl (Rows_isPattern N l3 x4 h2) fun x6 h5 =>
  if x6 = 0 then (rz 0 h5) else (cl (Rows_toldDigits N l3 h5) fun x8 h7 =>
  if (lg_cmp (l1 &&& x8) l3) = 0 then (rz 1 h7) else (rz 0 h7)))
def C_music (N : Nat) (l0 : Option Nat) (l1 : Int64) (h : Hp) : Option (Int32 × Hp) :=
  gi [11] 4 l0 h fun x1 =>
  cl (Rows_isPattern N l1 x1 h) fun x3 h2 =>
  if x3 = 0 then (some ((-1), h2)) else (gr [11] 7 l0 h2 fun x4 =>
  gr [9] 5 x4 h2 fun x5 =>
  cl (ds [(4, Rows_countFitting N x5 l1 h2)] x5 h2) fun x7 h6 =>
  some (x7, h6))
def C_allow_78 (N : Nat) (re41 : Option Nat → Int32 → Int32 → Hp → Option (Int32 × Hp)) (l0 : Option Nat) (l5 : Int32) (u0 : Int32) (u1 : Int32) (h : Hp) : Option (Int32 × Hp) :=
  nm (u0 + u1) fun x1 =>
  nm (l5 + 1) fun x2 =>
  re41 l0 x1 x2 h
def C_allow_41 (N : Nat) : Nat → Option Nat → Int32 → Int32 → Hp → Option (Int32 × Hp)
  | 0, _, _, _, _ => none
  | n + 1, l0, l4, l5, h =>
  gi [11] 3 l0 h fun x1 =>
  if x1 ≤ l5 then (some (l4, h)) else (gr [11] 2 l0 h fun x2 =>
  lr 18 x2 l5 h fun x3 =>
  if x3 = none then (C_allow_78 N (C_allow_41 N n) l0 l5 l4 0 h) else (gi [1, 2, 3, 6, 7, 10] 5 x3 h fun x4 =>
  cl (Jk_bitCount N x4 h) fun x6 h5 =>
  C_allow_78 N (C_allow_41 N n) l0 l5 l4 x6 h5))
def C_allow (N : Nat) (l0 : Option Nat) (l1 : Int32) (l2 : Int32) (h : Hp) : Option (Int32 × Hp) :=
  cl (ds [(11, C_methodAt N l0 l1 h)] l0 h) fun x2 h1 =>
  if x2 = none then (some ((-1), h1)) else (if l2 < 0 then (some ((-1), h1)) else (if l2 < 8 then (pi [1, 2, 3, 6, 7, 10] 5 x2 l2 h1 fun h3 =>
  gr [11] 8 l0 h3 fun x4 =>
  pz [5] 19 x4 1 h3 fun h5 =>
  C_allow_41 N N l0 0 0 h5) else (some ((-1), h1))))
def C_search_112 (N : Nat) (re60 : Option Nat → Int32 → Int32 → Hp → Option (Int32 × Hp)) (l0 : Option Nat) (l5 : Int32) (l6 : Int32) (h : Hp) : Option (Int32 × Hp) :=
  nm (l6 + 1) fun x1 =>
  re60 l0 l5 x1 h
def C_search_60 (N : Nat) : Nat → Option Nat → Int32 → Int32 → Hp → Option (Int32 × Hp)
  | 0, _, _, _, _ => none
  | n + 1, l0, l5, l6, h =>
  gi [11] 3 l0 h fun x1 =>
  if (x1 * (3 : Int32)) ≤ l6 then (gr [11] 8 l0 h fun x2 =>
  cl (ds [(5, Search_seek N x2 l5 h)] x2 h) fun x4 h3 =>
  some (x4, h3)) else (nz 3 <|
  cl (ds [(11, C_methodAt N l0 (l6 / 3) h)] l0 h) fun x6 h5 =>
  if x6 = none then (C_search_112 N (C_search_60 N n) l0 l5 l6 h5) else (gi [1, 2, 3, 6, 7, 10] 5 x6 h5 fun x7 =>
  nz 3 <|
  if ((x7 >>> ((l6 - l6 / 3 * 3) &&& 31)) &&& (1 : Int32)) = 0 then (C_search_112 N (C_search_60 N n) l0 l5 l6 h5) else (gr [11] 8 l0 h5 fun x8 =>
  cl (ds [(5, Search_offer N x8 x6 l6 h5)] x8 h5) fun _ h9 =>
  C_search_112 N (C_search_60 N n) l0 l5 l6 h9)))
def C_search (N : Nat) (l0 : Option Nat) (l1 : Int32) (l2 : Int32) (l3 : Int64) (l5 : Int32) (h : Hp) : Option (Int32 × Hp) :=
  if l1 < 1 then (some ((-1), h)) else (if 12 < l1 then (some ((-1), h)) else (if 0 ≤ l2 then (gi [11] 4 l0 h fun x1 =>
  cl (Rows_isPattern N l3 x1 h) fun x3 h2 =>
  if x3 = 0 then (some ((-1), h2)) else (if l5 < 0 then (some ((-1), h2)) else (if l5 ≤ 1000 then (gr [11] 8 l0 h2 fun x4 =>
  gi [11] 4 l0 h2 fun x5 =>
  cl (ds [(5, Search_begin N x4 x5 l1 l2 l3 h2)] x4 h2) fun _ h6 =>
  C_search_60 N N l0 l5 0 h6) else (some ((-1), h2))))) else (some ((-1), h))))
def C_goOn (N : Nat) (l0 : Option Nat) (l1 : Int32) (h : Hp) : Option (Int32 × Hp) :=
  gr [11] 8 l0 h fun x1 =>
  cl (ds [(5, Search_isThere N x1 h)] x1 h) fun x3 h2 =>
  if x3 = 0 then (some ((-1), h2)) else (if l1 < 0 then (some ((-1), h2)) else (if l1 ≤ 1000 then (gr [11] 8 l0 h2 fun x4 =>
  gi [5] 19 x4 h2 fun x5 =>
  if x5 = 0 then (gr [11] 8 l0 h2 fun x6 =>
  cl (ds [(5, Search_seek N x6 l1 h2)] x6 h2) fun x8 h7 =>
  some (x8, h7)) else (some ((-2), h2))) else (some ((-1), h2))))
def C_found (N : Nat) (l0 : Option Nat) (l1 : Int32) (h : Hp) : Option (Int32 × Hp) :=
  gr [11] 8 l0 h fun x1 =>
  cl (ds [(5, Search_itemFound N x1 l1 h)] x1 h) fun x3 h2 =>
  some (x3, h2)
def C_count (N : Nat) (l0 : Option Nat) (l1 : Int32) (h : Hp) : Option (Int32 × Hp) :=
  sw l1 [(0, gi [11] 4 l0 h fun x1 =>
  some (x1, h)), (1, gi [11] 3 l0 h fun x2 =>
  some (x2, h)), (2, gr [11] 7 l0 h fun x3 =>
  gi [9] 2 x3 h fun x4 =>
  some (x4, h)), (3, gr [11] 0 l0 h fun x5 =>
  gi [8] 1 x5 h fun x6 =>
  some (x6, h)), (4, gr [11] 7 l0 h fun x7 =>
  gi [9] 15 x7 h fun x8 =>
  some (x8, h)), (5, gr [11] 8 l0 h fun x9 =>
  gi [5] 18 x9 h fun x10 =>
  some (x10, h)), (6, gi [11] 6 l0 h fun x11 =>
  some (x11, h))] (some ((-1), h))
def M_rounds_7 (N : Nat) : Nat → Int64 → Int32 → Hp → Option (Int64 × Hp)
  | 0, _, _, _ => none
  | n + 1, l1, l3, h =>
  if l3 < 1 then (some (l1, h)) else (nm (((16 : Int64) * l1) + (Int32.toInt64 l3)) fun x1 =>
  nm (l3 + (-1)) fun x2 =>
  M_rounds_7 N n x1 x2 h)
def M_rounds (N : Nat) (l0 : Option Nat) (h : Hp) : Option (Int64 × Hp) :=
  gi [12] 2 l0 h fun x1 =>
  M_rounds_7 N N 0 x1 h
def M_anew (N : Nat) (l0 : Option Nat) (h : Hp) : Option (Unit × Hp) :=
  gr [12] 20 l0 h fun x1 =>
  cl (ds [(12, M_rounds N l0 h)] l0 h) fun x3 h2 =>
  sl x1 0 x3 h2 fun h4 =>
  pi [12] 21 l0 1 h4 fun h5 =>
  pi [12] 22 l0 0 h5 fun h6 =>
  pi [12] 24 l0 0 h6 fun h7 =>
  pi [12] 25 l0 0 h7 fun h8 =>
  pz [12] 26 l0 0 h8 fun h9 =>
  pi [12] 27 l0 (-1) h9 fun h10 =>
  some ((), h10)
def M_begin_22 (N : Nat) : Nat → Option Nat → Int32 → Hp → Option (Unit × Hp)
  | 0, _, _, _ => none
  | n + 1, l0, l2, h =>
  if 13 ≤ l2 then (pz [12] 33 l0 0 h fun h1 =>
  pz [12] 34 l0 0 h1 fun h2 =>
  pi [12] 39 l0 0 h2 fun h3 =>
  pi [12] 53 l0 0 h3 fun h4 =>
  cl (ds [(12, M_anew N l0 h4)] l0 h4) fun _ h5 =>
  some ((), h5)) else (gr [12] 31 l0 h fun x6 =>
  sz x6 l2 0 h fun h7 =>
  nm (l2 + 1) fun x8 =>
  M_begin_22 N n l0 x8 h7)
def M_begin (N : Nat) (l0 : Option Nat) (l1 : Int32) (h : Hp) : Option (Unit × Hp) :=
  pi [12] 2 l0 l1 h fun h1 =>
  pi [12] 5 l0 0 h1 fun h2 =>
  pi [12] 19 l0 0 h2 fun h3 =>
  pi [12] 30 l0 (-1) h3 fun h4 =>
  M_begin_22 N N l0 0 h4
def M_init (N : Nat) (l0 : Option Nat) (h : Hp) : Option (Unit × Hp) :=
  kn l0 <|
  na 13 300 h fun x1 h2 =>
  pr [12] 0 l0 x1 h2 fun h3 =>
  na 13 18 h3 fun x4 h5 =>
  pr [12] 4 l0 x4 h5 fun h6 =>
  na 13 30 h6 fun x7 h8 =>
  pr [12] 6 l0 x7 h8 fun h9 =>
  na 13 30 h9 fun x10 h11 =>
  pr [12] 7 l0 x10 h11 fun h12 =>
  na 13 3000 h12 fun x13 h14 =>
  pr [12] 8 l0 x13 h14 fun h15 =>
  na 13 90 h15 fun x16 h17 =>
  pr [12] 9 l0 x16 h17 fun h18 =>
  na 13 90 h18 fun x19 h20 =>
  pr [12] 10 l0 x19 h20 fun h21 =>
  na 13 30 h21 fun x22 h23 =>
  pr [12] 11 l0 x22 h23 fun h24 =>
  na 13 180 h24 fun x25 h26 =>
  pr [12] 12 l0 x25 h26 fun h27 =>
  na 13 100 h27 fun x28 h29 =>
  pr [12] 13 l0 x28 h29 fun h30 =>
  pz [12] 16 l0 1 h30 fun h31 =>
  na 13 100 h31 fun x32 h33 =>
  pr [12] 17 l0 x32 h33 fun h34 =>
  na 13 100 h34 fun x35 h36 =>
  pr [12] 18 l0 x35 h36 fun h37 =>
  na 14 2001 h37 fun x38 h39 =>
  pr [12] 20 l0 x38 h39 fun h40 =>
  na 13 100 h40 fun x41 h42 =>
  pr [12] 23 l0 x41 h42 fun h43 =>
  na 13 2001 h43 fun x44 h45 =>
  pr [12] 28 l0 x44 h45 fun h46 =>
  na 13 2001 h46 fun x47 h48 =>
  pr [12] 29 l0 x47 h48 fun h49 =>
  na 16 13 h49 fun x50 h51 =>
  pr [12] 31 l0 x50 h51 fun h52 =>
  na 13 30 h52 fun x53 h54 =>
  pr [12] 32 l0 x53 h54 fun h55 =>
  na 13 90 h55 fun x56 h57 =>
  pr [12] 40 l0 x56 h57 fun h58 =>
  na 15 1080 h58 fun x59 h60 =>
  pr [12] 42 l0 x59 h60 fun h61 =>
  na 13 12 h61 fun x62 h63 =>
  pr [12] 45 l0 x62 h63 fun h64 =>
  na 13 12 h64 fun x65 h66 =>
  pr [12] 46 l0 x65 h66 fun h67 =>
  na 14 1201 h67 fun x68 h69 =>
  pr [12] 47 l0 x68 h69 fun h70 =>
  na 13 100 h70 fun x71 h72 =>
  pr [12] 49 l0 x71 h72 fun h73 =>
  na 13 12 h73 fun x74 h75 =>
  pr [12] 52 l0 x74 h75 fun h76 =>
  na 13 600 h76 fun x77 h78 =>
  pr [12] 54 l0 x77 h78 fun h79 =>
  na 13 13 h79 fun x80 h81 =>
  pr [12] 57 l0 x80 h81 fun h82 =>
  na 14 100 h82 fun x83 h84 =>
  pr [12] 58 l0 x83 h84 fun h85 =>
  cl (ds [(12, M_begin N l0 6 h85)] l0 h85) fun _ h86 =>
  some ((), h86)
def M_bell (N : Nat) (l0 : Int64) (l2 : Int32) (h : Hp) : Option (Int32 × Hp) :=
  some (((Int64.toInt32 (l0 >>> (Int32.toInt64 ((4 : Int32) * (l2 - (1 : Int32))) &&& 63))) &&& (15 : Int32)), h)
def M_isRow_26 (N : Nat) : Nat → Option Nat → Int64 → Int32 → Int32 → Hp → Option (Int32 × Hp)
  | 0, _, _, _, _, _ => none
  | n + 1, l0, l1, l3, l4, h =>
  gi [12] 2 l0 h fun x1 =>
  if x1 < l4 then (rz 1 h) else (cl (M_bell N l1 l4 h) fun x3 h2 =>
  if x3 < 1 then (rz 0 h2) else (gi [12] 2 l0 h2 fun x4 =>
  if x4 < x3 then (rz 0 h2) else (if ((l3 >>> (x3 &&& 31)) &&& (1 : Int32)) = 1 then (rz 0 h2) else (nm (l3 ||| ((1 : Int32) <<< (x3 &&& 31))) fun x5 =>
  nm (l4 + 1) fun x6 =>
  M_isRow_26 N n l0 l1 x5 x6 h2))))
def M_isRow (N : Nat) (l0 : Option Nat) (l1 : Int64) (h : Hp) : Option (Int32 × Hp) :=
  if (lg_cmp l1 (0 : Int64)) < 0 then (rz 0 h) else (gi [12] 2 l0 h fun x1 =>
  if (lg_cmp (l1 >>> (Int32.toInt64 ((4 : Int32) * x1) &&& 63)) (0 : Int64)) = 0 then (M_isRow_26 N N l0 l1 0 1 h) else (rz 0 h))
def M_isChange (N : Nat) (l0 : Option Nat) (l1 : Int32) (h : Hp) : Option (Int32 × Hp) :=
  if l1 < 0 then (rz 0 h) else (gi [12] 2 l0 h fun x1 =>
  if (l1 >>> ((x1 - (1 : Int32)) &&& 31)) = 0 then (if (l1 &&& (l1 <<< ((1 : Int32) &&& 31))) = 0 then (rz 1 h) else (rz 0 h)) else (rz 0 h))
def M_done_76 (N : Nat) (re5 : Int32 → Int64 → Int32 → Hp → Option (Int64 × Hp)) (l2 : Int32) (l3 : Int64) (l5 : Int32) (h : Hp) : Option (Int64 × Hp) :=
  nm (l5 + 1) fun x1 =>
  re5 l2 l3 x1 h
def M_done_5 (N : Nat) : Nat → Int32 → Int64 → Int32 → Hp → Option (Int64 × Hp)
  | 0, _, _, _, _ => none
  | n + 1, l2, l3, l5, h =>
  if (l2 >>> ((l5 - (1 : Int32)) &&& 31)) = 0 then (some (l3, h)) else (if ((l2 >>> ((l5 - (1 : Int32)) &&& 31)) &&& (1 : Int32)) = 1 then (cl (M_bell N l3 l5 h) fun x2 h1 =>
  nm (Int32.toInt64 x2) fun x3 =>
  cl (M_bell N l3 (l5 + (1 : Int32)) h1) fun x5 h4 =>
  nm (Int32.toInt64 x5) fun x6 =>
  nm (l3 + (((x6 - x3) * ((1 : Int64) <<< (Int32.toInt64 ((4 : Int32) * (l5 - (1 : Int32))) &&& 63))) + ((x3 - x6) * ((1 : Int64) <<< (Int32.toInt64 ((4 : Int32) * l5) &&& 63))))) fun x7 =>
  M_done_76 N (M_done_5 N n) l2 x7 l5 h4) else (M_done_76 N (M_done_5 N n) l2 l3 l5 h))
def M_done (N : Nat) (l0 : Int64) (l2 : Int32) (h : Hp) : Option (Int64 × Hp) :=
  M_done_5 N N l2 l0 1 h
def M_numberOf_54 (N : Nat) (re5 : Option Nat → Int64 → Int32 → Int32 → Hp → Option (Int32 × Hp)) (re23 : Option Nat → Int64 → Int32 → Int32 → Int32 → Int32 → Hp → Option (Int32 × Hp)) (l0 : Option Nat) (l1 : Int64) (l3 : Int32) (l4 : Int32) (l6 : Int32) (u0 : Int32) (u1 : Int32) (h : Hp) : Option (Int32 × Hp) :=
  nm (u0 + u1) fun x1 =>
  nm (l6 + 1) fun x2 =>
  re23 l0 l1 l3 l4 x1 x2 h
def M_numberOf_23 (N : Nat) (re5 : Option Nat → Int64 → Int32 → Int32 → Hp → Option (Int32 × Hp)) : Nat → Option Nat → Int64 → Int32 → Int32 → Int32 → Int32 → Hp → Option (Int32 × Hp)
  | 0, _, _, _, _, _, _, _ => none
  | n + 1, l0, l1, l3, l4, l5, l6, h =>
  gi [12] 2 l0 h fun x1 =>
  if x1 < l6 then (gi [12] 2 l0 h fun x2 =>
  nm ((l3 * ((x2 - l4) + (1 : Int32))) + l5) fun x3 =>
  nm (l4 + 1) fun x4 =>
  re5 l0 l1 x3 x4 h) else (cl (M_bell N l1 l6 h) fun x6 h5 =>
  cl (M_bell N l1 l4 h5) fun x8 h7 =>
  if x8 ≤ x6 then (M_numberOf_54 N re5 (M_numberOf_23 N re5 n) l0 l1 l3 l4 l6 l5 0 h7) else (M_numberOf_54 N re5 (M_numberOf_23 N re5 n) l0 l1 l3 l4 l6 l5 1 h7))
def M_numberOf_5 (N : Nat) : Nat → Option Nat → Int64 → Int32 → Int32 → Hp → Option (Int32 × Hp)
  | 0, _, _, _, _, _ => none
  | n + 1, l0, l1, l3, l4, h =>
  gi [12] 2 l0 h fun x1 =>
  if x1 < l4 then (some (l3, h)) else (nm (l4 + (1 : Int32)) fun x2 =>
  M_numberOf_23 N (M_numberOf_5 N n) N l0 l1 l3 l4 0 x2 h)
def M_numberOf (N : Nat) (l0 : Option Nat) (l1 : Int64) (h : Hp) : Option (Int32 × Hp) :=
  M_numberOf_5 N N l0 l1 0 1 h
def M_all_4 (N : Nat) : Nat → Option Nat → Int32 → Int32 → Hp → Option (Int32 × Hp)
  | 0, _, _, _, _ => none
  | n + 1, l0, l1, l2, h =>
  gi [12] 2 l0 h fun x1 =>
  if x1 < l2 then (some (l1, h)) else (nm (l1 * l2) fun x2 =>
  nm (l2 + 1) fun x3 =>
  M_all_4 N n l0 x2 x3 h)
def M_all (N : Nat) (l0 : Option Nat) (h : Hp) : Option (Int32 × Hp) :=
  M_all_4 N N l0 1 2 h
def M_rowOf_91 (N : Nat) (re17 : Option Nat → Int64 → Int32 → Int32 → Int32 → Int32 → Hp → Option (Int64 × Hp)) (re57 : Option Nat → Int64 → Int32 → Int32 → Int32 → Int32 → Int32 → Int32 → Hp → Option (Int64 × Hp)) (l0 : Option Nat) (l2 : Int64) (l4 : Int32) (l5 : Int32) (l6 : Int32) (l7 : Int32) (l9 : Int32) (u0 : Int32) (u1 : Int32) (h : Hp) : Option (Int64 × Hp) :=
  nm (u0 - u1) fun x1 =>
  nm (l9 + 1) fun x2 =>
  re57 l0 l2 l4 l5 l6 l7 x1 x2 h
def M_rowOf_73 (N : Nat) (re17 : Option Nat → Int64 → Int32 → Int32 → Int32 → Int32 → Hp → Option (Int64 × Hp)) (re57 : Option Nat → Int64 → Int32 → Int32 → Int32 → Int32 → Int32 → Int32 → Hp → Option (Int64 × Hp)) (l0 : Option Nat) (l2 : Int64) (l4 : Int32) (l5 : Int32) (l6 : Int32) (l7 : Int32) (l8 : Int32) (l9 : Int32) (h : Hp) : Option (Int64 × Hp) :=
  if ((l6 >>> (l9 &&& 31)) &&& (1 : Int32)) = 1 then (M_rowOf_91 N re17 re57 l0 l2 l4 l5 l6 l7 l9 l8 0 h) else (M_rowOf_91 N re17 re57 l0 l2 l4 l5 l6 l7 l9 l8 1 h)
def M_rowOf_57 (N : Nat) (re17 : Option Nat → Int64 → Int32 → Int32 → Int32 → Int32 → Hp → Option (Int64 × Hp)) : Nat → Option Nat → Int64 → Int32 → Int32 → Int32 → Int32 → Int32 → Int32 → Hp → Option (Int64 × Hp)
  | 0, _, _, _, _, _, _, _, _, _ => none
  | n + 1, l0, l2, l4, l5, l6, l7, l8, l9, h =>
  if ((l6 >>> (l9 &&& 31)) &&& (1 : Int32)) = 1 then (M_rowOf_73 N re17 (M_rowOf_57 N re17 n) l0 l2 l4 l5 l6 l7 l8 l9 h) else (if l8 ≤ 0 then (nm (l6 ||| ((1 : Int32) <<< (l9 &&& 31))) fun x1 =>
  nm (l2 + ((Int32.toInt64 l9) <<< (Int32.toInt64 ((4 : Int32) * (l7 - (1 : Int32))) &&& 63))) fun x2 =>
  nm (l7 + 1) fun x3 =>
  re17 l0 x2 l4 l5 x1 x3 h) else (M_rowOf_73 N re17 (M_rowOf_57 N re17 n) l0 l2 l4 l5 l6 l7 l8 l9 h))
def M_rowOf_17 (N : Nat) : Nat → Option Nat → Int64 → Int32 → Int32 → Int32 → Int32 → Hp → Option (Int64 × Hp)
  | 0, _, _, _, _, _, _, _ => none
  | n + 1, l0, l2, l4, l5, l6, l7, h =>
  gi [12] 2 l0 h fun x1 =>
  if x1 < l7 then (some (l2, h)) else (gi [12] 2 l0 h fun x2 =>
  nz ((x2 - l7) + (1 : Int32)) <|
  nm (l5 / ((x2 - l7) + (1 : Int32))) fun x3 =>
  nz x3 <|
  nm (l4 / x3) fun x4 =>
  nz x3 <|
  nm (l4 - l4 / x3 * x3) fun x5 =>
  M_rowOf_57 N (M_rowOf_17 N n) N l0 l2 x5 x3 l6 l7 x4 1 h)
def M_rowOf (N : Nat) (l0 : Option Nat) (l1 : Int32) (h : Hp) : Option (Int64 × Hp) :=
  cl (ds [(12, M_all N l0 h)] l0 h) fun x2 h1 =>
  M_rowOf_17 N N l0 0 l1 x2 0 1 h1
def M_times_6 (N : Nat) : Nat → Option Nat → Int64 → Int64 → Int64 → Int32 → Hp → Option (Int64 × Hp)
  | 0, _, _, _, _, _, _ => none
  | n + 1, l0, l1, l3, l5, l7, h =>
  gi [12] 2 l0 h fun x1 =>
  if x1 < l7 then (some (l5, h)) else (cl (M_bell N l3 l7 h) fun x3 h2 =>
  cl (M_bell N l1 x3 h2) fun x5 h4 =>
  nm (l5 + ((Int32.toInt64 x5) <<< (Int32.toInt64 ((4 : Int32) * (l7 - (1 : Int32))) &&& 63))) fun x6 =>
  nm (l7 + 1) fun x7 =>
  M_times_6 N n l0 l1 l3 x6 x7 h4)
def M_times (N : Nat) (l0 : Option Nat) (l1 : Int64) (l3 : Int64) (h : Hp) : Option (Int64 × Hp) :=
  M_times_6 N N l0 l1 l3 0 1 h
def M_isPattern_23 (N : Nat) : Nat → Option Nat → Int64 → Int32 → Hp → Option (Int32 × Hp)
  | 0, _, _, _, _ => none
  | n + 1, l0, l1, l3, h =>
  gi [12] 2 l0 h fun x1 =>
  if x1 < l3 then (rz 1 h) else (cl (M_bell N l1 l3 h) fun x3 h2 =>
  gi [12] 2 l0 h2 fun x4 =>
  if x3 ≤ x4 then (nm (l3 + 1) fun x5 =>
  M_isPattern_23 N n l0 l1 x5 h2) else (rz 0 h2))
def M_isPattern (N : Nat) (l0 : Option Nat) (l1 : Int64) (h : Hp) : Option (Int32 × Hp) :=
  if (lg_cmp l1 (0 : Int64)) < 0 then (rz 0 h) else (gi [12] 2 l0 h fun x1 =>
  if (lg_cmp (l1 >>> (Int32.toInt64 ((4 : Int32) * x1) &&& 63)) (0 : Int64)) = 0 then (M_isPattern_23 N N l0 l1 1 h) else (rz 0 h))
def M_isFitting_38 (N : Nat) (re3 : Option Nat → Int64 → Int64 → Int32 → Hp → Option (Int32 × Hp)) (l0 : Option Nat) (l1 : Int64) (l3 : Int64) (l5 : Int32) (h : Hp) : Option (Int32 × Hp) :=
  nm (l5 + 1) fun x1 =>
  re3 l0 l1 l3 x1 h
def M_isFitting_3 (N : Nat) : Nat → Option Nat → Int64 → Int64 → Int32 → Hp → Option (Int32 × Hp)
  | 0, _, _, _, _, _ => none
  | n + 1, l0, l1, l3, l5, h =>
  gi [12] 2 l0 h fun x1 =>
  if x1 < l5 then (rz 1 h) else (cl (M_bell N l3 l5 h) fun x3 h2 =>
  if x3 = 0 then (M_isFitting_38 N (M_isFitting_3 N n) l0 l1 l3 l5 h2) else (cl (M_bell N l3 l5 h2) fun x5 h4 =>
  cl (M_bell N l1 l5 h4) fun x7 h6 =>
  if x5 = x7 then (M_isFitting_38 N (M_isFitting_3 N n) l0 l1 l3 l5 h6) else (rz 0 h6)))
def M_isFitting (N : Nat) (l0 : Option Nat) (l1 : Int64) (l3 : Int64) (h : Hp) : Option (Int32 × Hp) :=
  M_isFitting_3 N N l0 l1 l3 1 h
def M_finds (N : Nat) (l0 : Option Nat) (l1 : Int32) (h : Hp) : Option (Int32 × Hp) :=
  pi [12] 3 l0 l1 h fun h1 =>
  if l1 = 0 then (rz 0 h1) else (rz 1 h1)
def M_isMethod (N : Nat) (l0 : Option Nat) (l1 : Int32) (h : Hp) : Option (Int32 × Hp) :=
  if l1 < 0 then (rz 0 h) else (gi [12] 5 l0 h fun x1 =>
  if x1 ≤ l1 then (rz 0 h) else (rz 1 h))
def M_feed_71 (N : Nat) (re18 : Option Nat → Int32 → Int32 → Int32 → Int32 → Int32 → Int32 → Hp → Option (Int32 × Hp)) (l0 : Option Nat) (l1 : Int32) (l2 : Int32) (l3 : Int32) (l4 : Int32) (l5 : Int32) (l6 : Int32) (u0 : Int32) (h : Hp) : Option (Int32 × Hp) :=
  gr [12] 0 l0 h fun x1 =>
  gi [12] 1 l0 h fun x2 =>
  nz 4 <|
  si x1 (x2 + l6) ((u0 >>> (((24 : Int32) - ((8 : Int32) * (l6 - l6 / 4 * 4))) &&& 31)) &&& (255 : Int32)) h fun h3 =>
  nm (l6 + 1) fun x4 =>
  re18 l0 l1 l2 l3 l4 l5 x4 h3
def M_feed_18 (N : Nat) : Nat → Option Nat → Int32 → Int32 → Int32 → Int32 → Int32 → Int32 → Hp → Option (Int32 × Hp)
  | 0, _, _, _, _, _, _, _, _ => none
  | n + 1, l0, l1, l2, l3, l4, l5, l6, h =>
  if 20 ≤ l6 then (gi [12] 1 l0 h fun x1 =>
  pi [12] 1 l0 (x1 + (20 : Int32)) h fun h2 =>
  gi [12] 1 l0 h2 fun x3 =>
  some (x3, h2)) else (if 4 ≤ l6 then (if 8 ≤ l6 then (if 12 ≤ l6 then (if 16 ≤ l6 then (M_feed_71 N (M_feed_18 N n) l0 l1 l2 l3 l4 l5 l6 l5 h) else (M_feed_71 N (M_feed_18 N n) l0 l1 l2 l3 l4 l5 l6 l4 h)) else (M_feed_71 N (M_feed_18 N n) l0 l1 l2 l3 l4 l5 l6 l3 h)) else (M_feed_71 N (M_feed_18 N n) l0 l1 l2 l3 l4 l5 l6 l2 h)) else (M_feed_71 N (M_feed_18 N n) l0 l1 l2 l3 l4 l5 l6 l1 h))
def M_feed (N : Nat) (l0 : Option Nat) (l1 : Int32) (l2 : Int32) (l3 : Int32) (l4 : Int32) (l5 : Int32) (h : Hp) : Option (Int32 × Hp) :=
  gi [12] 1 l0 h fun x1 =>
  if (x1 + (20 : Int32)) ≤ 300 then (M_feed_18 N N l0 l1 l2 l3 l4 l5 0 h) else (some ((-1), h))
def M_end (N : Nat) (l0 : Option Nat) (l1 : Int32) (h : Hp) : Option (Int32 × Hp) :=
  if l1 < 0 then (some ((-1), h)) else (gi [12] 1 l0 h fun x1 =>
  if l1 ≤ x1 then (pi [12] 1 l0 l1 h fun h2 =>
  gi [12] 1 l0 h2 fun x3 =>
  some (x3, h2)) else (some ((-1), h)))
def M_bells (N : Nat) (l0 : Option Nat) (l1 : Int32) (h : Hp) : Option (Int32 × Hp) :=
  if l1 < 4 then (some ((-1), h)) else (if l1 ≤ 12 then (cl (ds [(12, M_begin N l0 l1 h)] l0 h) fun _ h1 =>
  some (1, h1)) else (some ((-1), h)))
def M_method (N : Nat) (l0 : Option Nat) (l1 : Int32) (h : Hp) : Option (Int32 × Hp) :=
  if l1 < 0 then (some ((-1), h)) else (if l1 < 6 then (gi [12] 5 l0 h fun x1 =>
  if x1 = 30 then (some ((-2), h)) else (gi [12] 5 l0 h fun x2 =>
  gr [12] 6 l0 h fun x3 =>
  si x3 x2 l1 h fun h4 =>
  gr [12] 7 l0 h4 fun x5 =>
  si x5 x2 (-1) h4 fun h6 =>
  gr [12] 9 l0 h6 fun x7 =>
  si x7 (((3 : Int32) * x2) + (1 : Int32)) (-1) h6 fun h8 =>
  gr [12] 9 l0 h8 fun x9 =>
  si x9 (((3 : Int32) * x2) + (2 : Int32)) (-1) h8 fun h10 =>
  gr [12] 11 l0 h10 fun x11 =>
  si x11 x2 0 h10 fun h12 =>
  gr [12] 32 l0 h12 fun x13 =>
  si x13 x2 0 h12 fun h14 =>
  gi [12] 5 l0 h14 fun x15 =>
  pi [12] 5 l0 (x15 + (1 : Int32)) h14 fun h16 =>
  pz [12] 34 l0 1 h16 fun h17 =>
  some (x2, h17))) else (some ((-1), h)))
def M_placeOf_19 (N : Nat) (l0 : Int32) (h : Hp) : Option (Int32 × Hp) :=
  if l0 = 48 then (some (10, h)) else (if l0 = 69 then (some (11, h)) else (if l0 = 84 then (some (12, h)) else (some (0, h))))
def M_placeOf (N : Nat) (l0 : Int32) (h : Hp) : Option (Int32 × Hp) :=
  if l0 < 49 then (M_placeOf_19 N l0 h) else (if 57 < l0 then (M_placeOf_19 N l0 h) else (some ((l0 - (48 : Int32)), h)))
def M_cross_4 (N : Nat) : Nat → Option Nat → Int32 → Int32 → Hp → Option (Int32 × Hp)
  | 0, _, _, _, _ => none
  | n + 1, l0, l1, l2, h =>
  gi [12] 2 l0 h fun x1 =>
  if x1 < (l2 + (1 : Int32)) then (some (l1, h)) else (nm (l1 ||| ((1 : Int32) <<< ((l2 - (1 : Int32)) &&& 31))) fun x2 =>
  nm (l2 + 2) fun x3 =>
  M_cross_4 N n l0 x2 x3 h)
def M_cross (N : Nat) (l0 : Option Nat) (h : Hp) : Option (Int32 × Hp) :=
  M_cross_4 N N l0 0 1 h
def M_places_92 (N : Nat) (re4 : Option Nat → Int32 → Int32 → Hp → Option (Int32 × Hp)) : Nat → Option Nat → Int32 → Int32 → Int32 → Hp → Option (Int32 × Hp)
  | 0, _, _, _, _, _ => none
  | n + 1, l0, l1, l3, l4, h =>
  if l3 ≤ (l4 + (1 : Int32)) then (gi [12] 56 l0 h fun x1 =>
  pi [12] 56 l0 (x1 + (1 : Int32)) h fun h2 =>
  re4 l0 l1 l3 h2) else (nm (l1 ||| ((1 : Int32) <<< ((l4 - (1 : Int32)) &&& 31))) fun x3 =>
  nm (l4 + 2) fun x4 =>
  M_places_92 N re4 n l0 x3 l3 x4 h)
def M_places_90 (N : Nat) (re4 : Option Nat → Int32 → Int32 → Hp → Option (Int32 × Hp)) (l0 : Option Nat) (l1 : Int32) (l3 : Int32) (u0 : Int32) (h : Hp) : Option (Int32 × Hp) :=
  M_places_92 N re4 N l0 l1 l3 u0 h
def M_places_73 (N : Nat) (re4 : Option Nat → Int32 → Int32 → Hp → Option (Int32 × Hp)) (l0 : Option Nat) (l1 : Int32) (l2 : Int32) (l3 : Int32) (h : Hp) : Option (Int32 × Hp) :=
  if l2 = 0 then (nz 2 <|
  M_places_90 N re4 l0 l1 l3 ((1 : Int32) + ((l3 - (1 : Int32)) - (l3 - (1 : Int32)) / 2 * 2)) h) else (M_places_90 N re4 l0 l1 l3 (l2 + (1 : Int32)) h)
def M_places_134 (N : Nat) : Nat → Option Nat → Int32 → Int32 → Hp → Option (Int32 × Hp)
  | 0, _, _, _, _ => none
  | n + 1, l0, l1, l3, h =>
  gi [12] 2 l0 h fun x1 =>
  if x1 < (l3 + (1 : Int32)) then (gr [12] 54 l0 h fun x2 =>
  gi [12] 55 l0 h fun x3 =>
  si x2 x3 l1 h fun h4 =>
  gi [12] 55 l0 h4 fun x5 =>
  pi [12] 55 l0 (x5 + (1 : Int32)) h4 fun h6 =>
  rz 1 h6) else (nm (l1 ||| ((1 : Int32) <<< ((l3 - (1 : Int32)) &&& 31))) fun x7 =>
  nm (l3 + 2) fun x8 =>
  M_places_134 N n l0 x7 x8 h)
def M_places_130 (N : Nat) (l0 : Option Nat) (l1 : Int32) (l2 : Int32) (h : Hp) : Option (Int32 × Hp) :=
  nm (l2 + (1 : Int32)) fun x1 =>
  M_places_134 N N l0 l1 x1 h
def M_places_4 (N : Nat) : Nat → Option Nat → Int32 → Int32 → Hp → Option (Int32 × Hp)
  | 0, _, _, _, _ => none
  | n + 1, l0, l1, l2, h =>
  gi [12] 56 l0 h fun x1 =>
  gi [12] 1 l0 h fun x2 =>
  if x2 ≤ x1 then (M_places_130 N l0 l1 l2 h) else (gr [12] 0 l0 h fun x3 =>
  gi [12] 56 l0 h fun x4 =>
  li 13 x3 x4 h fun x5 =>
  cl (M_placeOf N x5 h) fun x7 h6 =>
  if x7 ≤ 0 then (M_places_130 N l0 l1 l2 h6) else (gr [12] 0 l0 h6 fun x8 =>
  gi [12] 56 l0 h6 fun x9 =>
  li 13 x8 x9 h6 fun x10 =>
  cl (M_placeOf N x10 h6) fun x12 h11 =>
  if x12 ≤ l2 then (rz 0 h11) else (gi [12] 2 l0 h11 fun x13 =>
  if x13 < x12 then (rz 0 h11) else (if l2 ≤ 0 then (M_places_73 N (M_places_4 N n) l0 l1 l2 x12 h11) else (nz 2 <|
  if (((x12 - l2) - (1 : Int32)) - ((x12 - l2) - (1 : Int32)) / 2 * 2) = 1 then (rz 0 h11) else (M_places_73 N (M_places_4 N n) l0 l1 l2 x12 h11))))))
def M_places (N : Nat) (l0 : Option Nat) (h : Hp) : Option (Int32 × Hp) :=
  M_places_4 N N l0 0 0 h
def M_block_184 (N : Nat) (re9 : Option Nat → Int32 → Int32 → Hp → Option (Int32 × Hp)) (l0 : Option Nat) (l2 : Int32) (h : Hp) : Option (Int32 × Hp) :=
  re9 l0 l2 1 h
def M_block_115 (N : Nat) (re9 : Option Nat → Int32 → Int32 → Hp → Option (Int32 × Hp)) (l0 : Option Nat) (l4 : Int32) (h : Hp) : Option (Int32 × Hp) :=
  if l4 = 120 then (gr [12] 54 l0 h fun x5 =>
  gi [12] 55 l0 h fun x6 =>
  cl (ds [(12, M_cross N l0 h)] l0 h) fun x8 h7 =>
  si x5 x6 x8 h7 fun h9 =>
  gi [12] 55 l0 h9 fun x10 =>
  pi [12] 55 l0 (x10 + (1 : Int32)) h9 fun h11 =>
  gi [12] 56 l0 h11 fun x12 =>
  pi [12] 56 l0 (x12 + (1 : Int32)) h11 fun h13 =>
  M_block_184 N re9 l0 0 h13) else (cl (M_placeOf N l4 h) fun x2 h1 =>
  if x2 ≤ 0 then (rz 0 h1) else (cl (ds [(12, M_places N l0 h1)] l0 h1) fun x4 h3 =>
  if x4 = 0 then (rz 0 h3) else (M_block_184 N re9 l0 1 h3)))
def M_block_103 (N : Nat) (re9 : Option Nat → Int32 → Int32 → Hp → Option (Int32 × Hp)) (l0 : Option Nat) (u0 : Int32) (h : Hp) : Option (Int32 × Hp) :=
  cl (M_placeOf N u0 h) fun x2 h1 =>
  if x2 = 0 then (rz 0 h1) else (M_block_115 N re9 l0 u0 h1)
def M_block_54 (N : Nat) (re9 : Option Nat → Int32 → Int32 → Hp → Option (Int32 × Hp)) (l0 : Option Nat) (l2 : Int32) (l3 : Int32) (l4 : Int32) (h : Hp) : Option (Int32 × Hp) :=
  if l3 = 0 then (M_block_115 N re9 l0 l4 h) else (if l2 = 0 then (M_block_115 N re9 l0 l4 h) else (if l4 = 46 then (gi [12] 56 l0 h fun x1 =>
  pi [12] 56 l0 (x1 + (1 : Int32)) h fun h2 =>
  gi [12] 56 l0 h2 fun x3 =>
  gi [12] 1 l0 h2 fun x4 =>
  if x4 ≤ x3 then (M_block_103 N re9 l0 (-1) h2) else (gr [12] 0 l0 h2 fun x5 =>
  gi [12] 56 l0 h2 fun x6 =>
  li 13 x5 x6 h2 fun x7 =>
  M_block_103 N re9 l0 x7 h2)) else (M_block_115 N re9 l0 l4 h)))
def M_block_33 (N : Nat) (re9 : Option Nat → Int32 → Int32 → Hp → Option (Int32 × Hp)) (l0 : Option Nat) (l2 : Int32) (l3 : Int32) (u0 : Int32) (h : Hp) : Option (Int32 × Hp) :=
  if l3 = 0 then (M_block_54 N re9 l0 l2 l3 u0 h) else (if u0 = (-1) then (rz 1 h) else (if u0 = 44 then (rz 1 h) else (M_block_54 N re9 l0 l2 l3 u0 h)))
def M_block_9 (N : Nat) : Nat → Option Nat → Int32 → Int32 → Hp → Option (Int32 × Hp)
  | 0, _, _, _, _ => none
  | n + 1, l0, l2, l3, h =>
  gi [12] 56 l0 h fun x1 =>
  gi [12] 1 l0 h fun x2 =>
  if x2 ≤ x1 then (M_block_33 N (M_block_9 N n) l0 l2 l3 (-1) h) else (gr [12] 0 l0 h fun x3 =>
  gi [12] 56 l0 h fun x4 =>
  li 13 x3 x4 h fun x5 =>
  M_block_33 N (M_block_9 N n) l0 l2 l3 x5 h)
def M_block (N : Nat) (l0 : Option Nat) (l1 : Int32) (h : Hp) : Option (Int32 × Hp) :=
  pi [12] 56 l0 l1 h fun h1 =>
  M_block_9 N N l0 0 0 h1
def M_turned_11 (N : Nat) : Nat → Option Nat → Int32 → Int32 → Hp → Option (Unit × Hp)
  | 0, _, _, _, _ => none
  | n + 1, l0, l1, l3, h =>
  if l3 < 0 then (some ((), h)) else (gr [12] 54 l0 h fun x1 =>
  gi [12] 55 l0 h fun x2 =>
  gr [12] 54 l0 h fun x3 =>
  li 13 x3 (l1 + l3) h fun x4 =>
  si x1 x2 x4 h fun h5 =>
  gi [12] 55 l0 h5 fun x6 =>
  pi [12] 55 l0 (x6 + (1 : Int32)) h5 fun h7 =>
  nm (l3 + (-1)) fun x8 =>
  M_turned_11 N n l0 l1 x8 h7)
def M_turned (N : Nat) (l0 : Option Nat) (l1 : Int32) (h : Hp) : Option (Unit × Hp) :=
  gi [12] 55 l0 h fun x1 =>
  nm (x1 - l1) fun x2 =>
  nm (x2 - (2 : Int32)) fun x3 =>
  M_turned_11 N N l0 l1 x3 h
def M_notation_140 (N : Nat) : Nat → Option Nat → Int32 → Int32 → Hp → Option (Int32 × Hp)
  | 0, _, _, _, _ => none
  | n + 1, l0, l1, l3, h =>
  gi [12] 55 l0 h fun x1 =>
  if x1 ≤ l3 then (gr [12] 7 l0 h fun x2 =>
  gi [12] 55 l0 h fun x3 =>
  si x2 l1 x3 h fun h4 =>
  pz [12] 34 l0 1 h4 fun h5 =>
  gi [12] 55 l0 h5 fun x6 =>
  some (x6, h5)) else (gr [12] 8 l0 h fun x7 =>
  gr [12] 54 l0 h fun x8 =>
  li 13 x8 l3 h fun x9 =>
  si x7 (((100 : Int32) * l1) + l3) x9 h fun h10 =>
  nm (l3 + 1) fun x11 =>
  M_notation_140 N n l0 l1 x11 h10)
def M_notation_109 (N : Nat) (l0 : Option Nat) (l1 : Int32) (l2 : Int32) (h : Hp) : Option (Int32 × Hp) :=
  pi [12] 1 l0 0 h fun h1 =>
  if l2 = 0 then (gi [12] 56 l0 h1 fun x3 =>
  some (((-1 : Int32) - x3), h1)) else (gi [12] 55 l0 h1 fun x2 =>
  if x2 ≤ 100 then (M_notation_140 N N l0 l1 0 h1) else (some ((-1000), h1)))
def M_notation_108 (N : Nat) (l0 : Option Nat) (l1 : Int32) (u0 : Int32) (h : Hp) : Option (Int32 × Hp) :=
  M_notation_109 N l0 l1 u0 h
def M_notation_28 (N : Nat) (l0 : Option Nat) (l1 : Int32) (u0 : Option Nat) (u1 : Int32) (h : Hp) : Option (Int32 × Hp) :=
  cl (ds [(12, M_finds N u0 u1 h)] u0 h) fun x2 h1 =>
  if x2 = 0 then (pi [12] 55 l0 0 h1 fun h3 =>
  cl (ds [(12, M_block N l0 0 h3)] l0 h3) fun x5 h4 =>
  if x5 = 0 then (M_notation_109 N l0 l1 x5 h4) else (gi [12] 56 l0 h4 fun x6 =>
  gi [12] 1 l0 h4 fun x7 =>
  if x7 ≤ x6 then (M_notation_109 N l0 l1 x5 h4) else (cl (ds [(12, M_turned N l0 0 h4)] l0 h4) fun _ h8 =>
  gi [12] 55 l0 h8 fun x9 =>
  gi [12] 56 l0 h8 fun x10 =>
  cl (ds [(12, M_block N l0 (x10 + (1 : Int32)) h8)] l0 h8) fun x12 h11 =>
  if x12 = 0 then (M_notation_109 N l0 l1 x12 h11) else (cl (ds [(12, M_turned N l0 x9 h11)] l0 h11) fun _ h13 =>
  gi [12] 56 l0 h13 fun x14 =>
  gi [12] 1 l0 h13 fun x15 =>
  if x14 = x15 then (M_notation_108 N l0 l1 1 h13) else (M_notation_108 N l0 l1 0 h13))))) else (some (0, h1))
def M_notation (N : Nat) (l0 : Option Nat) (l1 : Int32) (h : Hp) : Option (Int32 × Hp) :=
  cl (ds [(12, M_isMethod N l0 l1 h)] l0 h) fun x2 h1 =>
  if x2 = 0 then (M_notation_28 N l0 l1 l0 4 h1) else (gr [12] 6 l0 h1 fun x3 =>
  li 13 x3 l1 h1 fun x4 =>
  if x4 = 5 then (M_notation_28 N l0 l1 l0 3 h1) else (M_notation_28 N l0 l1 l0 0 h1))
def M_cut_64 (N : Nat) (l0 : Option Nat) (l1 : Int32) (l2 : Int32) (u0 : Option Nat) (u1 : Int32) (h : Hp) : Option (Int32 × Hp) :=
  cl (ds [(12, M_finds N u0 u1 h)] u0 h) fun x2 h1 =>
  if x2 = 0 then (gr [12] 7 l0 h1 fun x3 =>
  si x3 l1 l2 h1 fun h4 =>
  pz [12] 34 l0 1 h4 fun h5 =>
  some (l2, h5)) else (some (0, h1))
def M_cut (N : Nat) (l0 : Option Nat) (l1 : Int32) (l2 : Int32) (h : Hp) : Option (Int32 × Hp) :=
  cl (ds [(12, M_isMethod N l0 l1 h)] l0 h) fun x2 h1 =>
  if x2 = 0 then (M_cut_64 N l0 l1 l2 l0 4 h1) else (gr [12] 6 l0 h1 fun x3 =>
  li 13 x3 l1 h1 fun x4 =>
  if x4 = 5 then (M_cut_64 N l0 l1 l2 l0 3 h1) else (gr [12] 7 l0 h1 fun x5 =>
  li 13 x5 l1 h1 fun x6 =>
  if 0 ≤ x6 then (if 0 ≤ l2 then (gr [12] 7 l0 h1 fun x7 =>
  li 13 x7 l1 h1 fun x8 =>
  if l2 ≤ x8 then (M_cut_64 N l0 l1 l2 l0 0 h1) else (M_cut_64 N l0 l1 l2 l0 5 h1)) else (M_cut_64 N l0 l1 l2 l0 6 h1)) else (M_cut_64 N l0 l1 l2 l0 1 h1)))
def M_called_61 (N : Nat) (l0 : Option Nat) (l1 : Int32) (l2 : Int32) (l3 : Int32) (l4 : Int32) (u0 : Option Nat) (u1 : Int32) (h : Hp) : Option (Int32 × Hp) :=
  cl (ds [(12, M_finds N u0 u1 h)] u0 h) fun x2 h1 =>
  if x2 = 0 then (gr [12] 9 l0 h1 fun x3 =>
  si x3 (((3 : Int32) * l1) + l2) l3 h1 fun h4 =>
  gr [12] 10 l0 h4 fun x5 =>
  si x5 (((3 : Int32) * l1) + l2) l4 h4 fun h6 =>
  pz [12] 34 l0 1 h6 fun h7 =>
  some (1, h7)) else (some (0, h1))
def M_called_42 (N : Nat) (l0 : Option Nat) (l1 : Int32) (l2 : Int32) (l3 : Int32) (l4 : Int32) (u0 : Option Nat) (h : Hp) : Option (Int32 × Hp) :=
  M_called_61 N l0 l1 l2 l3 l4 u0 2 h
def M_called (N : Nat) (l0 : Option Nat) (l1 : Int32) (l2 : Int32) (l3 : Int32) (l4 : Int32) (h : Hp) : Option (Int32 × Hp) :=
  cl (ds [(12, M_isMethod N l0 l1 h)] l0 h) fun x2 h1 =>
  if x2 = 0 then (M_called_61 N l0 l1 l2 l3 l4 l0 4 h1) else (gr [12] 6 l0 h1 fun x3 =>
  li 13 x3 l1 h1 fun x4 =>
  if x4 = 5 then (M_called_61 N l0 l1 l2 l3 l4 l0 9 h1) else (if l2 < 1 then (M_called_42 N l0 l1 l2 l3 l4 l0 h1) else (if 2 < l2 then (M_called_42 N l0 l1 l2 l3 l4 l0 h1) else (if 0 ≤ l3 then (cl (ds [(12, M_isChange N l0 l4 h1)] l0 h1) fun x6 h5 =>
  if x6 = 0 then (M_called_61 N l0 l1 l2 l3 l4 l0 8 h5) else (M_called_61 N l0 l1 l2 l3 l4 l0 0 h5)) else (M_called_42 N l0 l1 l2 l3 l4 l0 h1)))))
def M_part_66 (N : Nat) (l0 : Option Nat) (l1 : Int32) (l2 : Int32) (u0 : Option Nat) (u1 : Int32) (h : Hp) : Option (Int32 × Hp) :=
  cl (ds [(12, M_finds N u0 u1 h)] u0 h) fun x2 h1 =>
  if x2 = 0 then (gr [12] 12 l0 h1 fun x3 =>
  gr [12] 11 l0 h1 fun x4 =>
  li 13 x4 l1 h1 fun x5 =>
  si x3 (((6 : Int32) * l1) + x5) l2 h1 fun h6 =>
  gr [12] 11 l0 h6 fun x7 =>
  li 13 x7 l1 h6 fun x8 =>
  si x7 l1 (x8 + (1 : Int32)) h6 fun h9 =>
  pz [12] 34 l0 1 h9 fun h10 =>
  gr [12] 11 l0 h10 fun x11 =>
  li 13 x11 l1 h10 fun x12 =>
  some (x12, h10)) else (some (0, h1))
def M_part_17 (N : Nat) (l0 : Option Nat) (l1 : Int32) (l2 : Int32) (u0 : Option Nat) (h : Hp) : Option (Int32 × Hp) :=
  M_part_66 N l0 l1 l2 u0 4 h
def M_part_41 (N : Nat) (l0 : Option Nat) (l1 : Int32) (l2 : Int32) (u0 : Option Nat) (h : Hp) : Option (Int32 × Hp) :=
  M_part_66 N l0 l1 l2 u0 3 h
def M_part_61 (N : Nat) (l0 : Option Nat) (l1 : Int32) (l2 : Int32) (u0 : Option Nat) (h : Hp) : Option (Int32 × Hp) :=
  M_part_66 N l0 l1 l2 u0 2 h
def M_part (N : Nat) (l0 : Option Nat) (l1 : Int32) (l2 : Int32) (h : Hp) : Option (Int32 × Hp) :=
  cl (ds [(12, M_isMethod N l0 l1 h)] l0 h) fun x2 h1 =>
  if x2 = 0 then (M_part_17 N l0 l1 l2 l0 h1) else (cl (ds [(12, M_isMethod N l0 l2 h1)] l0 h1) fun x4 h3 =>
  if x4 = 0 then (M_part_17 N l0 l1 l2 l0 h3) else (gr [12] 6 l0 h3 fun x5 =>
  li 13 x5 l1 h3 fun x6 =>
  if x6 = 5 then (gr [12] 6 l0 h3 fun x7 =>
  li 13 x7 l2 h3 fun x8 =>
  if x8 = 5 then (M_part_41 N l0 l1 l2 l0 h3) else (if l1 ≤ l2 then (M_part_61 N l0 l1 l2 l0 h3) else (gr [12] 11 l0 h3 fun x9 =>
  li 13 x9 l1 h3 fun x10 =>
  if x10 = 6 then (M_part_61 N l0 l1 l2 l0 h3) else (M_part_66 N l0 l1 l2 l0 0 h3)))) else (M_part_41 N l0 l1 l2 l0 h3)))
def M_count (N : Nat) (l0 : Option Nat) (l1 : Int32) (l2 : Int32) (h : Hp) : Option (Unit × Hp) :=
  gi [12] 16 l0 h fun x1 =>
  if x1 = 0 then (some ((), h)) else (gr [12] 4 l0 h fun x2 =>
  nm (((3 : Int32) * l1) + l2) fun x3 =>
  li 13 x2 x3 h fun x4 =>
  si x2 x3 (x4 + (1 : Int32)) h fun h5 =>
  some ((), h5))
def M_isAmiss (N : Nat) (l0 : Option Nat) (l1 : Int32) (h : Hp) : Option (Int32 × Hp) :=
  pi [12] 15 l0 l1 h fun h1 =>
  rz 0 h1
def M_partOf (N : Nat) (l0 : Option Nat) (l1 : Int32) (l2 : Int32) (h : Hp) : Option (Int32 × Hp) :=
  gr [12] 12 l0 h fun x1 =>
  gr [12] 11 l0 h fun x2 =>
  li 13 x2 l1 h fun x3 =>
  nz x3 <|
  li 13 x1 (((6 : Int32) * l1) + (l2 - l2 / x3 * x3)) h fun x4 =>
  some (x4, h)
def M_leadOf_89 (N : Nat) : Nat → Option Nat → Int32 → Int32 → Hp → Option (Int32 × Hp)
  | 0, _, _, _, _ => none
  | n + 1, l0, l3, l4, h =>
  gi [12] 14 l0 h fun x1 =>
  if x1 ≤ l4 then (rz 1 h) else (gr [12] 13 l0 h fun x2 =>
  gr [12] 8 l0 h fun x3 =>
  li 13 x3 (((100 : Int32) * l3) + l4) h fun x4 =>
  si x2 l4 x4 h fun h5 =>
  nm (l4 + 1) fun x6 =>
  M_leadOf_89 N n l0 l3 x6 h5)
def M_leadOf_57 (N : Nat) (l0 : Option Nat) (l3 : Int32) (u0 : Option Nat) (u1 : Int32) (h : Hp) : Option (Int32 × Hp) :=
  cl (ds [(12, M_count N u0 u1 0 h)] u0 h) fun _ h1 =>
  gr [12] 7 l0 h1 fun x2 =>
  li 13 x2 l3 h1 fun x3 =>
  if 0 ≤ x3 then (gr [12] 7 l0 h1 fun x4 =>
  li 13 x4 l3 h1 fun x5 =>
  pi [12] 14 l0 x5 h1 fun h6 =>
  M_leadOf_89 N N l0 l3 0 h6) else (cl (ds [(12, M_isAmiss N l0 1 h1)] l0 h1) fun x8 h7 =>
  rz x8 h7)
def M_leadOf_41 (N : Nat) (l0 : Option Nat) (l3 : Int32) (h : Hp) : Option (Int32 × Hp) :=
  gr [12] 6 l0 h fun x1 =>
  li 13 x1 l3 h fun x2 =>
  if x2 = 4 then (M_leadOf_57 N l0 l3 l0 4 h) else (M_leadOf_57 N l0 l3 l0 0 h)
def M_leadOf (N : Nat) (l0 : Option Nat) (l1 : Int32) (l2 : Int32) (h : Hp) : Option (Int32 × Hp) :=
  gr [12] 6 l0 h fun x1 =>
  li 13 x1 l1 h fun x2 =>
  if x2 = 5 then (cl (ds [(12, M_count N l0 5 0 h)] l0 h) fun _ h3 =>
  gr [12] 11 l0 h3 fun x4 =>
  li 13 x4 l1 h3 fun x5 =>
  if x5 = 0 then (cl (ds [(12, M_isAmiss N l0 7 h3)] l0 h3) fun x9 h8 =>
  rz x9 h8) else (cl (ds [(12, M_partOf N l0 l1 l2 h3)] l0 h3) fun x7 h6 =>
  M_leadOf_41 N l0 x7 h6)) else (M_leadOf_41 N l0 l1 h)
def M_calledOf_269 (N : Nat) (l0 : Option Nat) (l4 : Int32) (l5 : Int32) (u0 : Option Nat) (u1 : Int32) (h : Hp) : Option (Int32 × Hp) :=
  gr [12] 10 l0 h fun x1 =>
  li 13 x1 (((3 : Int32) * l4) + l5) h fun x2 =>
  si u0 u1 x2 h fun h3 =>
  rz 1 h3
def M_calledOf_191 (N : Nat) (l0 : Option Nat) (l2 : Int32) (l4 : Int32) (l5 : Int32) (l6 : Int32) (u0 : Option Nat) (u1 : Int32) (h : Hp) : Option (Int32 × Hp) :=
  cl (ds [(12, M_count N u0 u1 1 h)] u0 h) fun _ h1 =>
  cl (ds [(12, M_leadOf N l0 l4 l2 h1)] l0 h1) fun x3 h2 =>
  if x3 = 0 then (rz 0 h2) else (if l5 = 0 then (rz 1 h2) else (if 0 ≤ l6 then (gi [12] 14 l0 h2 fun x4 =>
  if l6 < x4 then (gr [12] 13 l0 h2 fun x5 =>
  gr [12] 6 l0 h2 fun x6 =>
  li 13 x6 l4 h2 fun x7 =>
  if x7 = 4 then (gi [12] 14 l0 h2 fun x8 =>
  M_calledOf_269 N l0 l4 l5 x5 ((x8 - (1 : Int32)) - l6) h2) else (M_calledOf_269 N l0 l4 l5 x5 l6 h2)) else (cl (ds [(12, M_isAmiss N l0 2 h2)] l0 h2) fun x10 h9 =>
  rz x10 h9)) else (cl (ds [(12, M_isAmiss N l0 1 h2)] l0 h2) fun x12 h11 =>
  rz x12 h11)))
def M_calledOf_174 (N : Nat) (l0 : Option Nat) (l2 : Int32) (l4 : Int32) (l5 : Int32) (l6 : Int32) (h : Hp) : Option (Int32 × Hp) :=
  gr [12] 6 l0 h fun x1 =>
  li 13 x1 l4 h fun x2 =>
  if x2 = 4 then (M_calledOf_191 N l0 l2 l4 l5 l6 l0 4 h) else (M_calledOf_191 N l0 l2 l4 l5 l6 l0 0 h)
def M_calledOf_145 (N : Nat) (l0 : Option Nat) (l2 : Int32) (l4 : Int32) (l5 : Int32) (l6 : Int32) (h : Hp) : Option (Int32 × Hp) :=
  if l5 = 0 then (M_calledOf_174 N l0 l2 l4 l5 l6 h) else (gi [12] 14 l0 h fun x1 =>
  if l6 < x1 then (M_calledOf_174 N l0 l2 l4 l5 l6 h) else (gi [12] 14 l0 h fun x2 =>
  if x2 ≤ 0 then (M_calledOf_174 N l0 l2 l4 l5 l6 h) else (gi [12] 14 l0 h fun x3 =>
  nm (x3 - (1 : Int32)) fun x4 =>
  M_calledOf_174 N l0 l2 l4 l5 x4 h)))
def M_calledOf_111 (N : Nat) (l0 : Option Nat) (l2 : Int32) (l4 : Int32) (l5 : Int32) (l6 : Int32) (h : Hp) : Option (Int32 × Hp) :=
  gr [12] 6 l0 h fun x1 =>
  li 13 x1 l4 h fun x2 =>
  if x2 = 3 then (cl (ds [(12, M_count N l0 3 1 h)] l0 h) fun _ h3 =>
  if l5 = 0 then (M_calledOf_145 N l0 l2 l4 l5 l6 h3) else (cl (ds [(12, M_leadOf N l0 l4 l2 h3)] l0 h3) fun x5 h4 =>
  if x5 = 0 then (rz 0 h4) else (M_calledOf_145 N l0 l2 l4 l5 l6 h4))) else (M_calledOf_174 N l0 l2 l4 l5 l6 h)
def M_calledOf_65 (N : Nat) (l0 : Option Nat) (l2 : Int32) (l4 : Int32) (l5 : Int32) (u0 : Int32) (h : Hp) : Option (Int32 × Hp) :=
  gr [12] 6 l0 h fun x1 =>
  li 13 x1 l4 h fun x2 =>
  if x2 = 1 then (cl (ds [(12, M_count N l0 1 1 h)] l0 h) fun _ h3 =>
  if l5 = 2 then (if 0 ≤ u0 then (M_calledOf_111 N l0 l2 l4 l5 u0 h3) else (gr [12] 9 l0 h3 fun x4 =>
  li 13 x4 (((3 : Int32) * l4) + (1 : Int32)) h3 fun x5 =>
  M_calledOf_111 N l0 l2 l4 1 x5 h3)) else (M_calledOf_111 N l0 l2 l4 l5 u0 h3)) else (M_calledOf_111 N l0 l2 l4 l5 u0 h)
def M_calledOf_43 (N : Nat) (l0 : Option Nat) (l2 : Int32) (l3 : Int32) (l4 : Int32) (h : Hp) : Option (Int32 × Hp) :=
  if l3 = 0 then (M_calledOf_65 N l0 l2 l4 l3 0 h) else (gr [12] 9 l0 h fun x1 =>
  li 13 x1 (((3 : Int32) * l4) + l3) h fun x2 =>
  M_calledOf_65 N l0 l2 l4 l3 x2 h)
def M_calledOf (N : Nat) (l0 : Option Nat) (l1 : Int32) (l2 : Int32) (l3 : Int32) (h : Hp) : Option (Int32 × Hp) :=
  gr [12] 6 l0 h fun x1 =>
  li 13 x1 l1 h fun x2 =>
  if x2 = 5 then (cl (ds [(12, M_count N l0 5 1 h)] l0 h) fun _ h3 =>
  gr [12] 11 l0 h3 fun x4 =>
  li 13 x4 l1 h3 fun x5 =>
  if x5 = 0 then (cl (ds [(12, M_isAmiss N l0 7 h3)] l0 h3) fun x9 h8 =>
  rz x9 h8) else (cl (ds [(12, M_partOf N l0 l1 l2 h3)] l0 h3) fun x7 h6 =>
  M_calledOf_43 N l0 l2 l3 x7 h6)) else (M_calledOf_43 N l0 l2 l3 l1 h)
def M_behind_6 (N : Nat) : Nat → Option Nat → Int32 → Int64 → Int32 → Hp → Option (Int64 × Hp)
  | 0, _, _, _, _, _ => none
  | n + 1, l0, l3, l4, l6, h =>
  if l3 ≤ l6 then (some (l4, h)) else (gr [12] 13 l0 h fun x1 =>
  li 13 x1 l6 h fun x2 =>
  cl (M_done N l4 x2 h) fun x4 h3 =>
  nm (l6 + 1) fun x5 =>
  M_behind_6 N n l0 l3 x4 x5 h3)
def M_behind (N : Nat) (l0 : Option Nat) (l1 : Int64) (l3 : Int32) (h : Hp) : Option (Int64 × Hp) :=
  M_behind_6 N N l0 l3 l1 0 h
def M_placeOfOne_2 (N : Nat) : Nat → Int64 → Int32 → Hp → Option (Int32 × Hp)
  | 0, _, _, _ => none
  | n + 1, l1, l3, h =>
  cl (M_bell N l1 l3 h) fun x2 h1 =>
  if x2 = 1 then (some (l3, h1)) else (nm (l3 + 1) fun x3 =>
  M_placeOfOne_2 N n l1 x3 h1)
def M_placeOfOne (N : Nat) (l0 : Option Nat) (l1 : Int64) (h : Hp) : Option (Int32 × Hp) :=
  M_placeOfOne_2 N N l1 1 h
def M_hunt_30 (N : Nat) : Nat → Option Nat → Int64 → Int32 → Hp → Option (Unit × Hp)
  | 0, _, _, _, _ => none
  | n + 1, l0, l1, l3, h =>
  gi [12] 14 l0 h fun x1 =>
  if x1 ≤ l3 then (some ((), h)) else (gr [12] 13 l0 h fun x2 =>
  li 13 x2 l3 h fun x3 =>
  cl (M_done N l1 x3 h) fun x5 h4 =>
  gr [12] 57 l0 h4 fun x6 =>
  cl (ds [(12, M_placeOfOne N l0 x5 h4)] l0 h4) fun x8 h7 =>
  li 13 x6 x8 h7 fun x9 =>
  si x6 x8 (x9 + (1 : Int32)) h7 fun h10 =>
  nm (l3 + 1) fun x11 =>
  M_hunt_30 N n l0 x5 x11 h10)
def M_hunt_2 (N : Nat) : Nat → Option Nat → Int32 → Hp → Option (Unit × Hp)
  | 0, _, _, _ => none
  | n + 1, l0, l1, h =>
  gi [12] 2 l0 h fun x1 =>
  if x1 < l1 then (cl (ds [(12, M_rounds N l0 h)] l0 h) fun x3 h2 =>
  M_hunt_30 N N l0 x3 0 h2) else (gr [12] 57 l0 h fun x4 =>
  si x4 l1 0 h fun h5 =>
  nm (l1 + 1) fun x6 =>
  M_hunt_2 N n l0 x6 h5)
def M_hunt (N : Nat) (l0 : Option Nat) (h : Hp) : Option (Unit × Hp) :=
  M_hunt_2 N N l0 1 h
def M_isEven_47 (N : Nat) (re4 : Option Nat → Int32 → Int32 → Hp → Option (Int32 × Hp)) (l0 : Option Nat) (l1 : Int32) (l2 : Int32) (h : Hp) : Option (Int32 × Hp) :=
  nm (l2 + 1) fun x1 =>
  re4 l0 l1 x1 h
def M_isEven_40 (N : Nat) (re4 : Option Nat → Int32 → Int32 → Hp → Option (Int32 × Hp)) (l0 : Option Nat) (l2 : Int32) (h : Hp) : Option (Int32 × Hp) :=
  gr [12] 57 l0 h fun x1 =>
  li 13 x1 l2 h fun x2 =>
  M_isEven_47 N re4 l0 x2 l2 h
def M_isEven_4 (N : Nat) : Nat → Option Nat → Int32 → Int32 → Hp → Option (Int32 × Hp)
  | 0, _, _, _, _ => none
  | n + 1, l0, l1, l2, h =>
  gi [12] 2 l0 h fun x1 =>
  if x1 < l2 then (rz 1 h) else (gr [12] 57 l0 h fun x2 =>
  li 13 x2 l2 h fun x3 =>
  if x3 = 0 then (M_isEven_47 N (M_isEven_4 N n) l0 l1 l2 h) else (if l1 = 0 then (M_isEven_40 N (M_isEven_4 N n) l0 l2 h) else (gr [12] 57 l0 h fun x4 =>
  li 13 x4 l2 h fun x5 =>
  if l1 = x5 then (M_isEven_40 N (M_isEven_4 N n) l0 l2 h) else (rz 0 h))))
def M_isEven (N : Nat) (l0 : Option Nat) (h : Hp) : Option (Int32 × Hp) :=
  M_isEven_4 N N l0 0 1 h
def M_staysWithin_32 (N : Nat) (re2 : Option Nat → Int32 → Int32 → Hp → Option (Int32 × Hp)) (l0 : Option Nat) (l1 : Int32) (l2 : Int32) (h : Hp) : Option (Int32 × Hp) :=
  nm (l2 + 1) fun x1 =>
  re2 l0 l1 x1 h
def M_staysWithin_2 (N : Nat) : Nat → Option Nat → Int32 → Int32 → Hp → Option (Int32 × Hp)
  | 0, _, _, _, _ => none
  | n + 1, l0, l1, l2, h =>
  gi [12] 2 l0 h fun x1 =>
  if x1 ≤ l2 then (rz 0 h) else (if ((l1 >>> ((l2 - (1 : Int32)) &&& 31)) &&& (1 : Int32)) = 0 then (if ((l1 >>> ((l2 - (2 : Int32)) &&& 31)) &&& (1 : Int32)) = 0 then (rz 1 h) else (M_staysWithin_32 N (M_staysWithin_2 N n) l0 l1 l2 h)) else (M_staysWithin_32 N (M_staysWithin_2 N n) l0 l1 l2 h))
def M_staysWithin (N : Nat) (l0 : Option Nat) (l1 : Int32) (h : Hp) : Option (Int32 × Hp) :=
  M_staysWithin_2 N N l0 l1 2 h
def M_isSurprising_74 (N : Nat) (re7 : Option Nat → Int64 → Int32 → Hp → Option (Int32 × Hp)) (l0 : Option Nat) (l1 : Int64) (l3 : Int32) (h : Hp) : Option (Int32 × Hp) :=
  nm (l3 + 1) fun x1 =>
  re7 l0 l1 x1 h
def M_isSurprising_7 (N : Nat) : Nat → Option Nat → Int64 → Int32 → Hp → Option (Int32 × Hp)
  | 0, _, _, _, _ => none
  | n + 1, l0, l1, l3, h =>
  gi [12] 14 l0 h fun x1 =>
  if x1 ≤ l3 then (rz 1 h) else (cl (ds [(12, M_placeOfOne N l0 l1 h)] l0 h) fun x3 h2 =>
  gr [12] 13 l0 h2 fun x4 =>
  li 13 x4 l3 h2 fun x5 =>
  cl (M_done N l1 x5 h2) fun x7 h6 =>
  cl (ds [(12, M_placeOfOne N l0 x7 h6)] l0 h6) fun x9 h8 =>
  if x9 = x3 then (M_isSurprising_74 N (M_isSurprising_7 N n) l0 x7 l3 h8) else (nz 2 <|
  if ((jmin x9 x3) - (jmin x9 x3) / 2 * 2) = 0 then (gr [12] 13 l0 h8 fun x10 =>
  li 13 x10 l3 h8 fun x11 =>
  cl (ds [(12, M_staysWithin N l0 x11 h8)] l0 h8) fun x13 h12 =>
  if x13 = 0 then (rz 0 h12) else (M_isSurprising_74 N (M_isSurprising_7 N n) l0 x7 l3 h12)) else (M_isSurprising_74 N (M_isSurprising_7 N n) l0 x7 l3 h8)))
def M_isSurprising (N : Nat) (l0 : Option Nat) (h : Hp) : Option (Int32 × Hp) :=
  cl (ds [(12, M_rounds N l0 h)] l0 h) fun x2 h1 =>
  M_isSurprising_7 N N l0 x2 0 h1
def M_judgeOf_0_37 (N : Nat) : Nat → Option Nat → Int32 → Int32 → Hp → Option (Int32 × Hp)
  | 0, _, _, _, _ => none
  | n + 1, l0, l1, l3, h =>
  gr [12] 11 l0 h fun x1 =>
  li 13 x1 l1 h fun x2 =>
  if x2 ≤ l3 then (some (1, h)) else (gr [12] 12 l0 h fun x3 =>
  li 13 x3 (((6 : Int32) * l1) + l3) h fun x4 =>
  none)
def M_judgeOf_0_269 (N : Nat) (l3 : Int32) (h : Hp) : Option (Int32 × Hp) :=
  if l3 = 0 then (some (0, h)) else (some (1, h))
def M_judgeOf_0_248 (N : Nat) (l0 : Option Nat) (l1 : Int32) (l2 : Int32) (u0 : Int32) (u1 : Int32) (h : Hp) : Option (Int32 × Hp) :=
  nm (u0 &&& u1) fun x1 =>
  if l2 = 3 then (cl (ds [(12, M_leadOf N l0 l1 0 h)] l0 h) fun x3 h2 =>
  cl (ds [(12, M_isSurprising N l0 h2)] l0 h2) fun x5 h4 =>
  nm (x1 &&& x5) fun x6 =>
  M_judgeOf_0_269 N x6 h4) else (M_judgeOf_0_269 N x1 h)
def M_judgeOf_0_192 (N : Nat) (l0 : Option Nat) (l1 : Int32) (l2 : Int32) (u0 : Int32) (h : Hp) : Option (Int32 × Hp) :=
  if l2 = 0 then (if u0 = 0 then (some (0, h)) else (some (1, h))) else (cl (ds [(12, M_leadOf N l0 l1 0 h)] l0 h) fun x2 h1 =>
  cl (ds [(12, M_hunt N l0 h1)] l0 h1) fun _ h3 =>
  if l2 = 1 then (gr [12] 57 l0 h3 fun x6 =>
  gi [12] 2 l0 h3 fun x7 =>
  li 13 x6 x7 h3 fun x8 =>
  if x8 = 0 then (M_judgeOf_0_248 N l0 l1 l2 u0 1 h3) else (M_judgeOf_0_248 N l0 l1 l2 u0 0 h3)) else (cl (ds [(12, M_isEven N l0 h3)] l0 h3) fun x5 h4 =>
  M_judgeOf_0_248 N l0 l1 l2 u0 x5 h4))
def M_judgeOf_0_150 (N : Nat) (l0 : Option Nat) (l1 : Int32) (l2 : Int32) (h : Hp) : Option (Int32 × Hp) :=
  cl (ds [(12, M_count N l0 0 2 h)] l0 h) fun _ h1 =>
  cl (ds [(12, M_leadOf N l0 l1 0 h1)] l0 h1) fun x3 h2 =>
  if x3 = 0 then (some ((-1), h2)) else (cl (ds [(12, M_rounds N l0 h2)] l0 h2) fun x5 h4 =>
  gi [12] 14 l0 h4 fun x6 =>
  cl (ds [(12, M_behind N l0 x5 x6 h4)] l0 h4) fun x8 h7 =>
  cl (M_bell N x8 1 h7) fun x10 h9 =>
  if x10 = 1 then (M_judgeOf_0_192 N l0 l1 l2 1 h9) else (M_judgeOf_0_192 N l0 l1 l2 0 h9))
def M_judgeOf_0_139 (N : Nat) (l0 : Option Nat) (l1 : Int32) (l2 : Int32) (h : Hp) : Option (Int32 × Hp) :=
  if l2 = 3 then (cl (ds [(12, M_count N l0 2 2 h)] l0 h) fun _ h1 =>
  M_judgeOf_0_150 N l0 l1 l2 h1) else (M_judgeOf_0_150 N l0 l1 l2 h)
def M_judgeOf_0 (N : Nat) (l0 : Option Nat) (l1 : Int32) (h : Hp) : Option (Int32 × Hp) :=
  gr [12] 6 l0 h fun x1 =>
  li 13 x1 l1 h fun x2 =>
  if x2 = 5 then (cl (ds [(12, M_count N l0 5 2 h)] l0 h) fun _ h14 =>
  gr [12] 11 l0 h14 fun x15 =>
  li 13 x15 l1 h14 fun x16 =>
  if x16 = 0 then (pi [12] 15 l0 7 h14 fun h17 =>
  some ((-1), h17)) else (M_judgeOf_0_37 N N l0 l1 0 h14)) else (if x2 = 4 then (cl (ds [(12, M_count N l0 4 2 h)] l0 h) fun _ h4 =>
  cl (ds [(12, M_leadOf N l0 l1 0 h4)] l0 h4) fun x6 h5 =>
  if x6 = 0 then (some ((-1), h5)) else (cl (ds [(12, M_rounds N l0 h5)] l0 h5) fun x8 h7 =>
  gi [12] 14 l0 h7 fun x9 =>
  cl (ds [(12, M_behind N l0 x8 x9 h7)] l0 h7) fun x11 h10 =>
  cl (M_bell N x11 1 h10) fun x13 h12 =>
  if x13 = 1 then (some (0, h12)) else (some (1, h12)))) else (if x2 = 0 then (M_judgeOf_0_139 N l0 l1 x2 h) else (cl (ds [(12, M_count N l0 x2 2 h)] l0 h) fun _ h3 =>
  M_judgeOf_0_139 N l0 l1 x2 h3)))
def M_judgeOf_1_37 (N : Nat) : Nat → Option Nat → Int32 → Int32 → Hp → Option (Int32 × Hp)
  | 0, _, _, _, _ => none
  | n + 1, l0, l1, l3, h =>
  gr [12] 11 l0 h fun x1 =>
  li 13 x1 l1 h fun x2 =>
  if x2 ≤ l3 then (some (1, h)) else (gr [12] 12 l0 h fun x3 =>
  li 13 x3 (((6 : Int32) * l1) + l3) h fun x4 =>
  cl (ds [(12, M_judgeOf_0 N l0 x4 h)] l0 h) fun x6 h5 =>
  if 1 ≤ x6 then (nm (l3 + 1) fun x7 =>
  M_judgeOf_1_37 N n l0 l1 x7 h5) else (some (x6, h5)))
def M_judgeOf_1_269 (N : Nat) (l3 : Int32) (h : Hp) : Option (Int32 × Hp) :=
  if l3 = 0 then (some (0, h)) else (some (1, h))
def M_judgeOf_1_248 (N : Nat) (l0 : Option Nat) (l1 : Int32) (l2 : Int32) (u0 : Int32) (u1 : Int32) (h : Hp) : Option (Int32 × Hp) :=
  nm (u0 &&& u1) fun x1 =>
  if l2 = 3 then (cl (ds [(12, M_leadOf N l0 l1 0 h)] l0 h) fun x3 h2 =>
  cl (ds [(12, M_isSurprising N l0 h2)] l0 h2) fun x5 h4 =>
  nm (x1 &&& x5) fun x6 =>
  M_judgeOf_1_269 N x6 h4) else (M_judgeOf_1_269 N x1 h)
def M_judgeOf_1_192 (N : Nat) (l0 : Option Nat) (l1 : Int32) (l2 : Int32) (u0 : Int32) (h : Hp) : Option (Int32 × Hp) :=
  if l2 = 0 then (if u0 = 0 then (some (0, h)) else (some (1, h))) else (cl (ds [(12, M_leadOf N l0 l1 0 h)] l0 h) fun x2 h1 =>
  cl (ds [(12, M_hunt N l0 h1)] l0 h1) fun _ h3 =>
  if l2 = 1 then (gr [12] 57 l0 h3 fun x6 =>
  gi [12] 2 l0 h3 fun x7 =>
  li 13 x6 x7 h3 fun x8 =>
  if x8 = 0 then (M_judgeOf_1_248 N l0 l1 l2 u0 1 h3) else (M_judgeOf_1_248 N l0 l1 l2 u0 0 h3)) else (cl (ds [(12, M_isEven N l0 h3)] l0 h3) fun x5 h4 =>
  M_judgeOf_1_248 N l0 l1 l2 u0 x5 h4))
def M_judgeOf_1_150 (N : Nat) (l0 : Option Nat) (l1 : Int32) (l2 : Int32) (h : Hp) : Option (Int32 × Hp) :=
  cl (ds [(12, M_count N l0 0 2 h)] l0 h) fun _ h1 =>
  cl (ds [(12, M_leadOf N l0 l1 0 h1)] l0 h1) fun x3 h2 =>
  if x3 = 0 then (some ((-1), h2)) else (cl (ds [(12, M_rounds N l0 h2)] l0 h2) fun x5 h4 =>
  gi [12] 14 l0 h4 fun x6 =>
  cl (ds [(12, M_behind N l0 x5 x6 h4)] l0 h4) fun x8 h7 =>
  cl (M_bell N x8 1 h7) fun x10 h9 =>
  if x10 = 1 then (M_judgeOf_1_192 N l0 l1 l2 1 h9) else (M_judgeOf_1_192 N l0 l1 l2 0 h9))
def M_judgeOf_1_139 (N : Nat) (l0 : Option Nat) (l1 : Int32) (l2 : Int32) (h : Hp) : Option (Int32 × Hp) :=
  if l2 = 3 then (cl (ds [(12, M_count N l0 2 2 h)] l0 h) fun _ h1 =>
  M_judgeOf_1_150 N l0 l1 l2 h1) else (M_judgeOf_1_150 N l0 l1 l2 h)
def M_judgeOf_1 (N : Nat) (l0 : Option Nat) (l1 : Int32) (h : Hp) : Option (Int32 × Hp) :=
  gr [12] 6 l0 h fun x1 =>
  li 13 x1 l1 h fun x2 =>
  if x2 = 5 then (cl (ds [(12, M_count N l0 5 2 h)] l0 h) fun _ h14 =>
  gr [12] 11 l0 h14 fun x15 =>
  li 13 x15 l1 h14 fun x16 =>
  if x16 = 0 then (pi [12] 15 l0 7 h14 fun h17 =>
  some ((-1), h17)) else (M_judgeOf_1_37 N N l0 l1 0 h14)) else (if x2 = 4 then (cl (ds [(12, M_count N l0 4 2 h)] l0 h) fun _ h4 =>
  cl (ds [(12, M_leadOf N l0 l1 0 h4)] l0 h4) fun x6 h5 =>
  if x6 = 0 then (some ((-1), h5)) else (cl (ds [(12, M_rounds N l0 h5)] l0 h5) fun x8 h7 =>
  gi [12] 14 l0 h7 fun x9 =>
  cl (ds [(12, M_behind N l0 x8 x9 h7)] l0 h7) fun x11 h10 =>
  cl (M_bell N x11 1 h10) fun x13 h12 =>
  if x13 = 1 then (some (0, h12)) else (some (1, h12)))) else (if x2 = 0 then (M_judgeOf_1_139 N l0 l1 x2 h) else (cl (ds [(12, M_count N l0 x2 2 h)] l0 h) fun _ h3 =>
  M_judgeOf_1_139 N l0 l1 x2 h3)))
def M_lead_76 (N : Nat) (l0 : Option Nat) (l4 : Int32) (u0 : Option Nat) (u1 : Int32) (h : Hp) : Option (Int32 × Hp) :=
  cl (ds [(12, M_finds N u0 u1 h)] u0 h) fun x2 h1 =>
  if x2 = 0 then (gr [12] 13 l0 h1 fun x3 =>
  li 13 x3 l4 h1 fun x4 =>
  some (x4, h1)) else (some ((-1), h1))
def M_lead_71 (N : Nat) (l0 : Option Nat) (l4 : Int32) (u0 : Option Nat) (h : Hp) : Option (Int32 × Hp) :=
  M_lead_76 N l0 l4 u0 2 h
def M_lead_31 (N : Nat) (l0 : Option Nat) (l1 : Int32) (l2 : Int32) (l3 : Int32) (l4 : Int32) (u0 : Option Nat) (u1 : Int32) (h : Hp) : Option (Int32 × Hp) :=
  cl (ds [(12, M_finds N u0 u1 h)] u0 h) fun x2 h1 =>
  if x2 = 0 then (cl (ds [(12, M_calledOf N l0 l1 l2 l3 h1)] l0 h1) fun x4 h3 =>
  if x4 = 0 then (gi [12] 15 l0 h3 fun x6 =>
  M_lead_76 N l0 l4 l0 x6 h3) else (if l4 < 0 then (M_lead_71 N l0 l4 l0 h3) else (gi [12] 14 l0 h3 fun x5 =>
  if l4 < x5 then (M_lead_76 N l0 l4 l0 0 h3) else (M_lead_71 N l0 l4 l0 h3)))) else (some ((-1), h1))
def M_lead_26 (N : Nat) (l0 : Option Nat) (l1 : Int32) (l2 : Int32) (l3 : Int32) (l4 : Int32) (u0 : Option Nat) (h : Hp) : Option (Int32 × Hp) :=
  M_lead_31 N l0 l1 l2 l3 l4 u0 2 h
def M_lead (N : Nat) (l0 : Option Nat) (l1 : Int32) (l2 : Int32) (l3 : Int32) (l4 : Int32) (h : Hp) : Option (Int32 × Hp) :=
  cl (ds [(12, M_isMethod N l0 l1 h)] l0 h) fun x2 h1 =>
  if x2 = 0 then (M_lead_31 N l0 l1 l2 l3 l4 l0 4 h1) else (if l2 < 0 then (M_lead_26 N l0 l1 l2 l3 l4 l0 h1) else (if l3 < 0 then (M_lead_26 N l0 l1 l2 l3 l4 l0 h1) else (if l3 ≤ 2 then (M_lead_31 N l0 l1 l2 l3 l4 l0 0 h1) else (M_lead_26 N l0 l1 l2 l3 l4 l0 h1))))
def M_judge_41 (N : Nat) (l2 : Int32) (u0 : Option Nat) (u1 : Int32) (h : Hp) : Option (Int32 × Hp) :=
  cl (ds [(12, M_finds N u0 u1 h)] u0 h) fun x2 h1 =>
  if x2 = 0 then (some (l2, h1)) else (some (0, h1))
def M_judge_14 (N : Nat) (l0 : Option Nat) (l1 : Int32) (u0 : Option Nat) (u1 : Int32) (h : Hp) : Option (Int32 × Hp) :=
  cl (ds [(12, M_finds N u0 u1 h)] u0 h) fun x2 h1 =>
  if x2 = 0 then (cl (ds [(12, M_judgeOf_1 N l0 l1 h1)] l0 h1) fun x4 h3 =>
  if 0 ≤ x4 then (M_judge_41 N x4 l0 0 h3) else (gi [12] 15 l0 h3 fun x5 =>
  M_judge_41 N x4 l0 x5 h3)) else (some (0, h1))
def M_judge (N : Nat) (l0 : Option Nat) (l1 : Int32) (h : Hp) : Option (Int32 × Hp) :=
  cl (ds [(12, M_isMethod N l0 l1 h)] l0 h) fun x2 h1 =>
  if x2 = 0 then (M_judge_14 N l0 l1 l0 4 h1) else (M_judge_14 N l0 l1 l0 0 h1)
def M_leadHead_52 (N : Nat) (l0 : Option Nat) (u0 : Option Nat) (u1 : Int32) (h : Hp) : Option (Int64 × Hp) :=
  cl (ds [(12, M_finds N u0 u1 h)] u0 h) fun x2 h1 =>
  if x2 = 0 then (cl (ds [(12, M_rounds N l0 h1)] l0 h1) fun x4 h3 =>
  gi [12] 14 l0 h3 fun x5 =>
  cl (ds [(12, M_behind N l0 x4 x5 h3)] l0 h3) fun x7 h6 =>
  some (x7, h6)) else (some (0, h1))
def M_leadHead_27 (N : Nat) (l0 : Option Nat) (l1 : Int32) (l2 : Int32) (u0 : Option Nat) (u1 : Int32) (h : Hp) : Option (Int64 × Hp) :=
  cl (ds [(12, M_finds N u0 u1 h)] u0 h) fun x2 h1 =>
  if x2 = 0 then (cl (ds [(12, M_calledOf N l0 l1 0 l2 h1)] l0 h1) fun x4 h3 =>
  if x4 = 0 then (gi [12] 15 l0 h3 fun x5 =>
  M_leadHead_52 N l0 l0 x5 h3) else (M_leadHead_52 N l0 l0 0 h3)) else (some (0, h1))
def M_leadHead_22 (N : Nat) (l0 : Option Nat) (l1 : Int32) (l2 : Int32) (u0 : Option Nat) (h : Hp) : Option (Int64 × Hp) :=
  M_leadHead_27 N l0 l1 l2 u0 2 h
def M_leadHead (N : Nat) (l0 : Option Nat) (l1 : Int32) (l2 : Int32) (h : Hp) : Option (Int64 × Hp) :=
  cl (ds [(12, M_isMethod N l0 l1 h)] l0 h) fun x2 h1 =>
  if x2 = 0 then (M_leadHead_27 N l0 l1 l2 l0 4 h1) else (if l2 < 0 then (M_leadHead_22 N l0 l1 l2 l0 h1) else (if l2 ≤ 2 then (M_leadHead_27 N l0 l1 l2 l0 0 h1) else (M_leadHead_22 N l0 l1 l2 l0 h1)))
def M_orderOf_5 (N : Nat) : Nat → Option Nat → Int64 → Int64 → Int32 → Hp → Option (Int32 × Hp)
  | 0, _, _, _, _, _ => none
  | n + 1, l0, l1, l3, l5, h =>
  cl (ds [(12, M_rounds N l0 h)] l0 h) fun x2 h1 =>
  if (lg_cmp l3 x2) = 0 then (some (l5, h1)) else (cl (ds [(12, M_times N l0 l3 l1 h1)] l0 h1) fun x4 h3 =>
  nm (l5 + 1) fun x5 =>
  M_orderOf_5 N n l0 l1 x4 x5 h3)
def M_orderOf (N : Nat) (l0 : Option Nat) (l1 : Int64) (h : Hp) : Option (Int32 × Hp) :=
  M_orderOf_5 N N l0 l1 l1 1 h
def M_course_38 (N : Nat) (l0 : Option Nat) (u0 : Option Nat) (u1 : Int32) (h : Hp) : Option (Int32 × Hp) :=
  cl (ds [(12, M_finds N u0 u1 h)] u0 h) fun x2 h1 =>
  if x2 = 0 then (cl (ds [(12, M_rounds N l0 h1)] l0 h1) fun x4 h3 =>
  gi [12] 14 l0 h3 fun x5 =>
  cl (ds [(12, M_behind N l0 x4 x5 h3)] l0 h3) fun x7 h6 =>
  cl (ds [(12, M_orderOf N l0 x7 h6)] l0 h6) fun x9 h8 =>
  some (x9, h8)) else (some (0, h1))
def M_course_14 (N : Nat) (l0 : Option Nat) (l1 : Int32) (u0 : Option Nat) (u1 : Int32) (h : Hp) : Option (Int32 × Hp) :=
  cl (ds [(12, M_finds N u0 u1 h)] u0 h) fun x2 h1 =>
  if x2 = 0 then (cl (ds [(12, M_leadOf N l0 l1 0 h1)] l0 h1) fun x4 h3 =>
  if x4 = 0 then (gi [12] 15 l0 h3 fun x5 =>
  M_course_38 N l0 l0 x5 h3) else (M_course_38 N l0 l0 0 h3)) else (some (0, h1))
def M_course (N : Nat) (l0 : Option Nat) (l1 : Int32) (h : Hp) : Option (Int32 × Hp) :=
  cl (ds [(12, M_isMethod N l0 l1 h)] l0 h) fun x2 h1 =>
  if x2 = 0 then (M_course_14 N l0 l1 l0 4 h1) else (M_course_14 N l0 l1 l0 0 h1)
def M_falseness_182 (N : Nat) (re115 : Option Nat → Int64 → Int32 → Int32 → Hp → Option (Int32 × Hp)) (l0 : Option Nat) (l4 : Int64) (l7 : Int32) (u0 : Int32) (u1 : Int32) (h : Hp) : Option (Int32 × Hp) :=
  nm (u0 + u1) fun x1 =>
  gr [12] 13 l0 h fun x2 =>
  li 13 x2 l7 h fun x3 =>
  cl (M_done N l4 x3 h) fun x5 h4 =>
  nm (l7 + 1) fun x6 =>
  re115 l0 x5 x1 x6 h4
def M_falseness_170 (N : Nat) (re115 : Option Nat → Int64 → Int32 → Int32 → Hp → Option (Int32 × Hp)) (l0 : Option Nat) (l4 : Int64) (l6 : Int32) (l7 : Int32) (l8 : Int32) (h : Hp) : Option (Int32 × Hp) :=
  if l8 = 0 then (M_falseness_182 N re115 l0 l4 l7 l6 0 h) else (M_falseness_182 N re115 l0 l4 l7 l6 1 h)
def M_falseness_162 (N : Nat) (re115 : Option Nat → Int64 → Int32 → Int32 → Hp → Option (Int32 × Hp)) (re130 : Option Nat → Int64 → Int32 → Int32 → Int32 → Int32 → Hp → Option (Int32 × Hp)) (l0 : Option Nat) (l4 : Int64) (l6 : Int32) (l7 : Int32) (l9 : Int32) (u0 : Int32) (h : Hp) : Option (Int32 × Hp) :=
  nm (l9 + 1) fun x1 =>
  re130 l0 l4 l6 l7 u0 x1 h
def M_falseness_130 (N : Nat) (re115 : Option Nat → Int64 → Int32 → Int32 → Hp → Option (Int32 × Hp)) : Nat → Option Nat → Int64 → Int32 → Int32 → Int32 → Int32 → Hp → Option (Int32 × Hp)
  | 0, _, _, _, _, _, _, _ => none
  | n + 1, l0, l4, l6, l7, l8, l9, h =>
  gi [12] 14 l0 h fun x1 =>
  if x1 ≤ l9 then (M_falseness_170 N re115 l0 l4 l6 l7 l8 h) else (if l8 = 0 then (gr [12] 58 l0 h fun x2 =>
  ll x2 l9 h fun x3 =>
  if (lg_cmp x3 l4) = 0 then (M_falseness_162 N re115 (M_falseness_130 N re115 n) l0 l4 l6 l7 l9 1 h) else (M_falseness_162 N re115 (M_falseness_130 N re115 n) l0 l4 l6 l7 l9 0 h)) else (M_falseness_170 N re115 l0 l4 l6 l7 l8 h))
def M_falseness_115 (N : Nat) : Nat → Option Nat → Int64 → Int32 → Int32 → Hp → Option (Int32 × Hp)
  | 0, _, _, _, _, _ => none
  | n + 1, l0, l4, l6, l7, h =>
  gi [12] 14 l0 h fun x1 =>
  if x1 ≤ l7 then (some (l6, h)) else (M_falseness_130 N (M_falseness_115 N n) N l0 l4 l6 l7 0 0 h)
def M_falseness_65 (N : Nat) : Nat → Option Nat → Int64 → Int32 → Hp → Option (Int32 × Hp)
  | 0, _, _, _, _ => none
  | n + 1, l0, l4, l6, h =>
  gi [12] 14 l0 h fun x1 =>
  if x1 ≤ l6 then (cl (ds [(12, M_rounds N l0 h)] l0 h) fun x3 h2 =>
  M_falseness_115 N N l0 x3 0 0 h2) else (gr [12] 58 l0 h fun x4 =>
  sl x4 l6 l4 h fun h5 =>
  gr [12] 13 l0 h5 fun x6 =>
  li 13 x6 l6 h5 fun x7 =>
  cl (M_done N l4 x7 h5) fun x9 h8 =>
  nm (l6 + 1) fun x10 =>
  M_falseness_65 N n l0 x9 x10 h8)
def M_falseness_51 (N : Nat) (l0 : Option Nat) (l2 : Int64) (u0 : Option Nat) (u1 : Int32) (h : Hp) : Option (Int32 × Hp) :=
  cl (ds [(12, M_finds N u0 u1 h)] u0 h) fun x2 h1 =>
  if x2 = 0 then (M_falseness_65 N N l0 l2 0 h1) else (some (0, h1))
def M_falseness_27 (N : Nat) (l0 : Option Nat) (l1 : Int32) (l2 : Int64) (u0 : Option Nat) (u1 : Int32) (h : Hp) : Option (Int32 × Hp) :=
  cl (ds [(12, M_finds N u0 u1 h)] u0 h) fun x2 h1 =>
  if x2 = 0 then (cl (ds [(12, M_leadOf N l0 l1 0 h1)] l0 h1) fun x4 h3 =>
  if x4 = 0 then (gi [12] 15 l0 h3 fun x5 =>
  M_falseness_51 N l0 l2 l0 x5 h3) else (M_falseness_51 N l0 l2 l0 0 h3)) else (some (0, h1))
def M_falseness (N : Nat) (l0 : Option Nat) (l1 : Int32) (l2 : Int64) (h : Hp) : Option (Int32 × Hp) :=
  cl (ds [(12, M_isMethod N l0 l1 h)] l0 h) fun x2 h1 =>
  if x2 = 0 then (M_falseness_27 N l0 l1 l2 l0 4 h1) else (cl (ds [(12, M_isRow N l0 l2 h1)] l0 h1) fun x4 h3 =>
  if x4 = 0 then (M_falseness_27 N l0 l1 l2 l0 8 h3) else (M_falseness_27 N l0 l1 l2 l0 0 h3))
def M_trace_62 (N : Nat) (l0 : Option Nat) (l1 : Int32) (l2 : Int32) (u0 : Int32) (h : Hp) : Option (Int32 × Hp) :=
  if u0 = 0 then (some ((-1), h)) else (gr [12] 4 l0 h fun x1 =>
  li 13 x1 (((3 : Int32) * l1) + l2) h fun x2 =>
  some (x2, h))
def M_trace_39 (N : Nat) (l0 : Option Nat) (l1 : Int32) (l2 : Int32) (h : Hp) : Option (Int32 × Hp) :=
  M_trace_62 N l0 l1 l2 1 h
def M_trace_57 (N : Nat) (l0 : Option Nat) (l1 : Int32) (l2 : Int32) (h : Hp) : Option (Int32 × Hp) :=
  M_trace_62 N l0 l1 l2 1 h
def M_trace (N : Nat) (l0 : Option Nat) (l1 : Int32) (l2 : Int32) (h : Hp) : Option (Int32 × Hp) :=
  if l1 < 0 then (some ((-1), h)) else (if 6 ≤ l1 then (some ((-1), h)) else (if l2 < 0 then (some ((-1), h)) else (if l2 ≤ 2 then (if l2 = 0 then (if l1 = 0 then (M_trace_39 N l0 l1 l2 h) else (if l1 = 4 then (M_trace_39 N l0 l1 l2 h) else (if l1 = 5 then (M_trace_39 N l0 l1 l2 h) else (M_trace_62 N l0 l1 l2 0 h)))) else (if l2 = 2 then (M_trace_57 N l0 l1 l2 h) else (if l1 = 2 then (M_trace_62 N l0 l1 l2 0 h) else (M_trace_57 N l0 l1 l2 h)))) else (some ((-1), h)))))
def M_change_23 (N : Nat) (l1 : Int64) (l3 : Int32) (u0 : Option Nat) (u1 : Int32) (h : Hp) : Option (Int64 × Hp) :=
  cl (ds [(12, M_finds N u0 u1 h)] u0 h) fun x2 h1 =>
  if x2 = 0 then (cl (M_done N l1 l3 h1) fun x4 h3 =>
  some (x4, h3)) else (some (0, h1))
def M_change_21 (N : Nat) (l1 : Int64) (l3 : Int32) (u0 : Option Nat) (h : Hp) : Option (Int64 × Hp) :=
  M_change_23 N l1 l3 u0 8 h
def M_change (N : Nat) (l0 : Option Nat) (l1 : Int64) (l3 : Int32) (h : Hp) : Option (Int64 × Hp) :=
  cl (ds [(12, M_isRow N l0 l1 h)] l0 h) fun x2 h1 =>
  if x2 = 0 then (M_change_21 N l1 l3 l0 h1) else (cl (ds [(12, M_isChange N l0 l3 h1)] l0 h1) fun x4 h3 =>
  if x4 = 0 then (M_change_21 N l1 l3 l0 h3) else (M_change_23 N l1 l3 l0 0 h3))
def M_number_15 (N : Nat) (l0 : Option Nat) (l1 : Int64) (u0 : Option Nat) (u1 : Int32) (h : Hp) : Option (Int32 × Hp) :=
  cl (ds [(12, M_finds N u0 u1 h)] u0 h) fun x2 h1 =>
  if x2 = 0 then (cl (ds [(12, M_numberOf N l0 l1 h1)] l0 h1) fun x4 h3 =>
  some (x4, h3)) else (some ((-1), h1))
def M_number (N : Nat) (l0 : Option Nat) (l1 : Int64) (h : Hp) : Option (Int32 × Hp) :=
  cl (ds [(12, M_isRow N l0 l1 h)] l0 h) fun x2 h1 =>
  if x2 = 0 then (M_number_15 N l0 l1 l0 8 h1) else (M_number_15 N l0 l1 l0 0 h1)
def M_ofNumber_18 (N : Nat) (l0 : Option Nat) (l1 : Int32) (u0 : Option Nat) (u1 : Int32) (h : Hp) : Option (Int64 × Hp) :=
  cl (ds [(12, M_finds N u0 u1 h)] u0 h) fun x2 h1 =>
  if x2 = 0 then (cl (ds [(12, M_rowOf N l0 l1 h1)] l0 h1) fun x4 h3 =>
  some (x4, h3)) else (some (0, h1))
def M_ofNumber_17 (N : Nat) (l0 : Option Nat) (l1 : Int32) (u0 : Option Nat) (h : Hp) : Option (Int64 × Hp) :=
  M_ofNumber_18 N l0 l1 u0 2 h
def M_ofNumber (N : Nat) (l0 : Option Nat) (l1 : Int32) (h : Hp) : Option (Int64 × Hp) :=
  if l1 < 0 then (M_ofNumber_17 N l0 l1 l0 h) else (cl (ds [(12, M_all N l0 h)] l0 h) fun x2 h1 =>
  if x2 ≤ l1 then (M_ofNumber_17 N l0 l1 l0 h1) else (M_ofNumber_18 N l0 l1 l0 0 h1))
def M_product_23 (N : Nat) (l0 : Option Nat) (l1 : Int64) (l3 : Int64) (u0 : Option Nat) (u1 : Int32) (h : Hp) : Option (Int64 × Hp) :=
  cl (ds [(12, M_finds N u0 u1 h)] u0 h) fun x2 h1 =>
  if x2 = 0 then (cl (ds [(12, M_times N l0 l1 l3 h1)] l0 h1) fun x4 h3 =>
  some (x4, h3)) else (some (0, h1))
def M_product_21 (N : Nat) (l0 : Option Nat) (l1 : Int64) (l3 : Int64) (u0 : Option Nat) (h : Hp) : Option (Int64 × Hp) :=
  M_product_23 N l0 l1 l3 u0 8 h
def M_product (N : Nat) (l0 : Option Nat) (l1 : Int64) (l3 : Int64) (h : Hp) : Option (Int64 × Hp) :=
  cl (ds [(12, M_isRow N l0 l1 h)] l0 h) fun x2 h1 =>
  if x2 = 0 then (M_product_21 N l0 l1 l3 l0 h1) else (cl (ds [(12, M_isRow N l0 l3 h1)] l0 h1) fun x4 h3 =>
  if x4 = 0 then (M_product_21 N l0 l1 l3 l0 h3) else (M_product_23 N l0 l1 l3 l0 0 h3))
def M_inverse_28 (N : Nat) : Nat → Option Nat → Int64 → Int64 → Int32 → Hp → Option (Int64 × Hp)
  | 0, _, _, _, _, _ => none
  | n + 1, l0, l1, l3, l5, h =>
  gi [12] 2 l0 h fun x1 =>
  if x1 < l5 then (some (l3, h)) else (cl (M_bell N l1 l5 h) fun x3 h2 =>
  nm (l3 + ((Int32.toInt64 l5) <<< (Int32.toInt64 ((4 : Int32) * (x3 - (1 : Int32))) &&& 63))) fun x4 =>
  nm (l5 + 1) fun x5 =>
  M_inverse_28 N n l0 l1 x4 x5 h2)
def M_inverse_15 (N : Nat) (l0 : Option Nat) (l1 : Int64) (u0 : Option Nat) (u1 : Int32) (h : Hp) : Option (Int64 × Hp) :=
  cl (ds [(12, M_finds N u0 u1 h)] u0 h) fun x2 h1 =>
  if x2 = 0 then (M_inverse_28 N N l0 l1 0 1 h1) else (some (0, h1))
def M_inverse (N : Nat) (l0 : Option Nat) (l1 : Int64) (h : Hp) : Option (Int64 × Hp) :=
  cl (ds [(12, M_isRow N l0 l1 h)] l0 h) fun x2 h1 =>
  if x2 = 0 then (M_inverse_15 N l0 l1 l0 8 h1) else (M_inverse_15 N l0 l1 l0 0 h1)
def M_order_15 (N : Nat) (l0 : Option Nat) (l1 : Int64) (u0 : Option Nat) (u1 : Int32) (h : Hp) : Option (Int32 × Hp) :=
  cl (ds [(12, M_finds N u0 u1 h)] u0 h) fun x2 h1 =>
  if x2 = 0 then (cl (ds [(12, M_orderOf N l0 l1 h1)] l0 h1) fun x4 h3 =>
  some (x4, h3)) else (some (0, h1))
def M_order (N : Nat) (l0 : Option Nat) (l1 : Int64) (h : Hp) : Option (Int32 × Hp) :=
  cl (ds [(12, M_isRow N l0 l1 h)] l0 h) fun x2 h1 =>
  if x2 = 0 then (M_order_15 N l0 l1 l0 8 h1) else (M_order_15 N l0 l1 l0 0 h1)
def M_touch_36 (N : Nat) (l0 : Option Nat) (l1 : Int32) (l2 : Int32) (u0 : Option Nat) (u1 : Int32) (h : Hp) : Option (Int32 × Hp) :=
  cl (ds [(12, M_finds N u0 u1 h)] u0 h) fun x2 h1 =>
  if x2 = 0 then (gr [12] 17 l0 h1 fun x3 =>
  gi [12] 19 l0 h1 fun x4 =>
  si x3 x4 l1 h1 fun h5 =>
  gr [12] 18 l0 h5 fun x6 =>
  gi [12] 19 l0 h5 fun x7 =>
  si x6 x7 l2 h5 fun h8 =>
  gi [12] 19 l0 h8 fun x9 =>
  pi [12] 19 l0 (x9 + (1 : Int32)) h8 fun h10 =>
  gi [12] 19 l0 h10 fun x11 =>
  some (x11, h10)) else (some (0, h1))
def M_touch_31 (N : Nat) (l0 : Option Nat) (l1 : Int32) (l2 : Int32) (u0 : Option Nat) (h : Hp) : Option (Int32 × Hp) :=
  M_touch_36 N l0 l1 l2 u0 2 h
def M_touch (N : Nat) (l0 : Option Nat) (l1 : Int32) (l2 : Int32) (h : Hp) : Option (Int32 × Hp) :=
  cl (ds [(12, M_isMethod N l0 l1 h)] l0 h) fun x2 h1 =>
  if x2 = 0 then (M_touch_36 N l0 l1 l2 l0 4 h1) else (if l2 < 0 then (M_touch_31 N l0 l1 l2 l0 h1) else (if 2 < l2 then (M_touch_31 N l0 l1 l2 l0 h1) else (gi [12] 19 l0 h1 fun x3 =>
  if x3 = 100 then (M_touch_31 N l0 l1 l2 l0 h1) else (M_touch_36 N l0 l1 l2 l0 0 h1))))
def M_clear (N : Nat) (l0 : Option Nat) (h : Hp) : Option (Int32 × Hp) :=
  pi [12] 19 l0 0 h fun h1 =>
  cl (ds [(12, M_anew N l0 h1)] l0 h1) fun _ h2 =>
  some (1, h2)
def M_ring (N : Nat) (l0 : Option Nat) (h : Hp) : Option (Int32 × Hp) :=
  cl (ds [(12, M_anew N l0 h)] l0 h) fun _ h1 =>
  some (1, h1)
def M_rings_228 (N : Nat) (l0 : Option Nat) (u0 : Option Nat) (u1 : Int32) (h : Hp) : Option (Int32 × Hp) :=
  pz [12] 26 u0 u1 h fun h1 =>
  gi [12] 21 l0 h1 fun x2 =>
  pi [12] 21 l0 (x2 + (1 : Int32)) h1 fun h3 =>
  rz 1 h3
def M_rings_223 (N : Nat) (l0 : Option Nat) (u0 : Option Nat) (h : Hp) : Option (Int32 × Hp) :=
  M_rings_228 N l0 u0 1 h
def M_rings_205 (N : Nat) (l0 : Option Nat) (h : Hp) : Option (Int32 × Hp) :=
  gi [12] 27 l0 h fun x1 =>
  if 0 ≤ x1 then (M_rings_223 N l0 l0 h) else (gi [12] 21 l0 h fun x2 =>
  if x2 = 2000 then (M_rings_223 N l0 l0 h) else (M_rings_228 N l0 l0 0 h))
def M_rings_129 (N : Nat) (l0 : Option Nat) (h : Hp) : Option (Int32 × Hp) :=
  gi [12] 26 l0 h fun x1 =>
  if x1 = 0 then (gr [12] 20 l0 h fun x2 =>
  gi [12] 21 l0 h fun x3 =>
  gr [12] 20 l0 h fun x4 =>
  gi [12] 21 l0 h fun x5 =>
  ll x4 (x5 - (1 : Int32)) h fun x6 =>
  gr [12] 23 l0 h fun x7 =>
  gi [12] 25 l0 h fun x8 =>
  li 13 x7 x8 h fun x9 =>
  cl (M_done N x6 x9 h) fun x11 h10 =>
  sl x2 x3 x11 h10 fun h12 =>
  gi [12] 25 l0 h12 fun x13 =>
  pi [12] 25 l0 (x13 + (1 : Int32)) h12 fun h14 =>
  gr [12] 20 l0 h14 fun x15 =>
  gi [12] 21 l0 h14 fun x16 =>
  ll x15 x16 h14 fun x17 =>
  cl (ds [(12, M_rounds N l0 h14)] l0 h14) fun x19 h18 =>
  if (lg_cmp x17 x19) = 0 then (gi [12] 21 l0 h18 fun x20 =>
  pi [12] 27 l0 x20 h18 fun h21 =>
  M_rings_205 N l0 h21) else (M_rings_205 N l0 h18)) else (rz 0 h)
def M_rings_77 (N : Nat) (re0 : Option Nat → Hp → Option (Int32 × Hp)) : Nat → Option Nat → Int32 → Hp → Option (Int32 × Hp)
  | 0, _, _, _ => none
  | n + 1, l0, l1, h =>
  gi [12] 14 l0 h fun x1 =>
  if x1 ≤ l1 then (gi [12] 14 l0 h fun x2 =>
  pi [12] 24 l0 x2 h fun h3 =>
  pi [12] 25 l0 0 h3 fun h4 =>
  gi [12] 22 l0 h4 fun x5 =>
  pi [12] 22 l0 (x5 + (1 : Int32)) h4 fun h6 =>
  re0 l0 h6) else (gr [12] 23 l0 h fun x7 =>
  gr [12] 13 l0 h fun x8 =>
  li 13 x8 l1 h fun x9 =>
  si x7 l1 x9 h fun h10 =>
  nm (l1 + 1) fun x11 =>
  M_rings_77 N re0 n l0 x11 h10)
def M_rings_0 (N : Nat) : Nat → Option Nat → Hp → Option (Int32 × Hp)
  | 0, _, _ => none
  | n + 1, l0, h =>
  gi [12] 26 l0 h fun x1 =>
  if x1 = 0 then (gi [12] 25 l0 h fun x2 =>
  gi [12] 24 l0 h fun x3 =>
  if x2 = x3 then (gi [12] 22 l0 h fun x4 =>
  gi [12] 19 l0 h fun x5 =>
  if x4 = x5 then (rz 0 h) else (gr [12] 17 l0 h fun x6 =>
  gi [12] 22 l0 h fun x7 =>
  li 13 x6 x7 h fun x8 =>
  gi [12] 22 l0 h fun x9 =>
  gr [12] 18 l0 h fun x10 =>
  gi [12] 22 l0 h fun x11 =>
  li 13 x10 x11 h fun x12 =>
  cl (ds [(12, M_calledOf N l0 x8 x9 x12 h)] l0 h) fun x14 h13 =>
  if x14 = 0 then (gi [12] 15 l0 h13 fun x15 =>
  pi [12] 3 l0 x15 h13 fun h16 =>
  pz [12] 26 l0 1 h16 fun h17 =>
  rz 0 h17) else (M_rings_77 N (M_rings_0 N n) N l0 0 h13))) else (M_rings_129 N l0 h)) else (M_rings_129 N l0 h)
def M_rings (N : Nat) (l0 : Option Nat) (h : Hp) : Option (Int32 × Hp) :=
  M_rings_0 N N l0 h
def M_on_43 (N : Nat) (l0 : Option Nat) (h : Hp) : Option (Int32 × Hp) :=
  gi [12] 21 l0 h fun x1 =>
  some ((x1 - (1 : Int32)), h)
def M_on_25 (N : Nat) : Nat → Option Nat → Int32 → Int32 → Hp → Option (Int32 × Hp)
  | 0, _, _, _, _ => none
  | n + 1, l0, l1, l2, h =>
  if l1 ≤ l2 then (M_on_43 N l0 h) else (cl (ds [(12, M_rings N l0 h)] l0 h) fun x2 h1 =>
  if x2 = 0 then (M_on_43 N l0 h1) else (nm (l2 + 1) fun x3 =>
  M_on_25 N n l0 l1 x3 h1))
def M_on_17 (N : Nat) (l0 : Option Nat) (l1 : Int32) (u0 : Option Nat) (u1 : Int32) (h : Hp) : Option (Int32 × Hp) :=
  cl (ds [(12, M_finds N u0 u1 h)] u0 h) fun x2 h1 =>
  if x2 = 0 then (M_on_25 N N l0 l1 0 h1) else (M_on_43 N l0 h1)
def M_on_12 (N : Nat) (l0 : Option Nat) (l1 : Int32) (u0 : Option Nat) (h : Hp) : Option (Int32 × Hp) :=
  M_on_17 N l0 l1 u0 2 h
def M_on (N : Nat) (l0 : Option Nat) (l1 : Int32) (h : Hp) : Option (Int32 × Hp) :=
  if l1 < 0 then (M_on_12 N l0 l1 l0 h) else (if l1 ≤ 1000 then (M_on_17 N l0 l1 l0 0 h) else (M_on_12 N l0 l1 l0 h))
def M_at (N : Nat) (l0 : Option Nat) (l1 : Int32) (h : Hp) : Option (Int64 × Hp) :=
  if l1 < 0 then (some (0, h)) else (gi [12] 21 l0 h fun x1 =>
  if x1 ≤ l1 then (some (0, h)) else (gr [12] 20 l0 h fun x2 =>
  ll x2 l1 h fun x3 =>
  some (x3, h)))
def M_round (N : Nat) (l0 : Option Nat) (h : Hp) : Option (Int32 × Hp) :=
  gi [12] 27 l0 h fun x1 =>
  some (x1, h)
def M_meant (N : Nat) (l0 : Option Nat) (h : Hp) : Option (Int32 × Hp) :=
  gi [12] 27 l0 h fun x1 =>
  if x1 < 0 then (gi [12] 21 l0 h fun x2 =>
  some (x2, h)) else (gi [12] 27 l0 h fun x3 =>
  some (x3, h))
def M_falseAt_12 (N : Nat) (re2 : Option Nat → Int32 → Hp → Option (Int32 × Hp)) : Nat → Option Nat → Int32 → Int32 → Hp → Option (Int32 × Hp)
  | 0, _, _, _, _ => none
  | n + 1, l0, l1, l2, h =>
  if l1 ≤ l2 then (nm (l1 + 1) fun x1 =>
  re2 l0 x1 h) else (gr [12] 20 l0 h fun x2 =>
  ll x2 l2 h fun x3 =>
  gr [12] 20 l0 h fun x4 =>
  ll x4 l1 h fun x5 =>
  if (lg_cmp x3 x5) = 0 then (some ((((10000 : Int32) * l1) + l2), h)) else (nm (l2 + 1) fun x6 =>
  M_falseAt_12 N re2 n l0 l1 x6 h))
def M_falseAt_2 (N : Nat) : Nat → Option Nat → Int32 → Hp → Option (Int32 × Hp)
  | 0, _, _, _ => none
  | n + 1, l0, l1, h =>
  cl (ds [(12, M_meant N l0 h)] l0 h) fun x2 h1 =>
  if x2 ≤ l1 then (some ((-1), h1)) else (M_falseAt_12 N (M_falseAt_2 N n) N l0 l1 0 h1)
def M_falseAt (N : Nat) (l0 : Option Nat) (h : Hp) : Option (Int32 × Hp) :=
  M_falseAt_2 N N l0 1 h
def M_numbers_55 (N : Nat) (re2 : Option Nat → Option Nat → Int32 → Hp → Option (Unit × Hp)) (l0 : Option Nat) (l1 : Option Nat) (l2 : Int32) (l3 : Int32) (l4 : Int32) (h : Hp) : Option (Unit × Hp) :=
  si l1 l4 l3 h fun h1 =>
  nm (l2 + 1) fun x2 =>
  re2 l0 l1 x2 h1
def M_numbers_24 (N : Nat) (re2 : Option Nat → Option Nat → Int32 → Hp → Option (Unit × Hp)) : Nat → Option Nat → Option Nat → Int32 → Int32 → Int32 → Hp → Option (Unit × Hp)
  | 0, _, _, _, _, _, _ => none
  | n + 1, l0, l1, l2, l3, l4, h =>
  if l4 ≤ 0 then (M_numbers_55 N re2 l0 l1 l2 l3 l4 h) else (li 13 l1 (l4 - (1 : Int32)) h fun x1 =>
  if x1 ≤ l3 then (M_numbers_55 N re2 l0 l1 l2 l3 l4 h) else (li 13 l1 (l4 - (1 : Int32)) h fun x2 =>
  si l1 l4 x2 h fun h3 =>
  nm (l4 + (-1)) fun x4 =>
  M_numbers_24 N re2 n l0 l1 l2 l3 x4 h3))
def M_numbers_2 (N : Nat) : Nat → Option Nat → Option Nat → Int32 → Hp → Option (Unit × Hp)
  | 0, _, _, _, _ => none
  | n + 1, l0, l1, l2, h =>
  cl (ds [(12, M_meant N l0 h)] l0 h) fun x2 h1 =>
  if x2 ≤ l2 then (some ((), h1)) else (gr [12] 20 l0 h1 fun x3 =>
  ll x3 l2 h1 fun x4 =>
  cl (ds [(12, M_numberOf N l0 x4 h1)] l0 h1) fun x6 h5 =>
  M_numbers_24 N (M_numbers_2 N n) N l0 l1 l2 x6 l2 h5)
def M_numbers (N : Nat) (l0 : Option Nat) (l1 : Option Nat) (h : Hp) : Option (Unit × Hp) :=
  M_numbers_2 N N l0 l1 0 h
def M_proof (N : Nat) (l0 : Option Nat) (h : Hp) : Option (Int32 × Hp) :=
  cl (ds [(12, M_falseAt N l0 h)] l0 h) fun x2 h1 =>
  if x2 < 0 then (gr [12] 28 l0 h1 fun x3 =>
  cl (ds [(12, M_numbers N l0 x3 h1)] l0 h1) fun _ h4 =>
  cl (ds [(12, M_meant N l0 h4)] l0 h4) fun x6 h5 =>
  pi [12] 30 l0 x6 h5 fun h7 =>
  gi [12] 30 l0 h7 fun x8 =>
  some (x8, h7)) else (some ((-1), h1))
def M_proofAt (N : Nat) (l0 : Option Nat) (l1 : Int32) (h : Hp) : Option (Int32 × Hp) :=
  if l1 < 0 then (some ((-1), h)) else (gi [12] 30 l0 h fun x1 =>
  if x1 ≤ l1 then (some ((-1), h)) else (gr [12] 28 l0 h fun x2 =>
  li 13 x2 l1 h fun x3 =>
  some (x3, h)))
def M_forge (N : Nat) (l0 : Option Nat) (l1 : Int32) (l2 : Int32) (h : Hp) : Option (Int32 × Hp) :=
  if l1 < 0 then (some ((-1), h)) else (gi [12] 30 l0 h fun x1 =>
  if l1 < x1 then (gr [12] 28 l0 h fun x2 =>
  li 13 x2 l1 h fun x3 =>
  gr [12] 28 l0 h fun x4 =>
  si x4 l1 l2 h fun h5 =>
  some (x3, h5)) else (some ((-1), h)))
def M_check_30 (N : Nat) : Nat → Option Nat → Int32 → Hp → Option (Int32 × Hp)
  | 0, _, _, _ => none
  | n + 1, l0, l1, h =>
  gi [12] 30 l0 h fun x1 =>
  if x1 ≤ l1 then (rz 1 h) else (gr [12] 28 l0 h fun x2 =>
  li 13 x2 l1 h fun x3 =>
  gr [12] 29 l0 h fun x4 =>
  li 13 x4 l1 h fun x5 =>
  if x3 = x5 then (nm (l1 + 1) fun x6 =>
  M_check_30 N n l0 x6 h) else (rz 0 h))
def M_check (N : Nat) (l0 : Option Nat) (h : Hp) : Option (Int32 × Hp) :=
  gi [12] 30 l0 h fun x1 =>
  cl (ds [(12, M_meant N l0 h)] l0 h) fun x3 h2 =>
  if x1 = x3 then (cl (ds [(12, M_falseAt N l0 h2)] l0 h2) fun x5 h4 =>
  if x5 < 0 then (gr [12] 29 l0 h4 fun x6 =>
  cl (ds [(12, M_numbers N l0 x6 h4)] l0 h4) fun _ h7 =>
  M_check_30 N N l0 0 h7) else (rz 0 h4)) else (rz 0 h2)
def M_ringer_60 (N : Nat) (re35 : Option Nat → Int32 → Int32 → Hp → Option (Int32 × Hp)) (l0 : Option Nat) (l4 : Int32) (u0 : Int32) (u1 : Int32) (h : Hp) : Option (Int32 × Hp) :=
  nm (u0 + u1) fun x1 =>
  nm (l4 + 1) fun x2 =>
  re35 l0 x1 x2 h
def M_ringer_35 (N : Nat) : Nat → Option Nat → Int32 → Int32 → Hp → Option (Int32 × Hp)
  | 0, _, _, _, _ => none
  | n + 1, l0, l3, l4, h =>
  gi [12] 2 l0 h fun x1 =>
  if x1 < l4 then (some (l3, h)) else (gr [12] 31 l0 h fun x2 =>
  li 16 x2 l4 h fun x3 =>
  if x3 = 0 then (M_ringer_60 N (M_ringer_35 N n) l0 l4 l3 1 h) else (M_ringer_60 N (M_ringer_35 N n) l0 l4 l3 0 h))
def M_ringer_29 (N : Nat) (l0 : Option Nat) (u0 : Option Nat) (u1 : Int32) (u2 : Int32) (h : Hp) : Option (Int32 × Hp) :=
  sz u0 u1 u2 h fun h1 =>
  M_ringer_35 N N l0 0 1 h1
def M_ringer (N : Nat) (l0 : Option Nat) (l1 : Int32) (l2 : Int32) (h : Hp) : Option (Int32 × Hp) :=
  if l1 < 1 then (some ((-1), h)) else (gi [12] 2 l0 h fun x1 =>
  if l1 ≤ x1 then (gr [12] 31 l0 h fun x2 =>
  if l2 = 0 then (M_ringer_29 N l0 x2 l1 1 h) else (M_ringer_29 N l0 x2 l1 0 h)) else (some ((-1), h)))
def M_heard_66 (N : Nat) (re8 : Option Nat → Int32 → Int64 → Int32 → Int32 → Hp → Option (Int64 × Hp)) (l0 : Option Nat) (l1 : Int32) (l2 : Int64) (l4 : Int32) (l5 : Int32) (h : Hp) : Option (Int64 × Hp) :=
  nm (l5 + 1) fun x1 =>
  re8 l0 l1 l2 l4 x1 h
def M_heard_8 (N : Nat) : Nat → Option Nat → Int32 → Int64 → Int32 → Int32 → Hp → Option (Int64 × Hp)
  | 0, _, _, _, _, _, _ => none
  | n + 1, l0, l1, l2, l4, l5, h =>
  gi [12] 2 l0 h fun x1 =>
  if x1 < l5 then (some (l2, h)) else (if l1 < 0 then (some (l2, h)) else (gi [12] 21 l0 h fun x2 =>
  if x2 ≤ l1 then (some (l2, h)) else (gr [12] 20 l0 h fun x3 =>
  ll x3 l1 h fun x4 =>
  cl (M_bell N x4 l5 h) fun x6 h5 =>
  gr [12] 31 l0 h5 fun x7 =>
  li 16 x7 x6 h5 fun x8 =>
  if x8 = 0 then (nm (l2 + ((Int32.toInt64 x6) <<< (Int32.toInt64 ((4 : Int32) * l4) &&& 63))) fun x9 =>
  nm (l4 + 1) fun x10 =>
  M_heard_66 N (M_heard_8 N n) l0 l1 x9 x10 l5 h5) else (M_heard_66 N (M_heard_8 N n) l0 l1 l2 l4 l5 h5))))
def M_heard (N : Nat) (l0 : Option Nat) (l1 : Int32) (h : Hp) : Option (Int64 × Hp) :=
  M_heard_8 N N l0 l1 0 0 1 h
def M_fits (N : Nat) (l0 : Option Nat) (l1 : Int64) (l3 : Int64) (h : Hp) : Option (Int32 × Hp) :=
  cl (ds [(12, M_isRow N l0 l1 h)] l0 h) fun x2 h1 =>
  if x2 = 0 then (rz 0 h1) else (cl (ds [(12, M_isPattern N l0 l3 h1)] l0 h1) fun x4 h3 =>
  if x4 = 0 then (rz 0 h3) else (cl (ds [(12, M_isFitting N l0 l1 l3 h3)] l0 h3) fun x6 h5 =>
  if x6 = 0 then (rz 0 h5) else (rz 1 h5)))
def M_music_45 (N : Nat) (re15 : Option Nat → Int64 → Int32 → Int32 → Hp → Option (Int32 × Hp)) (l0 : Option Nat) (l1 : Int64) (l4 : Int32) (u0 : Int32) (u1 : Int32) (h : Hp) : Option (Int32 × Hp) :=
  nm (u0 + u1) fun x1 =>
  nm (l4 + 1) fun x2 =>
  re15 l0 l1 x1 x2 h
def M_music_15 (N : Nat) : Nat → Option Nat → Int64 → Int32 → Int32 → Hp → Option (Int32 × Hp)
  | 0, _, _, _, _, _ => none
  | n + 1, l0, l1, l3, l4, h =>
  gi [12] 21 l0 h fun x1 =>
  if x1 ≤ l4 then (some (l3, h)) else (gr [12] 20 l0 h fun x2 =>
  ll x2 l4 h fun x3 =>
  cl (ds [(12, M_isFitting N l0 x3 l1 h)] l0 h) fun x5 h4 =>
  if x5 = 0 then (M_music_45 N (M_music_15 N n) l0 l1 l4 l3 0 h4) else (M_music_45 N (M_music_15 N n) l0 l1 l4 l3 1 h4))
def M_music (N : Nat) (l0 : Option Nat) (l1 : Int64) (h : Hp) : Option (Int32 × Hp) :=
  cl (ds [(12, M_isPattern N l0 l1 h)] l0 h) fun x2 h1 =>
  if x2 = 0 then (some ((-1), h1)) else (M_music_15 N N l0 l1 0 1 h1)
def M_allow_37 (N : Nat) : Nat → Option Nat → Int32 → Int32 → Hp → Option (Int32 × Hp)
  | 0, _, _, _, _ => none
  | n + 1, l0, l3, l4, h =>
  gi [12] 5 l0 h fun x1 =>
  if x1 ≤ l4 then (some (l3, h)) else (gr [12] 32 l0 h fun x2 =>
  li 13 x2 l4 h fun x3 =>
  cl (Jk_bitCount N x3 h) fun x5 h4 =>
  nm (l3 + x5) fun x6 =>
  nm (l4 + 1) fun x7 =>
  M_allow_37 N n l0 x6 x7 h4)
def M_allow (N : Nat) (l0 : Option Nat) (l1 : Int32) (l2 : Int32) (h : Hp) : Option (Int32 × Hp) :=
  cl (ds [(12, M_isMethod N l0 l1 h)] l0 h) fun x2 h1 =>
  if x2 = 0 then (some ((-1), h1)) else (if l2 < 0 then (some ((-1), h1)) else (if l2 ≤ 7 then (gr [12] 32 l0 h1 fun x3 =>
  si x3 l1 l2 h1 fun h4 =>
  pz [12] 34 l0 1 h4 fun h5 =>
  M_allow_37 N N l0 0 0 h5) else (some ((-1), h1))))
def M_begins_125 (N : Nat) : Nat → Option Nat → Int32 → Hp → Option (Int32 × Hp)
  | 0, _, _, _ => none
  | n + 1, l0, l4, h =>
  gi [12] 14 l0 h fun x1 =>
  if x1 ≤ l4 then (gi [12] 14 l0 h fun x2 =>
  pi [12] 50 l0 x2 h fun h3 =>
  pi [12] 51 l0 0 h3 fun h4 =>
  rz 1 h4) else (gr [12] 49 l0 h fun x5 =>
  gr [12] 13 l0 h fun x6 =>
  li 13 x6 l4 h fun x7 =>
  si x5 l4 x7 h fun h8 =>
  nm (l4 + 1) fun x9 =>
  M_begins_125 N n l0 x9 h8)
def M_begins_114 (N : Nat) (l0 : Option Nat) (l3 : Int32) (u0 : Option Nat) (u1 : Int32) (u2 : Int32) (h : Hp) : Option (Int32 × Hp) :=
  sb u0 u1 (Int8.toInt32 (Int32.toInt8 u2)) h fun h1 =>
  if l3 = 0 then (rz 0 h1) else (M_begins_125 N N l0 0 h1)
def M_begins_94 (N : Nat) (l0 : Option Nat) (l2 : Int32) (u0 : Int32) (h : Hp) : Option (Int32 × Hp) :=
  pz [12] 16 l0 1 h fun h1 =>
  gr [12] 42 l0 h1 fun x2 =>
  if u0 = 0 then (M_begins_114 N l0 u0 x2 l2 2 h1) else (M_begins_114 N l0 u0 x2 l2 1 h1)
def M_begins_93 (N : Nat) (l0 : Option Nat) (l2 : Int32) (h : Hp) : Option (Int32 × Hp) :=
  M_begins_94 N l0 l2 0 h
def M_begins_62 (N : Nat) (l0 : Option Nat) (l1 : Int32) (l2 : Int32) (u0 : Option Nat) (u1 : Int32) (h : Hp) : Option (Int32 × Hp) :=
  pz [12] 16 u0 u1 h fun h1 =>
  nz 3 <|
  gi [12] 43 l0 h1 fun x2 =>
  nz 3 <|
  cl (ds [(12, M_calledOf N l0 (l1 / 3) x2 (l1 - l1 / 3 * 3) h1)] l0 h1) fun x4 h3 =>
  if x4 = 0 then (M_begins_93 N l0 l2 h3) else (gi [12] 14 l0 h3 fun x5 =>
  if x5 ≤ 0 then (M_begins_93 N l0 l2 h3) else (M_begins_94 N l0 l2 1 h3))
def M_begins (N : Nat) (l0 : Option Nat) (h : Hp) : Option (Int32 × Hp) :=
  gr [12] 40 l0 h fun x1 =>
  gr [12] 45 l0 h fun x2 =>
  gi [12] 43 l0 h fun x3 =>
  li 13 x2 x3 h fun x4 =>
  li 13 x1 x4 h fun x5 =>
  gi [12] 43 l0 h fun x6 =>
  gr [12] 45 l0 h fun x7 =>
  gi [12] 43 l0 h fun x8 =>
  li 13 x7 x8 h fun x9 =>
  nm (((x6 * (30 : Int32)) * (3 : Int32)) + x9) fun x10 =>
  gr [12] 42 l0 h fun x11 =>
  li 15 x11 x10 h fun x12 =>
  if x12 = 2 then (rz 0 h) else (gr [12] 42 l0 h fun x13 =>
  li 15 x13 x10 h fun x14 =>
  if x14 = 0 then (M_begins_62 N l0 x5 x10 l0 1 h) else (M_begins_62 N l0 x5 x10 l0 0 h))
def M_isComposed_56 (N : Nat) (re25 : Option Nat → Int32 → Int32 → Hp → Option (Int32 × Hp)) (l0 : Option Nat) (l2 : Int32) (u0 : Int32) (u1 : Int32) (h : Hp) : Option (Int32 × Hp) :=
  nm (u0 + u1) fun x1 =>
  nm (l2 + 1) fun x2 =>
  re25 l0 x1 x2 h
def M_isComposed_25 (N : Nat) : Nat → Option Nat → Int32 → Int32 → Hp → Option (Int32 × Hp)
  | 0, _, _, _, _ => none
  | n + 1, l0, l1, l2, h =>
  gi [12] 48 l0 h fun x1 =>
  if x1 ≤ l2 then (gi [12] 37 l0 h fun x2 =>
  if l1 < x2 then (rz 0 h) else (rz 1 h)) else (gr [12] 47 l0 h fun x3 =>
  ll x3 l2 h fun x4 =>
  gl [12] 38 l0 h fun x5 =>
  cl (ds [(12, M_isFitting N l0 x4 x5 h)] l0 h) fun x7 h6 =>
  if x7 = 0 then (M_isComposed_56 N (M_isComposed_25 N n) l0 l2 l1 0 h6) else (M_isComposed_56 N (M_isComposed_25 N n) l0 l2 l1 1 h6))
def M_isComposed (N : Nat) (l0 : Option Nat) (h : Hp) : Option (Int32 × Hp) :=
  gr [12] 47 l0 h fun x1 =>
  gi [12] 48 l0 h fun x2 =>
  ll x1 (x2 - (1 : Int32)) h fun x3 =>
  cl (ds [(12, M_rounds N l0 h)] l0 h) fun x5 h4 =>
  if (lg_cmp x3 x5) = 0 then (M_isComposed_25 N N l0 0 1 h4) else (rz 0 h4)
def M_tell_7 (N : Nat) : Nat → Option Nat → Int32 → Hp → Option (Unit × Hp)
  | 0, _, _, _ => none
  | n + 1, l0, l1, h =>
  gi [12] 36 l0 h fun x1 =>
  if x1 ≤ l1 then (gi [12] 36 l0 h fun x2 =>
  pi [12] 53 l0 x2 h fun h3 =>
  some ((), h3)) else (gr [12] 52 l0 h fun x4 =>
  gr [12] 40 l0 h fun x5 =>
  gr [12] 45 l0 h fun x6 =>
  li 13 x6 l1 h fun x7 =>
  li 13 x5 x7 h fun x8 =>
  si x4 l1 x8 h fun h9 =>
  nm (l1 + 1) fun x10 =>
  M_tell_7 N n l0 x10 h9)
def M_tell (N : Nat) (l0 : Option Nat) (h : Hp) : Option (Unit × Hp) :=
  pi [12] 35 l0 1 h fun h1 =>
  M_tell_7 N N l0 0 h1
def M_isThere_2 (N : Nat) : Nat → Option Nat → Int64 → Int32 → Hp → Option (Int32 × Hp)
  | 0, _, _, _, _ => none
  | n + 1, l0, l1, l3, h =>
  gi [12] 48 l0 h fun x1 =>
  if x1 ≤ l3 then (rz 0 h) else (gr [12] 47 l0 h fun x2 =>
  ll x2 l3 h fun x3 =>
  if (lg_cmp x3 l1) = 0 then (rz 1 h) else (nm (l3 + 1) fun x4 =>
  M_isThere_2 N n l0 l1 x4 h))
def M_isThere (N : Nat) (l0 : Option Nat) (l1 : Int64) (h : Hp) : Option (Int32 × Hp) :=
  M_isThere_2 N N l0 l1 0 h
def M_go_279 (N : Nat) (re2 : Option Nat → Int32 → Int32 → Hp → Option (Unit × Hp)) (l0 : Option Nat) (l1 : Int32) (l2 : Int32) (l3 : Int64) (h : Hp) : Option (Unit × Hp) :=
  gr [12] 47 l0 h fun x1 =>
  gi [12] 48 l0 h fun x2 =>
  sl x1 x2 l3 h fun h3 =>
  gi [12] 48 l0 h3 fun x4 =>
  pi [12] 48 l0 (x4 + (1 : Int32)) h3 fun h5 =>
  re2 l0 l1 l2 h5
def M_go_256 (N : Nat) (re2 : Option Nat → Int32 → Int32 → Hp → Option (Unit × Hp)) (l0 : Option Nat) (l1 : Int32) (l2 : Int32) (l3 : Int64) (u0 : Int32) (h : Hp) : Option (Unit × Hp) :=
  cl (ds [(12, M_isThere N l0 l3 h)] l0 h) fun x2 h1 =>
  if x2 = 0 then (M_go_279 N re2 l0 l1 l2 l3 h1) else (if u0 = 0 then (pz [12] 44 l0 0 h1 fun h3 =>
  re2 l0 l1 l2 h3) else (M_go_279 N re2 l0 l1 l2 l3 h1))
def M_go_255 (N : Nat) (re2 : Option Nat → Int32 → Int32 → Hp → Option (Unit × Hp)) (l0 : Option Nat) (l1 : Int32) (l2 : Int32) (l3 : Int64) (h : Hp) : Option (Unit × Hp) :=
  M_go_256 N re2 l0 l1 l2 l3 0 h
def M_go_2 (N : Nat) : Nat → Option Nat → Int32 → Int32 → Hp → Option (Unit × Hp)
  | 0, _, _, _, _ => none
  | n + 1, l0, l1, l2, h =>
  gi [12] 44 l0 h fun x1 =>
  if x1 = 0 then (gr [12] 45 l0 h fun x38 =>
  gi [12] 43 l0 h fun x39 =>
  li 13 x38 x39 h fun x40 =>
  si x38 x39 (x40 + (1 : Int32)) h fun h41 =>
  gr [12] 46 l0 h41 fun x42 =>
  gi [12] 43 l0 h41 fun x43 =>
  li 13 x42 x43 h41 fun x44 =>
  pi [12] 48 l0 x44 h41 fun h45 =>
  gr [12] 45 l0 h45 fun x46 =>
  gi [12] 43 l0 h45 fun x47 =>
  li 13 x46 x47 h45 fun x48 =>
  gi [12] 41 l0 h45 fun x49 =>
  if x48 = x49 then (gi [12] 43 l0 h45 fun x53 =>
  if x53 = 0 then (pi [12] 35 l0 0 h45 fun h56 =>
  some ((), h56)) else (gi [12] 43 l0 h45 fun x54 =>
  pi [12] 43 l0 (x54 - (1 : Int32)) h45 fun h55 =>
  M_go_2 N n l0 l1 l2 h55)) else (cl (ds [(12, M_begins N l0 h45)] l0 h45) fun x51 h50 =>
  pz [12] 44 l0 x51 h50 fun h52 =>
  M_go_2 N n l0 l1 l2 h52)) else (gi [12] 51 l0 h fun x2 =>
  gi [12] 50 l0 h fun x3 =>
  if x2 = x3 then (pz [12] 44 l0 0 h fun h23 =>
  gi [12] 43 l0 h23 fun x24 =>
  gi [12] 36 l0 h23 fun x25 =>
  if x24 = (x25 - (1 : Int32)) then (cl (ds [(12, M_isComposed N l0 h23)] l0 h23) fun x36 h35 =>
  if x36 = 0 then (M_go_2 N n l0 l1 l2 h35) else (cl (ds [(12, M_tell N l0 h35)] l0 h35) fun _ h37 =>
  some ((), h37))) else (gi [12] 43 l0 h23 fun x26 =>
  pi [12] 43 l0 (x26 + (1 : Int32)) h23 fun h27 =>
  gr [12] 45 l0 h27 fun x28 =>
  gi [12] 43 l0 h27 fun x29 =>
  si x28 x29 (-1) h27 fun h30 =>
  gr [12] 46 l0 h30 fun x31 =>
  gi [12] 43 l0 h30 fun x32 =>
  gi [12] 48 l0 h30 fun x33 =>
  si x31 x32 x33 h30 fun h34 =>
  M_go_2 N n l0 l1 l2 h34)) else (if l2 = l1 then (some ((), h)) else (nm (l2 + 1) fun x4 =>
  gi [12] 39 l0 h fun x5 =>
  pi [12] 39 l0 (x5 + (1 : Int32)) h fun h6 =>
  gr [12] 47 l0 h6 fun x7 =>
  gi [12] 48 l0 h6 fun x8 =>
  ll x7 (x8 - (1 : Int32)) h6 fun x9 =>
  gr [12] 49 l0 h6 fun x10 =>
  gi [12] 51 l0 h6 fun x11 =>
  li 13 x10 x11 h6 fun x12 =>
  cl (M_done N x9 x12 h6) fun x14 h13 =>
  gi [12] 51 l0 h13 fun x15 =>
  pi [12] 51 l0 (x15 + (1 : Int32)) h13 fun h16 =>
  gi [12] 43 l0 h16 fun x17 =>
  gi [12] 36 l0 h16 fun x18 =>
  if x17 = (x18 - (1 : Int32)) then (gi [12] 51 l0 h16 fun x19 =>
  gi [12] 50 l0 h16 fun x20 =>
  if x19 = x20 then (cl (ds [(12, M_rounds N l0 h16)] l0 h16) fun x22 h21 =>
  if (lg_cmp x14 x22) = 0 then (M_go_256 N (M_go_2 N n) l0 l1 x4 x14 1 h21) else (M_go_255 N (M_go_2 N n) l0 l1 x4 x14 h21)) else (M_go_255 N (M_go_2 N n) l0 l1 x4 x14 h16)) else (M_go_255 N (M_go_2 N n) l0 l1 x4 x14 h16))))
def M_go (N : Nat) (l0 : Option Nat) (l1 : Int32) (h : Hp) : Option (Unit × Hp) :=
  M_go_2 N N l0 l1 0 h
def M_search_156 (N : Nat) : Nat → Option Nat → Int32 → Int32 → Hp → Option (Int32 × Hp)
  | 0, _, _, _, _ => none
  | n + 1, l0, l5, l6, h =>
  gr [12] 42 l0 h fun x1 =>
  al x1 h fun x2 =>
  if x2 ≤ l6 then (pi [12] 43 l0 0 h fun h3 =>
  gr [12] 45 l0 h3 fun x4 =>
  si x4 0 (-1) h3 fun h5 =>
  gr [12] 46 l0 h5 fun x6 =>
  si x6 0 1 h5 fun h7 =>
  gr [12] 47 l0 h7 fun x8 =>
  cl (ds [(12, M_rounds N l0 h7)] l0 h7) fun x10 h9 =>
  sl x8 0 x10 h9 fun h11 =>
  pi [12] 48 l0 1 h11 fun h12 =>
  pz [12] 44 l0 0 h12 fun h13 =>
  pi [12] 35 l0 2 h13 fun h14 =>
  cl (ds [(12, M_go N l0 l5 h14)] l0 h14) fun _ h15 =>
  gi [12] 35 l0 h15 fun x16 =>
  some (x16, h15)) else (gr [12] 42 l0 h fun x17 =>
  sb x17 l6 0 h fun h18 =>
  nm (l6 + 1) fun x19 =>
  M_search_156 N n l0 l5 x19 h18)
def M_search_141 (N : Nat) (re81 : Option Nat → Int32 → Int32 → Hp → Option (Int32 × Hp)) (re93 : Option Nat → Int32 → Int32 → Int32 → Hp → Option (Int32 × Hp)) (l0 : Option Nat) (l5 : Int32) (l6 : Int32) (l7 : Int32) (h : Hp) : Option (Int32 × Hp) :=
  nm (l7 + 1) fun x1 =>
  re93 l0 l5 l6 x1 h
def M_search_93 (N : Nat) (re81 : Option Nat → Int32 → Int32 → Hp → Option (Int32 × Hp)) : Nat → Option Nat → Int32 → Int32 → Int32 → Hp → Option (Int32 × Hp)
  | 0, _, _, _, _, _ => none
  | n + 1, l0, l5, l6, l7, h =>
  if 3 ≤ l7 then (nm (l6 + 1) fun x1 =>
  re81 l0 l5 x1 h) else (gr [12] 32 l0 h fun x2 =>
  li 13 x2 l6 h fun x3 =>
  if ((x3 >>> (l7 &&& 31)) &&& (1 : Int32)) = 1 then (gr [12] 40 l0 h fun x4 =>
  gi [12] 41 l0 h fun x5 =>
  si x4 x5 (((3 : Int32) * l6) + l7) h fun h6 =>
  gi [12] 41 l0 h6 fun x7 =>
  pi [12] 41 l0 (x7 + (1 : Int32)) h6 fun h8 =>
  M_search_141 N re81 (M_search_93 N re81 n) l0 l5 l6 l7 h8) else (M_search_141 N re81 (M_search_93 N re81 n) l0 l5 l6 l7 h))
def M_search_81 (N : Nat) : Nat → Option Nat → Int32 → Int32 → Hp → Option (Int32 × Hp)
  | 0, _, _, _, _ => none
  | n + 1, l0, l5, l6, h =>
  gi [12] 5 l0 h fun x1 =>
  if x1 ≤ l6 then (M_search_156 N N l0 l5 0 h) else (M_search_93 N (M_search_81 N n) N l0 l5 l6 0 h)
def M_search (N : Nat) (l0 : Option Nat) (l1 : Int32) (l2 : Int32) (l3 : Int64) (l5 : Int32) (h : Hp) : Option (Int32 × Hp) :=
  if l1 < 1 then (some ((-1), h)) else (if 12 < l1 then (some ((-1), h)) else (if l2 < 0 then (some ((-1), h)) else (cl (ds [(12, M_isPattern N l0 l3 h)] l0 h) fun x2 h1 =>
  if x2 = 0 then (some ((-1), h1)) else (if l5 < 0 then (some ((-1), h1)) else (if l5 ≤ 1000 then (pi [12] 36 l0 l1 h1 fun h3 =>
  pi [12] 37 l0 l2 h3 fun h4 =>
  pl [12] 38 l0 l3 h4 fun h5 =>
  pz [12] 33 l0 1 h5 fun h6 =>
  pz [12] 34 l0 0 h6 fun h7 =>
  pi [12] 39 l0 0 h7 fun h8 =>
  pi [12] 53 l0 0 h8 fun h9 =>
  pi [12] 41 l0 0 h9 fun h10 =>
  M_search_81 N N l0 l5 0 h10) else (some ((-1), h1)))))))
def M_goOn_43 (N : Nat) (l0 : Option Nat) (h : Hp) : Option (Int32 × Hp) :=
  gi [12] 35 l0 h fun x1 =>
  some (x1, h)
def M_goOn (N : Nat) (l0 : Option Nat) (l1 : Int32) (h : Hp) : Option (Int32 × Hp) :=
  gi [12] 33 l0 h fun x1 =>
  if x1 = 0 then (some ((-1), h)) else (if l1 < 0 then (some ((-1), h)) else (if l1 ≤ 1000 then (gi [12] 34 l0 h fun x2 =>
  if x2 = 0 then (gi [12] 35 l0 h fun x3 =>
  if x3 = 2 then (cl (ds [(12, M_go N l0 l1 h)] l0 h) fun _ h4 =>
  M_goOn_43 N l0 h4) else (M_goOn_43 N l0 h)) else (some ((-2), h))) else (some ((-1), h))))
def M_found (N : Nat) (l0 : Option Nat) (l1 : Int32) (h : Hp) : Option (Int32 × Hp) :=
  if l1 < 0 then (some ((-1), h)) else (gi [12] 53 l0 h fun x1 =>
  if x1 ≤ l1 then (some ((-1), h)) else (gr [12] 52 l0 h fun x2 =>
  li 13 x2 l1 h fun x3 =>
  some (x3, h)))
def M_count_4 (N : Nat) (l0 : Option Nat) (l1 : Int32) (h : Hp) : Option (Int32 × Hp) :=
  sw l1 [(0, gi [12] 2 l0 h fun x1 =>
  some (x1, h)), (1, gi [12] 5 l0 h fun x2 =>
  some (x2, h)), (2, gi [12] 19 l0 h fun x3 =>
  some (x3, h)), (3, gi [12] 1 l0 h fun x4 =>
  some (x4, h)), (4, gi [12] 30 l0 h fun x5 =>
  some ((jmax x5 (0 : Int32)), h)), (5, gi [12] 39 l0 h fun x6 =>
  some (x6, h)), (6, gi [12] 3 l0 h fun x7 =>
  some (x7, h))] (some ((-1), h))
