/-! ===== the functions of the methods, written by program out of the bytecode ===== -/
abbrev oX0 (a_row a_taken : Nat) : va_E := .inr (0, [.ref a_row, .ref a_taken])
abbrev oX1 (r : Nat → Int32) : va_E := .inr (1, [.int (r 0), .int (r 1), .int (r 2), .int (r 3), .int (r 4), .int (r 5), .int (r 6), .int (r 7), .int (r 8)])
abbrev oX2 (a_table a_origin a_shelf a_steps a_newest a_older : Nat) (Q : Nat → Nat → Int32) : va_E := .inr (2, [.ref a_table, .int (Q 0 1), .ref a_origin, .ref a_shelf, .ref a_steps, .ref a_newest, .ref a_older])
abbrev oX3 (a_lows a_highs a_places : Nat) : va_E := .inr (3, [.ref a_lows, .ref a_highs, .ref a_places])
abbrev oX4 (a_rules a_lies a_tops a_list : Nat) (T : Nat → Nat → Int32) : va_E := .inr (4, [.ref a_rules, .ref a_lies, .ref a_tops, .ref a_list, .int (T 0 4), .int (T 0 5), .int (T 0 6)])
abbrev oX5 (a_nextRules a_rules a_now a_past a_searcher a_dealt a_tried : Nat) (P : Nat → Int32) : va_E := .inr (5, [.ref a_nextRules, .ref a_rules, .ref a_now, .ref a_past, .ref a_searcher, .ref a_dealt, .ref a_tried, .int (P 7), .int (P 8), .int (P 9)])
abbrev eI (cI : ClassId) (n : Nat) (f : Nat → Int32) : va_E := .inl (cI, n, .inl f)
abbrev eJ (cJ : ClassId) (n : Nat) (f : Nat → Int64) : va_E := .inl (cJ, n, .inr (.inl f))

def F_X4_topOf (T_0 : Nat → Nat → Int32) (v1 : Int32) : Option (Int32) :=
  if v1 < nI 0 then some (-1) else if (nI 10) ≤ v1 then some (-1) else rdA (T_0 2) 10 v1 fun x3 => some x3
def F_X4_isStockMove (T_0 : Nat → Nat → Int32) (r_0_rules : Nat → Int32) : Option (Int32) :=
  cal1 (F_X4_topOf T_0 (nI 9)) fun x1 => if x1 = (-1) then cal1 (F_X4_topOf T_0 (nI 7)) fun x5 => if x5 = (-1) then zb (nI 0) <| some (nI 0) else if (r_0_rules 7) ≤ (T_0 0 6) then zb (nI 0) <| some (nI 0) else zb (nI 1) <| some (nI 1) else zb (nI 1) <| some (nI 1)
def F_X1_rankOf (r_0 : Nat → Int32) (v1 : Int32) : Option (Int32) :=
  if (r_0 1) ≤ nI 0 then some (nI 0) else nz (r_0 1) <| some ((v1 - v1 / (r_0 1) * (r_0 1)) + (nI 1))
def F_X5_at (f_0 : Nat → Int32) (n_0 : Nat) (v1 : Int32) : Option (Int32) :=
  if v1 < nI 0 then some (-1) else if (nI n_0) ≤ v1 then some (-1) else rdA f_0 n_0 v1 fun x3 => some x3
def F_X4_isUp (T_0 : Nat → Nat → Int32) (v1 : Int32) : Option (Int32) :=
  cal1 (F_X5_at (T_0 1) 16 v1) fun x1 => if x1 = (nI 20) then zb (nI 1) <| some (nI 1) else zb (nI 0) <| some (nI 0)
def F_X4_isNextUp (T_0 : Nat → Nat → Int32) (r_0_rules : Nat → Int32) (v1 : Int32) : Option (Int32) :=
  cal1 (F_X1_rankOf r_0_rules v1) fun x1 => if x1 = (nI 1) then zb (nI 1) <| some (nI 1) else cal1 (F_X4_isUp T_0 (v1 - (nI 1))) fun x5 => if x5 = nI 0 then zb (nI 0) <| some (nI 0) else zb (nI 1) <| some (nI 1)
def F_X5_isCell (v0 : Int32) : Option (Int32) :=
  if v0 < (nI 5) then zb (nI 0) <| some (nI 0) else if (nI 7) ≤ v0 then zb (nI 0) <| some (nI 0) else zb (nI 1) <| some (nI 1)
def F_X5_isColumn (v0 : Int32) : Option (Int32) :=
  if v0 < nI 0 then zb (nI 0) <| some (nI 0) else if (nI 5) ≤ v0 then zb (nI 0) <| some (nI 0) else zb (nI 1) <| some (nI 1)
def F_X4_under_b20 (T_0 : Nat → Nat → Int32) (s0 : Int32) : Option (Int32) :=
  if (nI 16) ≤ s0 then some (-1) else some s0
def F_X4_under (T_0 : Nat → Nat → Int32) (v1 : Int32) : Option (Int32) :=
  if v1 < nI 0 then F_X4_under_b20 T_0 (-1) else if (nI 16) ≤ v1 then F_X4_under_b20 T_0 (-1) else rdA (T_0 1) 16 v1 fun x4 => F_X4_under_b20 T_0 x4
def F_X5_isCard (v0 : Int32) : Option (Int32) :=
  if v0 < nI 0 then zb (nI 0) <| some (nI 0) else if (nI 16) ≤ v0 then zb (nI 0) <| some (nI 0) else zb (nI 1) <| some (nI 1)
def F_X4_liesHidden (T_0 : Nat → Nat → Int32) (v1 : Int32) : Option (Int32) :=
  cal1 (F_X5_isCard v1) fun x1 => if x1 = nI 0 then zb (nI 0) <| some (nI 0) else if (((T_0 0 5) >>> (v1 &&& 31)) &&& (nI 1)) = (nI 1) then zb (nI 1) <| some (nI 1) else zb (nI 0) <| some (nI 0)
def F_X1_suitOf (r_0 : Nat → Int32) (v1 : Int32) : Option (Int32) :=
  if (r_0 1) ≤ nI 0 then some (nI 0) else nz (r_0 1) <| some (v1 / (r_0 1))
def F_X1_isFitting (r_0 : Nat → Int32) (v1 : Int32) (v2 : Int32) : Option (Int32) :=
  cal1 (F_X1_rankOf r_0 v1) fun x1 => cal1 (F_X1_rankOf r_0 v2) fun x3 => if x1 = (x3 - (nI 1)) then if (r_0 4) = (nI 0) then cal1 (F_X1_suitOf r_0 v1) fun x7 => cal1 (F_X1_suitOf r_0 v2) fun x9 => if x7 = x9 then zb (nI 1) <| some (nI 1) else zb (nI 0) <| some (nI 0) else if (r_0 4) = (nI 1) then cal1 (F_X1_suitOf r_0 v1) fun x15 => nz (nI 2) <| cal1 (F_X1_suitOf r_0 v2) fun x18 => nz (nI 2) <| if (x15 - x15 / (nI 2) * (nI 2)) = (x18 - x18 / (nI 2) * (nI 2)) then zb (nI 0) <| some (nI 0) else zb (nI 1) <| some (nI 1) else zb (nI 1) <| some (nI 1) else zb (nI 0) <| some (nI 0)
def F_X4_runOf_s24 (T_0 : Nat → Nat → Int32) (r_0_rules : Nat → Int32) (K24 : Int32 → Int32 → Int32 → Option (Int32)) (v2 : Int32) (v3 : Int32) (v4 : Int32) : Option (Int32) :=
  if v4 = (-1) then some v3 else if (nI 16) ≤ v3 then some v3 else cal1 (F_X4_liesHidden T_0 v4) fun x3 => if x3 = nI 0 then cal1 (F_X1_isFitting r_0_rules v2 v4) fun x6 => if x6 = nI 0 then some v3 else cal1 (F_X4_under T_0 v4) fun x9 => K24 v4 (v3 + (nI 1)) x9 else some v3
def F_X4_runOf_L24 (T_0 : Nat → Nat → Int32) (r_0_rules : Nat → Int32) : Nat → Int32 → Int32 → Int32 → Option (Int32)
  | 0 => fun _ _ _ => none
  | n + 1 => fun v2 v3 v4 => F_X4_runOf_s24 T_0 r_0_rules (F_X4_runOf_L24 T_0 r_0_rules n) v2 v3 v4
def F_X4_runOf_b16 (T_0 : Nat → Nat → Int32) (r_0_rules : Nat → Int32) (v2 : Int32) (s0 : Int32) : Option (Int32) :=
  cal1 (F_X4_under T_0 v2) fun x11 => F_X4_runOf_L24 T_0 r_0_rules FU v2 s0 x11
def F_X4_runOf (T_0 : Nat → Nat → Int32) (r_0_rules : Nat → Int32) (v1 : Int32) : Option (Int32) :=
  cal1 (F_X4_topOf T_0 v1) fun x13 => if x13 = (-1) then F_X4_runOf_b16 T_0 r_0_rules x13 (nI 0) else F_X4_runOf_b16 T_0 r_0_rules x13 (nI 1)
def F_X4_mostTo_b73 (T_0 : Nat → Nat → Int32) (r_0_rules : Nat → Int32) (K42 : Int32 → Int32 → Int32 → Option (Int32)) (v1 : Int32) (v3 : Int32) (s0 : Int32) (s1 : Int32) : Option (Int32) :=
  K42 v1 (s0 * s1) (v3 + (nI 1))
def F_X4_mostTo_s42 (T_0 : Nat → Nat → Int32) (r_0_rules : Nat → Int32) (K42 : Int32 → Int32 → Int32 → Option (Int32)) (v1 : Int32) (v2 : Int32) (v3 : Int32) : Option (Int32) :=
  if (r_0_rules 2) ≤ v3 then some v2 else if v3 = v1 then F_X4_mostTo_b73 T_0 r_0_rules K42 v1 v3 v2 (nI 1) else cal1 (F_X4_topOf T_0 v3) fun x3 => if x3 = (-1) then F_X4_mostTo_b73 T_0 r_0_rules K42 v1 v3 v2 (nI 2) else F_X4_mostTo_b73 T_0 r_0_rules K42 v1 v3 v2 (nI 1)
def F_X4_mostTo_L42 (T_0 : Nat → Nat → Int32) (r_0_rules : Nat → Int32) : Nat → Int32 → Int32 → Int32 → Option (Int32)
  | 0 => fun _ _ _ => none
  | n + 1 => fun v1 v2 v3 => F_X4_mostTo_s42 T_0 r_0_rules (F_X4_mostTo_L42 T_0 r_0_rules n) v1 v2 v3
def F_X4_mostTo_b32 (T_0 : Nat → Nat → Int32) (r_0_rules : Nat → Int32) (K4 : Int32 → Int32 → Int32 → Option (Int32)) (v1 : Int32) (v3 : Int32) (s0 : Int32) (s1 : Int32) : Option (Int32) :=
  K4 v1 (s0 + s1) (v3 + (nI 1))
def F_X4_mostTo_s4 (T_0 : Nat → Nat → Int32) (r_0_rules : Nat → Int32) (K4 : Int32 → Int32 → Int32 → Option (Int32)) (v1 : Int32) (v2 : Int32) (v3 : Int32) : Option (Int32) :=
  if ((nI 5) + (r_0_rules 3)) ≤ v3 then F_X4_mostTo_L42 T_0 r_0_rules FU v1 v2 (nI 0) else cal1 (F_X4_topOf T_0 v3) fun x7 => if x7 = (-1) then F_X4_mostTo_b32 T_0 r_0_rules K4 v1 v3 v2 (nI 1) else F_X4_mostTo_b32 T_0 r_0_rules K4 v1 v3 v2 (nI 0)
def F_X4_mostTo_L4 (T_0 : Nat → Nat → Int32) (r_0_rules : Nat → Int32) : Nat → Int32 → Int32 → Int32 → Option (Int32)
  | 0 => fun _ _ _ => none
  | n + 1 => fun v1 v2 v3 => F_X4_mostTo_s4 T_0 r_0_rules (F_X4_mostTo_L4 T_0 r_0_rules n) v1 v2 v3
def F_X4_mostTo (T_0 : Nat → Nat → Int32) (r_0_rules : Nat → Int32) (v1 : Int32) : Option (Int32) :=
  F_X4_mostTo_L4 T_0 r_0_rules FU v1 (nI 1) (nI 5)
def F_X4_fromTop_s17 (T_0 : Nat → Nat → Int32) (K17 : Int32 → Int32 → Int32 → Option (Int32)) (v3 : Int32) (v4 : Int32) (v5 : Int32) : Option (Int32) :=
  if v4 ≤ v5 then some v3 else if v3 = (-1) then some v3 else cal1 (F_X4_under T_0 v3) fun x3 => K17 x3 v4 (v5 + (nI 1))
def F_X4_fromTop_L17 (T_0 : Nat → Nat → Int32) : Nat → Int32 → Int32 → Int32 → Option (Int32)
  | 0 => fun _ _ _ => none
  | n + 1 => fun v3 v4 v5 => F_X4_fromTop_s17 T_0 (F_X4_fromTop_L17 T_0 n) v3 v4 v5
def F_X4_fromTop (T_0 : Nat → Nat → Int32) (v1 : Int32) (v2 : Int32) : Option (Int32) :=
  cal1 (F_X4_topOf T_0 v1) fun x5 => F_X4_fromTop_L17 T_0 FU x5 (if (nI 16) < v2 then (nI 16) else v2) (nI 0)
def F_X1_isForEmptyColumns (r_0 : Nat → Int32) (v1 : Int32) : Option (Int32) :=
  if (r_0 5) = nI 0 then zb (nI 1) <| some (nI 1) else if (r_0 5) = (nI 1) then cal1 (F_X1_rankOf r_0 v1) fun x5 => if x5 = (r_0 1) then zb (nI 1) <| some (nI 1) else zb (nI 0) <| some (nI 0) else zb (nI 0) <| some (nI 0)
def F_X4_isForColumn (T_0 : Nat → Nat → Int32) (r_0_rules : Nat → Int32) (v1 : Int32) (v2 : Int32) : Option (Int32) :=
  cal1 (F_X4_topOf T_0 v2) fun x1 => if x1 = (-1) then cal1 (F_X1_isForEmptyColumns r_0_rules v1) fun x7 => zb x7 <| some x7 else cal1 (F_X1_isFitting r_0_rules v1 x1) fun x4 => zb x4 <| some x4
def F_X4_isMove_b145 (T_0 : Nat → Nat → Int32) (r_0_rules : Nat → Int32) (v1 : Int32) (v2 : Int32) (v3 : Int32) : Option (Int32) :=
  cal1 (F_X4_fromTop T_0 v1 (v3 - (nI 1))) fun x1 => cal1 (F_X4_isForColumn T_0 r_0_rules x1 v2) fun x3 => zb x3 <| some x3
def F_X4_isMove (T_0 : Nat → Nat → Int32) (r_0_rules : Nat → Int32) (v1 : Int32) (v2 : Int32) (v3 : Int32) : Option (Int32) :=
  if v1 = (nI 9) then if v2 = (nI 7) then cal1 (F_X4_isStockMove T_0 r_0_rules) fun x48 => if x48 = nI 0 then zb (nI 0) <| some (nI 0) else zb (nI 1) <| some (nI 1) else zb (nI 0) <| some (nI 0) else cal1 (F_X4_topOf T_0 v1) fun x7 => if x7 = (-1) then zb (nI 0) <| some (nI 0) else if v1 = v2 then zb (nI 0) <| some (nI 0) else if v2 = (nI 8) then cal1 (F_X4_isNextUp T_0 r_0_rules x7) fun x42 => zb x42 <| some x42 else cal1 (F_X5_isCell v2) fun x13 => if x13 = nI 0 then cal1 (F_X5_isColumn v2) fun x16 => if x16 = nI 0 then zb (nI 0) <| some (nI 0) else if v2 < (r_0_rules 2) then if v3 ≤ (nI 1) then F_X4_isMove_b145 T_0 r_0_rules v1 v2 v3 else cal1 (F_X4_runOf T_0 r_0_rules v1) fun x22 => if x22 < v3 then zb (nI 0) <| some (nI 0) else cal1 (F_X4_mostTo T_0 r_0_rules v2) fun x26 => if v3 ≤ x26 then F_X4_isMove_b145 T_0 r_0_rules v1 v2 v3 else zb (nI 0) <| some (nI 0) else zb (nI 0) <| some (nI 0) else cal1 (F_X5_isCell v1) fun x31 => if x31 = nI 0 then if (r_0_rules 3) ≤ (v2 - (nI 5)) then zb (nI 0) <| some (nI 0) else cal1 (F_X4_topOf T_0 v2) fun x37 => if x37 = (-1) then zb (nI 1) <| some (nI 1) else zb (nI 0) <| some (nI 0) else zb (nI 0) <| some (nI 0)
def F_X1_cards (r_0 : Nat → Int32) : Option (Int32) :=
  some ((r_0 0) * (r_0 1))
def F_X4_isSafeUp_s2 (T_0 : Nat → Nat → Int32) (r_0_rules : Nat → Int32) (K2 : Int32 → Int32 → Option (Int32)) (v1 : Int32) (v2 : Int32) : Option (Int32) :=
  cal1 (F_X1_cards r_0_rules) fun x1 => if x1 ≤ v2 then zb (nI 1) <| some (nI 1) else cal1 (F_X4_isUp T_0 v2) fun x5 => if x5 = nI 0 then cal1 (F_X1_isFitting r_0_rules v2 v1) fun x8 => if x8 = nI 0 then K2 v1 (v2 + (nI 1)) else zb (nI 0) <| some (nI 0) else K2 v1 (v2 + (nI 1))
def F_X4_isSafeUp_L2 (T_0 : Nat → Nat → Int32) (r_0_rules : Nat → Int32) : Nat → Int32 → Int32 → Option (Int32)
  | 0 => fun _ _ => none
  | n + 1 => fun v1 v2 => F_X4_isSafeUp_s2 T_0 r_0_rules (F_X4_isSafeUp_L2 T_0 r_0_rules n) v1 v2
def F_X4_isSafeUp (T_0 : Nat → Nat → Int32) (r_0_rules : Nat → Int32) (v1 : Int32) : Option (Int32) :=
  F_X4_isSafeUp_L2 T_0 r_0_rules FU v1 (nI 0)
def F_X4_firstSafePlace_s2 (T_0 : Nat → Nat → Int32) (r_0_rules : Nat → Int32) (K2 : Int32 → Option (Int32)) (v1 : Int32) : Option (Int32) :=
  if (nI 7) < v1 then some (-1) else cal1 (F_X4_isMove T_0 r_0_rules v1 (nI 8) (nI 1)) fun x2 => if x2 = nI 0 then K2 (v1 + (nI 1)) else cal1 (F_X4_topOf T_0 v1) fun x5 => cal1 (F_X4_isSafeUp T_0 r_0_rules x5) fun x7 => if x7 = nI 0 then K2 (v1 + (nI 1)) else some v1
def F_X4_firstSafePlace_L2 (T_0 : Nat → Nat → Int32) (r_0_rules : Nat → Int32) : Nat → Int32 → Option (Int32)
  | 0 => fun _ => none
  | n + 1 => fun v1 => F_X4_firstSafePlace_s2 T_0 r_0_rules (F_X4_firstSafePlace_L2 T_0 r_0_rules n) v1
def F_X4_firstSafePlace (T_0 : Nat → Nat → Int32) (r_0_rules : Nat → Int32) : Option (Int32) :=
  F_X4_firstSafePlace_L2 T_0 r_0_rules FU (nI 0)
def F_X3_isRow (S_0 : Nat → Nat → Int64) (n_0 : Nat) (v1 : Int32) : Option (Int32) :=
  if v1 < nI 0 then zb (nI 0) <| some (nI 0) else if (nI n_0) ≤ v1 then zb (nI 0) <| some (nI 0) else if (nI n_0) ≤ v1 then zb (nI 0) <| some (nI 0) else if (nI n_0) ≤ v1 then zb (nI 0) <| some (nI 0) else zb (nI 1) <| some (nI 1)
def F_X4_packed_s11 (T_0 : Nat → Nat → Int32) (K11 : Int32 → Int64 → Int32 → Option (Int64)) (v3 : Int32) (v4 : Int64) (v6 : Int32) : Option (Int64) :=
  if v3 ≤ v6 then some v4 else if (nI 16) ≤ v6 then some v4 else rdA (T_0 1) 16 v6 fun x3 => K11 v3 ((v4 <<< (((nI 5) : Int32).toInt64 &&& 63)) ||| (x3.toInt64)) (v6 + (nI 1))
def F_X4_packed_L11 (T_0 : Nat → Nat → Int32) : Nat → Int32 → Int64 → Int32 → Option (Int64)
  | 0 => fun _ _ _ => none
  | n + 1 => fun v3 v4 v6 => F_X4_packed_s11 T_0 (F_X4_packed_L11 T_0 n) v3 v4 v6
def F_X4_packed (T_0 : Nat → Nat → Int32) (v1 : Int32) (v2 : Int32) (v3 : Int32) : Option (Int64) :=
  F_X4_packed_L11 T_0 FU v3 (v1.toInt64) (if v2 < (nI 0) then (nI 0) else v2)
def F_X4_packedTops_s4 (T_0 : Nat → Nat → Int32) (K4 : Int64 → Int32 → Option (Int64)) (v1 : Int64) (v3 : Int32) : Option (Int64) :=
  if (nI 10) ≤ v3 then some v1 else rdA (T_0 2) 10 v3 fun x2 => K4 ((v1 <<< (((nI 5) : Int32).toInt64 &&& 63)) ||| (((x2 + (nI 1)) : Int32).toInt64)) (v3 + (nI 1))
def F_X4_packedTops_L4 (T_0 : Nat → Nat → Int32) : Nat → Int64 → Int32 → Option (Int64)
  | 0 => fun _ _ => none
  | n + 1 => fun v1 v3 => F_X4_packedTops_s4 T_0 (F_X4_packedTops_L4 T_0 n) v1 v3
def F_X4_packedTops (T_0 : Nat → Nat → Int32) : Option (Int64) :=
  F_X4_packedTops_L4 T_0 FU (lN 0) (nI 0)
def F_X3_keep (T_2 : Nat → Nat → Int32) (n_0 : Nat) (S_0 : Nat → Nat → Int64) (v1 : Int32) : Option ((Nat → Nat → Int64)) :=
  cal1 (F_X3_isRow S_0 n_0 v1) fun x1 => if x1 = nI 0 then some S_0 else cal1 (F_X4_packed T_2 (T_2 0 5) (nI 0) (nI 8)) fun x4 => wrJ S_0 0 n_0 v1 x4 fun S_0u6 => cal1 (F_X4_packed T_2 (T_2 0 6) (nI 8) (nI 16)) fun x8 => wrJ S_0u6 1 n_0 v1 x8 fun S_0u10 => cal1 (F_X4_packedTops T_2) fun x12 => wrJ S_0u10 2 n_0 v1 x12 fun S_0u14 => some S_0u14
def F_X5_codeOf (v0 : Int32) (v1 : Int32) (v2 : Int32) : Option (Int32) :=
  some ((((nI 1000) * v0) + ((nI 100) * v1)) + v2)
def F_X5_put (n_0 : Nat) (f_0 : Nat → Int32) (v1 : Int32) (v2 : Int32) : Option ((Nat → Int32)) :=
  if v1 < nI 0 then some f_0 else if (nI n_0) ≤ v1 then some f_0 else wr1 f_0 n_0 v1 v2 fun f_0u3 => some f_0u3
def F_X4_floorOf (v0 : Int32) : Option (Int32) :=
  if v0 = (nI 7) then some (nI 18) else if v0 = (nI 8) then some (nI 20) else if v0 = (nI 9) then some (nI 19) else if (nI 5) ≤ v0 then some (nI 17) else some (nI 16)
def F_X4_layOn_b27 (T_0 : Nat → Nat → Int32) (v2 : Int32) (v3 : Int32) (s1 : Int32) (s2 : Int32) : Option ((Nat → Nat → Int32)) :=
  cal1 (F_X5_put 16 (T_0 1) s1 s2) fun f1 => bnd (setc T_0 1 f1) fun T_0u3 => if v3 = (nI 8) then some T_0u3 else cal1 (F_X5_put 10 (T_0u3 2) v3 v2) fun f5 => bnd (setc T_0u3 2 f5) fun T_0u7 => some T_0u7
def F_X4_layOn (T_0 : Nat → Nat → Int32) (v1 : Int32) (v2 : Int32) (v3 : Int32) : Option ((Nat → Nat → Int32)) :=
  cal1 (F_X4_topOf T_0 v3) fun x8 => if x8 = (-1) then cal1 (F_X4_floorOf v3) fun x11 => F_X4_layOn_b27 T_0 v2 v3 v1 x11 else F_X4_layOn_b27 T_0 v2 v3 v1 x8
def F_X4_carry_b58 (T_0 : Nat → Nat → Int32) (v2 : Int32) (v4 : Int32) (v5 : Int32) : Option ((Nat → Nat → Int32)) :=
  cal1 (F_X4_layOn T_0 v4 v5 v2) fun T_0u1 => some T_0u1
def F_X4_carry (T_0 : Nat → Nat → Int32) (v1 : Int32) (v2 : Int32) (v3 : Int32) : Option ((Nat → Nat → Int32)) :=
  cal1 (F_X4_fromTop T_0 v1 (v3 - (nI 1))) fun x3 => cal1 (F_X4_topOf T_0 v1) fun x5 => cal1 (F_X4_under T_0 x3) fun x7 => cal1 (F_X5_put 10 (T_0 2) v1 x7) fun f9 => bnd (setc T_0 2 f9) fun T_0u11 => cal1 (F_X5_isCard x7) fun x12 => if x12 = nI 0 then F_X4_carry_b58 T_0u11 v2 x3 x5 else bnd (st2 T_0u11 0 5 ((T_0u11 0 5) &&& (((nI 1) <<< (x7 &&& 31)) ^^^ (-1)))) fun T_0u15 => F_X4_carry_b58 T_0u15 v2 x3 x5
def F_X4_turnOver_b33 (T_0 : Nat → Nat → Int32) : Option ((Nat → Nat → Int32)) :=
  bnd (st2 T_0 0 6 ((T_0 0 6) + (nI 1))) fun T_0u1 => some T_0u1
def F_X4_turnOver_s2 (K2 : (Nat → Nat → Int32) → Int32 → Option ((Nat → Nat → Int32))) (T_0 : Nat → Nat → Int32) (v1 : Int32) : Option ((Nat → Nat → Int32)) :=
  if (nI 16) ≤ v1 then F_X4_turnOver_b33 T_0 else cal1 (F_X4_topOf T_0 (nI 7)) fun x3 => if x3 = (-1) then F_X4_turnOver_b33 T_0 else cal1 (F_X4_carry T_0 (nI 7) (nI 9) (nI 1)) fun T_0u6 => K2 T_0u6 (v1 + (nI 1))
def F_X4_turnOver_L2 : Nat → (Nat → Nat → Int32) → Int32 → Option ((Nat → Nat → Int32))
  | 0 => fun _ _ => none
  | n + 1 => fun T_0 v1 => F_X4_turnOver_s2 (F_X4_turnOver_L2 n) T_0 v1
def F_X4_turnOver (T_0 : Nat → Nat → Int32) : Option ((Nat → Nat → Int32)) :=
  F_X4_turnOver_L2 FU T_0 (nI 0)
def F_X4_play (T_0 : Nat → Nat → Int32) (v1 : Int32) : Option ((Nat → Nat → Int32)) :=
  nz (nI 1000) <| if (v1 / (nI 1000)) = (nI 9) then cal1 (F_X4_topOf T_0 (nI 9)) fun x3 => if x3 = (-1) then cal1 (F_X4_turnOver T_0) fun T_0u6 => some T_0u6 else cal1 (F_X4_carry T_0 (nI 9) (nI 7) (nI 1)) fun T_0u8 => some T_0u8 else nz (nI 100) <| nz (nI 10) <| nz (nI 100) <| cal1 (F_X4_carry T_0 (v1 / (nI 1000)) ((v1 / (nI 100)) - (v1 / (nI 100)) / (nI 10) * (nI 10)) (v1 - v1 / (nI 100) * (nI 100))) fun T_0u13 => some T_0u13
def F_X5_doMove (P_0 : Nat → Int32) (S_0_past : Nat → Nat → Int64) (T_0_now : Nat → Nat → Int32) (v1 : Int32) (v2 : Int32) (v3 : Int32) : Option ((Nat → Int32) × (Nat → Nat → Int64) × (Nat → Nat → Int32)) :=
  cal1 (F_X3_keep T_0_now 200 S_0_past (P_0 7)) fun S_0_pastu1 => cal1 (F_X5_codeOf v1 v2 v3) fun x3 => cal1 (F_X4_play T_0_now x3) fun T_0_nowu5 => bnd (upd P_0 7 ((P_0 7) + (nI 1))) fun P_0u7 => some (P_0u7, S_0_pastu1, T_0_nowu5)
def F_X5_safe_b50 (r_0_rules : Nat → Int32) (P_0 : Nat → Int32) (T_0_now : Nat → Nat → Int32) (S_0_past : Nat → Nat → Int64) (v1 : Int32) : Option (Int32 × (Nat → Int32) × (Nat → Nat → Int32) × (Nat → Nat → Int64)) :=
  some (((P_0 7) - v1), P_0, T_0_now, S_0_past)
def F_X5_safe_s19 (r_0_rules : Nat → Int32) (K19 : (Nat → Int32) → (Nat → Nat → Int32) → (Nat → Nat → Int64) → Int32 → Int32 → Int32 → Option (Int32 × (Nat → Int32) × (Nat → Nat → Int32) × (Nat → Nat → Int64))) (P_0 : Nat → Int32) (T_0_now : Nat → Nat → Int32) (S_0_past : Nat → Nat → Int64) (v1 : Int32) (v2 : Int32) (v3 : Int32) : Option (Int32 × (Nat → Int32) × (Nat → Nat → Int32) × (Nat → Nat → Int64)) :=
  if v3 ≤ nI 0 then F_X5_safe_b50 r_0_rules P_0 T_0_now S_0_past v1 else if v2 = (-1) then F_X5_safe_b50 r_0_rules P_0 T_0_now S_0_past v1 else cal3 (F_X5_doMove P_0 S_0_past T_0_now v2 (nI 8) (nI 1)) fun P_0u3 S_0_pastu4 T_0_nowu5 => cal1 (F_X4_firstSafePlace T_0_nowu5 r_0_rules) fun x7 => K19 P_0u3 T_0_nowu5 S_0_pastu4 v1 x7 (v3 + (-1))
def F_X5_safe_L19 (r_0_rules : Nat → Int32) : Nat → (Nat → Int32) → (Nat → Nat → Int32) → (Nat → Nat → Int64) → Int32 → Int32 → Int32 → Option (Int32 × (Nat → Int32) × (Nat → Nat → Int32) × (Nat → Nat → Int64))
  | 0 => fun _ _ _ _ _ _ => none
  | n + 1 => fun P_0 T_0_now S_0_past v1 v2 v3 => F_X5_safe_s19 r_0_rules (F_X5_safe_L19 r_0_rules n) P_0 T_0_now S_0_past v1 v2 v3
def F_X5_safe (r_0_rules : Nat → Int32) (P_0 : Nat → Int32) (T_0_now : Nat → Nat → Int32) (S_0_past : Nat → Nat → Int64) : Option (Int32 × (Nat → Int32) × (Nat → Nat → Int32) × (Nat → Nat → Int64)) :=
  cal1 (F_X4_firstSafePlace T_0_now r_0_rules) fun x9 => F_X5_safe_L19 r_0_rules FU P_0 T_0_now S_0_past (P_0 7) x9 ((nI 200) - (P_0 7))
def F_X4_listMoves_s73 (r_0_rules : Nat → Int32) (K7 : (Nat → Nat → Int32) → Int32 → Option ((Nat → Nat → Int32))) (K50 : (Nat → Nat → Int32) → Int32 → Int32 → Int32 → Option ((Nat → Nat → Int32))) (K73 : (Nat → Nat → Int32) → Int32 → Int32 → Int32 → Int32 → Int32 → Option ((Nat → Nat → Int32))) (T_0 : Nat → Nat → Int32) (v1 : Int32) (v2 : Int32) (v3 : Int32) (v4 : Int32) (v5 : Int32) : Option ((Nat → Nat → Int32)) :=
  if v4 < v5 then K50 T_0 v1 v2 (v3 + (nI 1)) else if (nI 160) ≤ (T_0 0 4) then K73 T_0 v1 v2 v3 v4 (v5 + (nI 1)) else cal1 (F_X4_isMove T_0 r_0_rules v1 v3 v5) fun x3 => if x3 = nI 0 then K73 T_0 v1 v2 v3 v4 (v5 + (nI 1)) else cal1 (F_X5_codeOf v1 v3 v5) fun x6 => cal1 (F_X5_put 160 (T_0 3) (T_0 0 4) x6) fun f8 => bnd (setc T_0 3 f8) fun T_0u10 => bnd (st2 T_0u10 0 4 ((T_0u10 0 4) + (nI 1))) fun T_0u11 => K73 T_0u11 v1 v2 v3 v4 (v5 + (nI 1))
def F_X4_listMoves_L73 (r_0_rules : Nat → Int32) (K7 : (Nat → Nat → Int32) → Int32 → Option ((Nat → Nat → Int32))) (K50 : (Nat → Nat → Int32) → Int32 → Int32 → Int32 → Option ((Nat → Nat → Int32))) : Nat → (Nat → Nat → Int32) → Int32 → Int32 → Int32 → Int32 → Int32 → Option ((Nat → Nat → Int32))
  | 0 => fun _ _ _ _ _ _ => none
  | n + 1 => fun T_0 v1 v2 v3 v4 v5 => F_X4_listMoves_s73 r_0_rules K7 K50 (F_X4_listMoves_L73 r_0_rules K7 K50 n) T_0 v1 v2 v3 v4 v5
def F_X4_listMoves_s50 (r_0_rules : Nat → Int32) (K7 : (Nat → Nat → Int32) → Int32 → Option ((Nat → Nat → Int32))) (K50 : (Nat → Nat → Int32) → Int32 → Int32 → Int32 → Option ((Nat → Nat → Int32))) (T_0 : Nat → Nat → Int32) (v1 : Int32) (v2 : Int32) (v3 : Int32) : Option ((Nat → Nat → Int32)) :=
  if (nI 8) < v3 then K7 T_0 (v1 + (nI 1)) else cal1 (F_X5_isColumn v3) fun x13 => if x13 = nI 0 then F_X4_listMoves_L73 r_0_rules K7 K50 FU T_0 v1 v2 v3 (nI 1) (nI 1) else F_X4_listMoves_L73 r_0_rules K7 K50 FU T_0 v1 v2 v3 v2 (nI 1)
def F_X4_listMoves_L50 (r_0_rules : Nat → Int32) (K7 : (Nat → Nat → Int32) → Int32 → Option ((Nat → Nat → Int32))) : Nat → (Nat → Nat → Int32) → Int32 → Int32 → Int32 → Option ((Nat → Nat → Int32))
  | 0 => fun _ _ _ _ => none
  | n + 1 => fun T_0 v1 v2 v3 => F_X4_listMoves_s50 r_0_rules K7 (F_X4_listMoves_L50 r_0_rules K7 n) T_0 v1 v2 v3
def F_X4_listMoves_b31 (r_0_rules : Nat → Int32) (K7 : (Nat → Nat → Int32) → Int32 → Option ((Nat → Nat → Int32))) (T_0 : Nat → Nat → Int32) (v1 : Int32) : Option ((Nat → Nat → Int32)) :=
  cal1 (F_X5_isColumn v1) fun x16 => if x16 = nI 0 then F_X4_listMoves_L50 r_0_rules K7 FU T_0 v1 (nI 1) (nI 0) else cal1 (F_X4_runOf T_0 r_0_rules v1) fun x19 => F_X4_listMoves_L50 r_0_rules K7 FU T_0 v1 x19 (nI 0)
def F_X4_listMoves_s7 (r_0_rules : Nat → Int32) (K7 : (Nat → Nat → Int32) → Int32 → Option ((Nat → Nat → Int32))) (T_0 : Nat → Nat → Int32) (v1 : Int32) : Option ((Nat → Nat → Int32)) :=
  if (nI 10) ≤ v1 then some T_0 else cal1 (F_X4_topOf T_0 v1) fun x22 => if x22 = (-1) then if v1 = (nI 9) then F_X4_listMoves_b31 r_0_rules K7 T_0 v1 else K7 T_0 (v1 + (nI 1)) else F_X4_listMoves_b31 r_0_rules K7 T_0 v1
def F_X4_listMoves_L7 (r_0_rules : Nat → Int32) : Nat → (Nat → Nat → Int32) → Int32 → Option ((Nat → Nat → Int32))
  | 0 => fun _ _ => none
  | n + 1 => fun T_0 v1 => F_X4_listMoves_s7 r_0_rules (F_X4_listMoves_L7 r_0_rules n) T_0 v1
def F_X4_listMoves (r_0_rules : Nat → Int32) (T_0 : Nat → Nat → Int32) : Option ((Nat → Nat → Int32)) :=
  bnd (st2 T_0 0 4 (nI 0)) fun T_0u26 => F_X4_listMoves_L7 r_0_rules FU T_0u26 (nI 0)
def F_X5_moves (P_0 : Nat → Int32) (r_0_rules : Nat → Int32) (T_0_now : Nat → Nat → Int32) : Option (Int32 × (Nat → Nat → Int32)) :=
  cal1 (F_X4_listMoves r_0_rules T_0_now) fun T_0_nowu1 => some ((T_0_nowu1 0 4), T_0_nowu1)
def F_X4_copyFrom (T_1 : Nat → Nat → Int32) (T_0 : Nat → Nat → Int32) : Option ((Nat → Nat → Int32)) :=
  bnd (setc T_0 1 (va_cpy (T_1 1) (T_0 1) 0 0 16)) fun T_0u1 => bnd (setc T_0u1 2 (va_cpy (T_1 2) (T_0u1 2) 0 0 10)) fun T_0u2 => bnd (st2 T_0u2 0 5 (T_1 0 5)) fun T_0u3 => bnd (st2 T_0u3 0 6 (T_1 0 6)) fun T_0u4 => some T_0u4
def F_J7_fill_53178_s5 (n_0 : Nat) (K5 : (Nat → Int32) → Int32 → Int32 → Int32 → Option ((Nat → Int32))) (f_0 : Nat → Int32) (v1 : Int32) (v2 : Int32) (v3 : Int32) : Option ((Nat → Int32)) :=
  if v3 ≤ v2 then some f_0 else wr1 f_0 n_0 v2 v1 fun f_0u2 => K5 f_0u2 v1 (v2 + (nI 1)) v3
def F_J7_fill_53178_L5 (n_0 : Nat) : Nat → (Nat → Int32) → Int32 → Int32 → Int32 → Option ((Nat → Int32))
  | 0 => fun _ _ _ _ => none
  | n + 1 => fun f_0 v1 v2 v3 => F_J7_fill_53178_s5 n_0 (F_J7_fill_53178_L5 n_0 n) f_0 v1 v2 v3
def F_J7_fill_53178 (n_0 : Nat) (f_0 : Nat → Int32) (v1 : Int32) : Option ((Nat → Int32)) :=
  F_J7_fill_53178_L5 n_0 FU f_0 v1 (nI 0) (nI n_0)
def F_X3_bucketOf (S_0 : Nat → Nat → Int64) (n_0 : Nat) (v1 : Int32) : Option (Int32) :=
  cal1 (F_X3_isRow S_0 n_0 v1) fun x1 => if x1 = nI 0 then some (nI 0) else rdA (S_0 0) n_0 v1 fun x4 => rdA (S_0 1) n_0 v1 fun x6 => some (((((((((x4 * (lN 31)) + x6) * (-7046029254386353131)) : Int64).toUInt64 >>> (((nI 40) : Int32).toInt64.toUInt64 &&& Int64.toUInt64 63)).toInt64) : Int64).toInt32) &&& (nI 255))
def F_X2_makeKnown (S_0_shelf : Nat → Nat → Int64) (Q_0 : Nat → Nat → Int32) (v1 : Int32) : Option ((Nat → Nat → Int32)) :=
  cal1 (F_X3_bucketOf S_0_shelf 401 (Q_0 0 1)) fun x1 => cal1 (F_X5_put 401 (Q_0 1) (Q_0 0 1) v1) fun f3 => bnd (setc Q_0 1 f3) fun Q_0u5 => cal1 (F_X5_at (Q_0u5 2) 256 x1) fun x6 => cal1 (F_X5_put 401 (Q_0u5 3) (Q_0u5 0 1) x6) fun f8 => bnd (setc Q_0u5 3 f8) fun Q_0u10 => cal1 (F_X5_put 256 (Q_0u10 2) x1 (Q_0u10 0 1)) fun f11 => bnd (setc Q_0u10 2 f11) fun Q_0u13 => bnd (st2 Q_0u13 0 1 ((Q_0u13 0 1) + (nI 1))) fun Q_0u14 => some Q_0u14
def F_X4_cardsUp_s4 (T_0 : Nat → Nat → Int32) (r_0_rules : Nat → Int32) (K4 : Int32 → Int32 → Option (Int32)) (v1 : Int32) (v2 : Int32) : Option (Int32) :=
  cal1 (F_X1_cards r_0_rules) fun x1 => if x1 ≤ v2 then some v1 else cal1 (F_X4_isUp T_0 v2) fun x4 => if x4 = nI 0 then K4 v1 (v2 + (nI 1)) else K4 (v1 + (nI 1)) (v2 + (nI 1))
def F_X4_cardsUp_L4 (T_0 : Nat → Nat → Int32) (r_0_rules : Nat → Int32) : Nat → Int32 → Int32 → Option (Int32)
  | 0 => fun _ _ => none
  | n + 1 => fun v1 v2 => F_X4_cardsUp_s4 T_0 r_0_rules (F_X4_cardsUp_L4 T_0 r_0_rules n) v1 v2
def F_X4_cardsUp (T_0 : Nat → Nat → Int32) (r_0_rules : Nat → Int32) : Option (Int32) :=
  F_X4_cardsUp_L4 T_0 r_0_rules FU (nI 0) (nI 0)
def F_X4_isWon (T_0 : Nat → Nat → Int32) (r_0_rules : Nat → Int32) : Option (Int32) :=
  cal1 (F_X4_cardsUp T_0 r_0_rules) fun x1 => cal1 (F_X1_cards r_0_rules) fun x3 => if x1 = x3 then zb (nI 1) <| some (nI 1) else zb (nI 0) <| some (nI 0)
def F_X4_unpacked_s17 (K17 : (Nat → Nat → Int32) → Int32 → Int64 → Int32 → Option (Int32 × (Nat → Nat → Int32))) (T_0 : Nat → Nat → Int32) (v3 : Int32) (v5 : Int64) (v7 : Int32) : Option (Int32 × (Nat → Nat → Int32)) :=
  if v7 < v3 then some ((v5.toInt32), T_0) else if v7 < nI 0 then some ((v5.toInt32), T_0) else wrA T_0 1 16 v7 (((v5 &&& (lN 31)) : Int64).toInt32) fun T_0u3 => K17 T_0u3 v3 (v5 >>> (((nI 5) : Int32).toInt64 &&& 63)) (v7 + (-1))
def F_X4_unpacked_L17 : Nat → (Nat → Nat → Int32) → Int32 → Int64 → Int32 → Option (Int32 × (Nat → Nat → Int32))
  | 0 => fun _ _ _ _ => none
  | n + 1 => fun T_0 v3 v5 v7 => F_X4_unpacked_s17 (F_X4_unpacked_L17 n) T_0 v3 v5 v7
def F_X4_unpacked (T_0 : Nat → Nat → Int32) (v1 : Int64) (v3 : Int32) (v4 : Int32) : Option (Int32 × (Nat → Nat → Int32)) :=
  F_X4_unpacked_L17 FU T_0 v3 v1 ((if (nI 16) < v4 then (nI 16) else v4) - (nI 1))
def F_X4_unpackTops_s11 (K11 : (Nat → Nat → Int32) → Int64 → Int32 → Option ((Nat → Nat → Int32))) (T_0 : Nat → Nat → Int32) (v3 : Int64) (v5 : Int32) : Option ((Nat → Nat → Int32)) :=
  if v5 < nI 0 then some T_0 else wrA T_0 2 10 v5 ((((v3 &&& (lN 31)) : Int64).toInt32) - (nI 1)) fun T_0u2 => K11 T_0u2 (v3 >>> (((nI 5) : Int32).toInt64 &&& 63)) (v5 + (-1))
def F_X4_unpackTops_L11 : Nat → (Nat → Nat → Int32) → Int64 → Int32 → Option ((Nat → Nat → Int32))
  | 0 => fun _ _ _ => none
  | n + 1 => fun T_0 v3 v5 => F_X4_unpackTops_s11 (F_X4_unpackTops_L11 n) T_0 v3 v5
def F_X4_unpackTops (T_0 : Nat → Nat → Int32) (v1 : Int64) : Option ((Nat → Nat → Int32)) :=
  F_X4_unpackTops_L11 FU T_0 v1 ((nI 10) - (nI 1))
def F_X3_fetch (S_0 : Nat → Nat → Int64) (n_0 : Nat) (T_2 : Nat → Nat → Int32) (v1 : Int32) : Option ((Nat → Nat → Int32)) :=
  cal1 (F_X3_isRow S_0 n_0 v1) fun x1 => if x1 = nI 0 then some T_2 else rdA (S_0 0) n_0 v1 fun x4 => cal2 (F_X4_unpacked T_2 x4 (nI 0) (nI 8)) fun x6 T_2u7 => bnd (st2 T_2u7 0 5 x6) fun T_2u9 => rdA (S_0 1) n_0 v1 fun x10 => cal2 (F_X4_unpacked T_2u9 x10 (nI 8) (nI 16)) fun x12 T_2u13 => bnd (st2 T_2u13 0 6 x12) fun T_2u15 => rdA (S_0 2) n_0 v1 fun x16 => cal1 (F_X4_unpackTops T_2u15 x16) fun T_2u18 => some T_2u18
def F_X4_listedAt (T_0 : Nat → Nat → Int32) (v1 : Int32) : Option (Int32) :=
  if (T_0 0 4) ≤ v1 then some (-1) else cal1 (F_X5_at (T_0 3) 160 v1) fun x2 => some x2
def F_X3_areSame (S_0 : Nat → Nat → Int64) (n_0 : Nat) (v1 : Int32) (v2 : Int32) : Option (Int32) :=
  cal1 (F_X3_isRow S_0 n_0 v1) fun x1 => if x1 = nI 0 then zb (nI 0) <| some (nI 0) else cal1 (F_X3_isRow S_0 n_0 v2) fun x5 => if x5 = nI 0 then zb (nI 0) <| some (nI 0) else rdA (S_0 0) n_0 v1 fun x9 => rdA (S_0 0) n_0 v2 fun x11 => if (lg_cmp x9 x11) = nI 0 then rdA (S_0 1) n_0 v1 fun x15 => rdA (S_0 1) n_0 v2 fun x17 => if (lg_cmp x15 x17) = nI 0 then zb (nI 1) <| some (nI 1) else zb (nI 0) <| some (nI 0) else zb (nI 0) <| some (nI 0)
def F_X2_isKnownAlready_s21 (Q_0 : Nat → Nat → Int32) (S_0_shelf : Nat → Nat → Int64) (K21 : Int32 → Int32 → Option (Int32)) (v1 : Int32) (v2 : Int32) : Option (Int32) :=
  if (nI 400) ≤ v2 then zb (nI 0) <| some (nI 0) else if v1 = (-1) then zb (nI 0) <| some (nI 0) else cal1 (F_X3_areSame S_0_shelf 401 v1 (Q_0 0 1)) fun x5 => if x5 = nI 0 then cal1 (F_X5_at (Q_0 3) 401 v1) fun x8 => K21 x8 (v2 + (nI 1)) else zb (nI 1) <| some (nI 1)
def F_X2_isKnownAlready_L21 (Q_0 : Nat → Nat → Int32) (S_0_shelf : Nat → Nat → Int64) : Nat → Int32 → Int32 → Option (Int32)
  | 0 => fun _ _ => none
  | n + 1 => fun v1 v2 => F_X2_isKnownAlready_s21 Q_0 S_0_shelf (F_X2_isKnownAlready_L21 Q_0 S_0_shelf n) v1 v2
def F_X2_isKnownAlready (Q_0 : Nat → Nat → Int32) (S_0_shelf : Nat → Nat → Int64) : Option (Int32) :=
  cal1 (F_X3_bucketOf S_0_shelf 401 (Q_0 0 1)) fun x11 => cal1 (F_X5_at (Q_0 2) 256 x11) fun x13 => F_X2_isKnownAlready_L21 Q_0 S_0_shelf FU x13 (nI 0)
def F_X2_run_s101 (r_0_table_rules : Nat → Int32) (K55 : (Nat → Nat → Int32) → (Nat → Nat → Int32) → (Nat → Nat → Int32) → (Nat → Nat → Int64) → Int32 → Int32 → Option (Int32 × (Nat → Nat → Int32) × (Nat → Nat → Int32) × (Nat → Nat → Int32) × (Nat → Nat → Int64))) (K101 : (Nat → Nat → Int32) → (Nat → Nat → Int32) → (Nat → Nat → Int32) → (Nat → Nat → Int64) → Int32 → Int32 → Int32 → Int32 → Option (Int32 × (Nat → Nat → Int32) × (Nat → Nat → Int32) × (Nat → Nat → Int32) × (Nat → Nat → Int64))) (Q_0 : Nat → Nat → Int32) (T_0_origin : Nat → Nat → Int32) (T_0_table : Nat → Nat → Int32) (S_0_shelf : Nat → Nat → Int64) (v1 : Int32) (v2 : Int32) (v3 : Int32) (v4 : Int32) : Option (Int32 × (Nat → Nat → Int32) × (Nat → Nat → Int32) × (Nat → Nat → Int32) × (Nat → Nat → Int64)) :=
  if (T_0_origin 0 4) ≤ v4 then K55 Q_0 T_0_origin T_0_table S_0_shelf v1 (v2 + (nI 1)) else cal1 (F_X4_copyFrom T_0_origin T_0_table) fun T_0_tableu2 => cal1 (F_X4_listedAt T_0_origin v4) fun x4 => cal1 (F_X4_play T_0_tableu2 x4) fun T_0_tableu6 => cal1 (F_X3_keep T_0_tableu6 401 S_0_shelf (Q_0 0 1)) fun S_0_shelfu8 => cal1 (F_X2_isKnownAlready Q_0 S_0_shelfu8) fun x10 => if x10 = nI 0 then if (Q_0 0 1) < v1 then cal1 (F_X2_makeKnown S_0_shelfu8 Q_0 v3) fun Q_0u14 => cal1 (F_X4_isWon T_0_tableu6 r_0_table_rules) fun x16 => if x16 = nI 0 then K101 Q_0u14 T_0_origin T_0_tableu6 S_0_shelfu8 v1 v2 v3 (v4 + (nI 1)) else some (v3, Q_0u14, T_0_origin, T_0_tableu6, S_0_shelfu8) else some ((-2), Q_0, T_0_origin, T_0_tableu6, S_0_shelfu8) else K101 Q_0 T_0_origin T_0_tableu6 S_0_shelfu8 v1 v2 v3 (v4 + (nI 1))
def F_X2_run_L101 (r_0_table_rules : Nat → Int32) (K55 : (Nat → Nat → Int32) → (Nat → Nat → Int32) → (Nat → Nat → Int32) → (Nat → Nat → Int64) → Int32 → Int32 → Option (Int32 × (Nat → Nat → Int32) × (Nat → Nat → Int32) × (Nat → Nat → Int32) × (Nat → Nat → Int64))) : Nat → (Nat → Nat → Int32) → (Nat → Nat → Int32) → (Nat → Nat → Int32) → (Nat → Nat → Int64) → Int32 → Int32 → Int32 → Int32 → Option (Int32 × (Nat → Nat → Int32) × (Nat → Nat → Int32) × (Nat → Nat → Int32) × (Nat → Nat → Int64))
  | 0 => fun _ _ _ _ _ _ _ _ => none
  | n + 1 => fun Q_0 T_0_origin T_0_table S_0_shelf v1 v2 v3 v4 => F_X2_run_s101 r_0_table_rules K55 (F_X2_run_L101 r_0_table_rules K55 n) Q_0 T_0_origin T_0_table S_0_shelf v1 v2 v3 v4
def F_X2_run_s55 (r_0_table_rules : Nat → Int32) (K55 : (Nat → Nat → Int32) → (Nat → Nat → Int32) → (Nat → Nat → Int32) → (Nat → Nat → Int64) → Int32 → Int32 → Option (Int32 × (Nat → Nat → Int32) × (Nat → Nat → Int32) × (Nat → Nat → Int32) × (Nat → Nat → Int64))) (Q_0 : Nat → Nat → Int32) (T_0_origin : Nat → Nat → Int32) (T_0_table : Nat → Nat → Int32) (S_0_shelf : Nat → Nat → Int64) (v1 : Int32) (v2 : Int32) : Option (Int32 × (Nat → Nat → Int32) × (Nat → Nat → Int32) × (Nat → Nat → Int32) × (Nat → Nat → Int64)) :=
  if (Q_0 0 1) ≤ v2 then some ((-1), Q_0, T_0_origin, T_0_table, S_0_shelf) else if v1 ≤ v2 then some ((-1), Q_0, T_0_origin, T_0_table, S_0_shelf) else cal1 (F_X5_at (Q_0 1) 401 v2) fun x21 => cal1 (F_X3_fetch S_0_shelf 401 T_0_origin v2) fun T_0_originu23 => cal1 (F_X4_listMoves r_0_table_rules T_0_originu23) fun T_0_originu25 => F_X2_run_L101 r_0_table_rules K55 FU Q_0 T_0_originu25 T_0_table S_0_shelf v1 v2 (x21 + (nI 1)) (nI 0)
def F_X2_run_L55 (r_0_table_rules : Nat → Int32) : Nat → (Nat → Nat → Int32) → (Nat → Nat → Int32) → (Nat → Nat → Int32) → (Nat → Nat → Int64) → Int32 → Int32 → Option (Int32 × (Nat → Nat → Int32) × (Nat → Nat → Int32) × (Nat → Nat → Int32) × (Nat → Nat → Int64))
  | 0 => fun _ _ _ _ _ _ => none
  | n + 1 => fun Q_0 T_0_origin T_0_table S_0_shelf v1 v2 => F_X2_run_s55 r_0_table_rules (F_X2_run_L55 r_0_table_rules n) Q_0 T_0_origin T_0_table S_0_shelf v1 v2
def F_X2_run (r_0_table_rules : Nat → Int32) (Q_0 : Nat → Nat → Int32) (T_0_origin : Nat → Nat → Int32) (T_0_table : Nat → Nat → Int32) (S_0_shelf : Nat → Nat → Int64) (v1 : Int32) : Option (Int32 × (Nat → Nat → Int32) × (Nat → Nat → Int32) × (Nat → Nat → Int32) × (Nat → Nat → Int64)) :=
  cal1 (F_J7_fill_53178 256 (Q_0 2) (-1)) fun f27 => bnd (setc Q_0 2 f27) fun Q_0u29 => bnd (st2 Q_0u29 0 1 (nI 0)) fun Q_0u30 => cal1 (F_X4_copyFrom T_0_table T_0_origin) fun T_0_originu31 => cal1 (F_X3_keep T_0_table 401 S_0_shelf (nI 0)) fun S_0_shelfu33 => cal1 (F_X2_makeKnown S_0_shelfu33 Q_0u30 (nI 0)) fun Q_0u35 => cal1 (F_X4_isWon T_0_table r_0_table_rules) fun x37 => if x37 = nI 0 then F_X2_run_L55 r_0_table_rules FU Q_0u35 T_0_originu31 T_0_table S_0_shelfu33 v1 (nI 0) else some ((nI 0), Q_0u35, T_0_originu31, T_0_table, S_0_shelfu33)
def F_X5_hint_s40 (P_0 : Nat → Int32) (r_0_rules : Nat → Int32) (K40 : (Nat → Nat → Int32) → (Nat → Nat → Int32) → (Nat → Nat → Int32) → (Nat → Nat → Int32) → (Nat → Nat → Int64) → Int32 → Int32 → Option (Int32 × (Nat → Nat → Int32) × (Nat → Nat → Int32) × (Nat → Nat → Int32) × (Nat → Nat → Int32) × (Nat → Nat → Int64))) (Q_0_searcher : Nat → Nat → Int32) (T_0_searcher_table : Nat → Nat → Int32) (T_0_now : Nat → Nat → Int32) (T_0_searcher_origin : Nat → Nat → Int32) (S_0_searcher_shelf : Nat → Nat → Int64) (v1 : Int32) (v2 : Int32) : Option (Int32 × (Nat → Nat → Int32) × (Nat → Nat → Int32) × (Nat → Nat → Int32) × (Nat → Nat → Int32) × (Nat → Nat → Int64)) :=
  if (T_0_now 0 4) ≤ v2 then some ((-1), Q_0_searcher, T_0_searcher_table, T_0_now, T_0_searcher_origin, S_0_searcher_shelf) else cal1 (F_X4_listedAt T_0_now v2) fun x2 => cal1 (F_X4_copyFrom T_0_now T_0_searcher_table) fun T_0_searcher_tableu4 => cal1 (F_X4_play T_0_searcher_tableu4 x2) fun T_0_searcher_tableu6 => cal5 (F_X2_run r_0_rules Q_0_searcher T_0_searcher_origin T_0_searcher_tableu6 S_0_searcher_shelf (nI 100)) fun x8 Q_0_searcheru9 T_0_searcher_originu10 T_0_searcher_tableu11 S_0_searcher_shelfu12 => if x8 = (v1 - (nI 1)) then some (x2, Q_0_searcheru9, T_0_searcher_tableu11, T_0_now, T_0_searcher_originu10, S_0_searcher_shelfu12) else K40 Q_0_searcheru9 T_0_searcher_tableu11 T_0_now T_0_searcher_originu10 S_0_searcher_shelfu12 v1 (v2 + (nI 1))
def F_X5_hint_L40 (P_0 : Nat → Int32) (r_0_rules : Nat → Int32) : Nat → (Nat → Nat → Int32) → (Nat → Nat → Int32) → (Nat → Nat → Int32) → (Nat → Nat → Int32) → (Nat → Nat → Int64) → Int32 → Int32 → Option (Int32 × (Nat → Nat → Int32) × (Nat → Nat → Int32) × (Nat → Nat → Int32) × (Nat → Nat → Int32) × (Nat → Nat → Int64))
  | 0 => fun _ _ _ _ _ _ _ => none
  | n + 1 => fun Q_0_searcher T_0_searcher_table T_0_now T_0_searcher_origin S_0_searcher_shelf v1 v2 => F_X5_hint_s40 P_0 r_0_rules (F_X5_hint_L40 P_0 r_0_rules n) Q_0_searcher T_0_searcher_table T_0_now T_0_searcher_origin S_0_searcher_shelf v1 v2
def F_X5_hint (P_0 : Nat → Int32) (r_0_rules : Nat → Int32) (Q_0_searcher : Nat → Nat → Int32) (T_0_searcher_table : Nat → Nat → Int32) (T_0_now : Nat → Nat → Int32) (T_0_searcher_origin : Nat → Nat → Int32) (S_0_searcher_shelf : Nat → Nat → Int64) : Option (Int32 × (Nat → Nat → Int32) × (Nat → Nat → Int32) × (Nat → Nat → Int32) × (Nat → Nat → Int32) × (Nat → Nat → Int64)) :=
  cal1 (F_X4_copyFrom T_0_now T_0_searcher_table) fun T_0_searcher_tableu15 => cal5 (F_X2_run r_0_rules Q_0_searcher T_0_searcher_origin T_0_searcher_tableu15 S_0_searcher_shelf (nI 100)) fun x17 Q_0_searcheru18 T_0_searcher_originu19 T_0_searcher_tableu20 S_0_searcher_shelfu21 => if (nI 1) ≤ x17 then cal1 (F_X4_listMoves r_0_rules T_0_now) fun T_0_nowu24 => F_X5_hint_L40 P_0 r_0_rules FU Q_0_searcheru18 T_0_searcher_tableu20 T_0_nowu24 T_0_searcher_originu19 S_0_searcher_shelfu21 x17 (nI 0) else some ((-1), Q_0_searcheru18, T_0_searcher_tableu20, T_0_now, T_0_searcher_originu19, S_0_searcher_shelfu21)
def F_X0_nextOf_b22 (s0 : Int32) : Option (Int32) :=
  some (s0 &&& (nI 2147483647))
def F_X0_nextOf (v0 : Int32) (v1 : Int32) : Option (Int32) :=
  if v0 = nI 0 then F_X0_nextOf_b22 ((v1 * (nI 214013)) + (nI 2531011)) else F_X0_nextOf_b22 ((v1 * (nI 1103515245)) + (nI 12345))
def F_X0_draw_s39 (K39 : (Nat → Nat → Int32) → Int32 → Int32 → Int32 → Int32 → Option ((Nat → Nat → Int32))) (D_0 : Nat → Nat → Int32) (v1 : Int32) (v3 : Int32) (v4 : Int32) (v5 : Int32) : Option ((Nat → Nat → Int32)) :=
  if v5 ≤ nI 0 then some D_0 else cal1 (F_X0_nextOf v1 v4) fun x2 => nz (nI 65536) <| nz (nI 32768) <| nz v5 <| cal1 (F_X5_at (D_0 0) 16 (((x2 / (nI 65536)) - (x2 / (nI 65536)) / (nI 32768) * (nI 32768)) - ((x2 / (nI 65536)) - (x2 / (nI 65536)) / (nI 32768) * (nI 32768)) / v5 * v5)) fun x7 => cal1 (F_X5_put 16 (D_0 1) (v3 - v5) x7) fun f9 => bnd (setc D_0 1 f9) fun D_0u11 => cal1 (F_X5_at (D_0u11 0) 16 (v5 - (nI 1))) fun x12 => cal1 (F_X5_put 16 (D_0u11 0) (((x2 / (nI 65536)) - (x2 / (nI 65536)) / (nI 32768) * (nI 32768)) - ((x2 / (nI 65536)) - (x2 / (nI 65536)) / (nI 32768) * (nI 32768)) / v5 * v5) x12) fun f14 => bnd (setc D_0u11 0 f14) fun D_0u16 => K39 D_0u16 v1 v3 x2 (v5 + (-1))
def F_X0_draw_L39 : Nat → (Nat → Nat → Int32) → Int32 → Int32 → Int32 → Int32 → Option ((Nat → Nat → Int32))
  | 0 => fun _ _ _ _ _ => none
  | n + 1 => fun D_0 v1 v3 v4 v5 => F_X0_draw_s39 (F_X0_draw_L39 n) D_0 v1 v3 v4 v5
def F_X0_draw_b28 (D_0 : Nat → Nat → Int32) (v1 : Int32) (v2 : Int32) (v3 : Int32) : Option ((Nat → Nat → Int32)) :=
  F_X0_draw_L39 FU D_0 v1 v3 v2 (if (nI 16) < v3 then (nI 16) else v3)
def F_X0_draw_s3 (K3 : (Nat → Nat → Int32) → Int32 → Int32 → Int32 → Int32 → Option ((Nat → Nat → Int32))) (D_0 : Nat → Nat → Int32) (v1 : Int32) (v2 : Int32) (v3 : Int32) (v4 : Int32) : Option ((Nat → Nat → Int32)) :=
  if (nI 16) ≤ v4 then F_X0_draw_b28 D_0 v1 v2 v3 else wrA D_0 0 16 v4 v4 fun D_0u18 => K3 D_0u18 v1 v2 v3 (v4 + (nI 1))
def F_X0_draw_L3 : Nat → (Nat → Nat → Int32) → Int32 → Int32 → Int32 → Int32 → Option ((Nat → Nat → Int32))
  | 0 => fun _ _ _ _ _ => none
  | n + 1 => fun D_0 v1 v2 v3 v4 => F_X0_draw_s3 (F_X0_draw_L3 n) D_0 v1 v2 v3 v4
def F_X0_draw (D_0 : Nat → Nat → Int32) (v1 : Int32) (v2 : Int32) (v3 : Int32) : Option ((Nat → Nat → Int32)) :=
  F_X0_draw_L3 FU D_0 v1 v2 v3 (nI 0)
def F_X1_inColumns (r_0 : Nat → Int32) : Option (Int32) :=
  cal1 (F_X1_cards r_0) fun x1 => some (x1 - (r_0 6))
def F_X0_takenAt (D_0 : Nat → Nat → Int32) (v1 : Int32) : Option (Int32) :=
  cal1 (F_X5_at (D_0 1) 16 v1) fun x1 => some x1
def F_X4_lay_b119 (r_1 : Nat → Int32) (D_2 : Nat → Nat → Int32) (K40 : (Nat → Nat → Int32) → Int32 → Int32 → Option ((Nat → Nat → Int32))) (T_0 : Nat → Nat → Int32) (v3 : Int32) (v4 : Int32) (v5 : Int32) : Option ((Nat → Nat → Int32)) :=
  cal1 (F_X0_takenAt D_2 v4) fun x1 => cal1 (F_X0_takenAt D_2 v4) fun x3 => cal1 (F_X4_layOn T_0 x1 x3 v5) fun T_0u5 => K40 T_0u5 v3 (v4 + (nI 1))
def F_X4_lay_b74 (r_1 : Nat → Int32) (D_2 : Nat → Nat → Int32) (K40 : (Nat → Nat → Int32) → Int32 → Int32 → Option ((Nat → Nat → Int32))) (T_0 : Nat → Nat → Int32) (v3 : Int32) (v4 : Int32) (s0 : Int32) : Option ((Nat → Nat → Int32)) :=
  cal1 (F_X4_topOf T_0 s0) fun x7 => if (r_1 8) = nI 0 then F_X4_lay_b119 r_1 D_2 K40 T_0 v3 v4 s0 else if s0 = (nI 9) then F_X4_lay_b119 r_1 D_2 K40 T_0 v3 v4 s0 else cal1 (F_X5_isCard x7) fun x11 => if x11 = nI 0 then F_X4_lay_b119 r_1 D_2 K40 T_0 v3 v4 s0 else bnd (st2 T_0 0 5 ((T_0 0 5) ||| ((nI 1) <<< (x7 &&& 31)))) fun T_0u14 => F_X4_lay_b119 r_1 D_2 K40 T_0u14 v3 v4 s0
def F_X4_lay_s40 (r_1 : Nat → Int32) (D_2 : Nat → Nat → Int32) (K40 : (Nat → Nat → Int32) → Int32 → Int32 → Option ((Nat → Nat → Int32))) (T_0 : Nat → Nat → Int32) (v3 : Int32) (v4 : Int32) : Option ((Nat → Nat → Int32)) :=
  cal1 (F_X1_cards r_1) fun x15 => if x15 ≤ v4 then some T_0 else if v3 ≤ v4 then F_X4_lay_b74 r_1 D_2 K40 T_0 v3 v4 (nI 9) else if (r_1 2) ≤ nI 0 then F_X4_lay_b74 r_1 D_2 K40 T_0 v3 v4 (nI 9) else nz (r_1 2) <| F_X4_lay_b74 r_1 D_2 K40 T_0 v3 v4 (v4 - v4 / (r_1 2) * (r_1 2))
def F_X4_lay_L40 (r_1 : Nat → Int32) (D_2 : Nat → Nat → Int32) : Nat → (Nat → Nat → Int32) → Int32 → Int32 → Option ((Nat → Nat → Int32))
  | 0 => fun _ _ _ => none
  | n + 1 => fun T_0 v3 v4 => F_X4_lay_s40 r_1 D_2 (F_X4_lay_L40 r_1 D_2 n) T_0 v3 v4
def F_X4_lay (r_1 : Nat → Int32) (D_2 : Nat → Nat → Int32) (T_0 : Nat → Nat → Int32) : Option ((Nat → Nat → Int32)) :=
  bnd (st2 T_0 0 5 (nI 0)) fun T_0u21 => bnd (st2 T_0u21 0 6 (nI 0)) fun T_0u22 => cal1 (F_J7_fill_53178 16 (T_0u22 1) (nI 20)) fun f23 => bnd (setc T_0u22 1 f23) fun T_0u25 => cal1 (F_J7_fill_53178 10 (T_0u25 2) (-1)) fun f26 => bnd (setc T_0u25 2 f26) fun T_0u28 => cal1 (F_X1_inColumns r_1) fun x29 => F_X4_lay_L40 r_1 D_2 FU T_0u28 x29 (nI 0)
def F_X5_dealNumber (r_0_rules : Nat → Int32) (P_0 : Nat → Int32) (D_0_dealt : Nat → Nat → Int32) (T_0_now : Nat → Nat → Int32) (v1 : Int32) (v2 : Int32) : Option ((Nat → Int32) × (Nat → Nat → Int32) × (Nat → Nat → Int32)) :=
  cal1 (F_X1_cards r_0_rules) fun x1 => cal1 (F_X0_draw D_0_dealt v1 v2 x1) fun D_0_dealtu3 => cal1 (F_X4_lay r_0_rules D_0_dealtu3 T_0_now) fun T_0_nowu5 => bnd (upd P_0 7 (nI 0)) fun P_0u7 => bnd (upd P_0u7 8 (nI 0)) fun P_0u8 => some (P_0u8, D_0_dealtu3, T_0_nowu5)
def F_X5_moneyOfDeal (P_0 : Nat → Int32) (T_0_now : Nat → Nat → Int32) (r_0_rules : Nat → Int32) : Option (Int32) :=
  cal1 (F_X4_cardsUp T_0_now r_0_rules) fun x1 => some ((((nI 5) * x1) - (P_0 7)) - ((nI 2) * (P_0 8)))
def F_X5_isWithin (v0 : Int32) (v1 : Int32) (v2 : Int32) : Option (Int32) :=
  if v0 < v1 then zb (nI 0) <| some (nI 0) else if v2 < v0 then zb (nI 0) <| some (nI 0) else zb (nI 1) <| some (nI 1)
def F_X0_isSameAs_s2 (D_0 : Nat → Nat → Int32) (D_1 : Nat → Nat → Int32) (K2 : Int32 → Int32 → Option (Int32)) (v2 : Int32) (v3 : Int32) : Option (Int32) :=
  if v2 ≤ v3 then zb (nI 1) <| some (nI 1) else cal1 (F_X0_takenAt D_0 v3) fun x3 => cal1 (F_X0_takenAt D_1 v3) fun x5 => if x3 = x5 then K2 v2 (v3 + (nI 1)) else zb (nI 0) <| some (nI 0)
def F_X0_isSameAs_L2 (D_0 : Nat → Nat → Int32) (D_1 : Nat → Nat → Int32) : Nat → Int32 → Int32 → Option (Int32)
  | 0 => fun _ _ => none
  | n + 1 => fun v2 v3 => F_X0_isSameAs_s2 D_0 D_1 (F_X0_isSameAs_L2 D_0 D_1 n) v2 v3
def F_X0_isSameAs (D_0 : Nat → Nat → Int32) (D_1 : Nat → Nat → Int32) (v2 : Int32) : Option (Int32) :=
  F_X0_isSameAs_L2 D_0 D_1 FU v2 (nI 0)
def F_X1_copyFrom (r_1 : Nat → Int32) (r_0 : Nat → Int32) : Option ((Nat → Int32)) :=
  bnd (upd r_0 0 (r_1 0)) fun r_0u1 => bnd (upd r_0u1 1 (r_1 1)) fun r_0u2 => bnd (upd r_0u2 2 (r_1 2)) fun r_0u3 => bnd (upd r_0u3 3 (r_1 3)) fun r_0u4 => bnd (upd r_0u4 4 (r_1 4)) fun r_0u5 => bnd (upd r_0u5 5 (r_1 5)) fun r_0u6 => bnd (upd r_0u6 6 (r_1 6)) fun r_0u7 => bnd (upd r_0u7 7 (r_1 7)) fun r_0u8 => zb (r_1 8) <| bnd (upd r_0u8 8 (r_1 8)) fun r_0u9 => some r_0u9
def F_X4_highestUp_s21 (T_0 : Nat → Nat → Int32) (r_0_rules : Nat → Int32) (K21 : Int32 → Int32 → Option (Int32)) (v1 : Int32) (v2 : Int32) : Option (Int32) :=
  if v2 ≤ nI 0 then some (-1) else cal1 (F_X4_isUp T_0 (((v1 * (r_0_rules 1)) + v2) - (nI 1))) fun x2 => if x2 = nI 0 then K21 v1 (v2 + (-1)) else some (((v1 * (r_0_rules 1)) + v2) - (nI 1))
def F_X4_highestUp_L21 (T_0 : Nat → Nat → Int32) (r_0_rules : Nat → Int32) : Nat → Int32 → Int32 → Option (Int32)
  | 0 => fun _ _ => none
  | n + 1 => fun v1 v2 => F_X4_highestUp_s21 T_0 r_0_rules (F_X4_highestUp_L21 T_0 r_0_rules n) v1 v2
def F_X4_highestUp (T_0 : Nat → Nat → Int32) (r_0_rules : Nat → Int32) (v1 : Int32) : Option (Int32) :=
  if v1 < (r_0_rules 0) then F_X4_highestUp_L21 T_0 r_0_rules FU v1 (r_0_rules 1) else some (-1)
def F_X4_heightOf_s8 (T_0 : Nat → Nat → Int32) (K8 : Int32 → Int32 → Option (Int32)) (v2 : Int32) (v3 : Int32) : Option (Int32) :=
  if v3 = (-1) then some v2 else if (nI 16) ≤ v2 then some v2 else cal1 (F_X4_under T_0 v3) fun x3 => K8 (v2 + (nI 1)) x3
def F_X4_heightOf_L8 (T_0 : Nat → Nat → Int32) : Nat → Int32 → Int32 → Option (Int32)
  | 0 => fun _ _ => none
  | n + 1 => fun v2 v3 => F_X4_heightOf_s8 T_0 (F_X4_heightOf_L8 T_0 n) v2 v3
def F_X4_heightOf (T_0 : Nat → Nat → Int32) (v1 : Int32) : Option (Int32) :=
  cal1 (F_X4_topOf T_0 v1) fun x5 => F_X4_heightOf_L8 T_0 FU (nI 0) x5
def F_X4_seenInColumn (T_0 : Nat → Nat → Int32) (v1 : Int32) (v2 : Int32) : Option (Int32) :=
  cal1 (F_X4_heightOf T_0 v1) fun x1 => if v2 < x1 then cal1 (F_X4_fromTop T_0 v1 ((x1 - (nI 1)) - v2)) fun x4 => cal1 (F_X4_liesHidden T_0 x4) fun x6 => if x6 = nI 0 then some x4 else some (-2) else some (-1)
