/-! printed by gen2.py: what the methods do, as functions -/
def f_X0_forget (σ : Mem) : Option Mem :=
  (some (mset σ 35 1 0)).bind fun σ1 =>
  (some (mset σ1 35 2 0)).bind fun σ2 =>
  some σ2

def f_X6_has (σ : Mem) (t : Nat) (x1 : Int32) : Option Int32 :=
  if x1 < 0 then
  (some 0)
  else
  (if isTown t = true then
  if (σ t 4) ≤ x1 then
  (some 0)
  else
  (some 1)
  else none)

def f_X0_keep_b108 (x1 : Nat) (x3 : Nat) (s0 : Int32) (s1 : Int32) (s2 : Nat) (σ : Mem) : Option Mem :=
  if isIA s2 = true then
  if inB s1 (alen s2) = true then
  (some (mset σ s2 s1.toNatClampNeg s0)).bind fun σ2 =>
  if isTown x1 = true then
  if isIA x3 = true then
  if inB 3 (alen x3) = true then
  (some (mset σ2 x3 (3 : Int32).toNatClampNeg (σ2 x1 9))).bind fun σ5 =>
  if inB 4 (alen x3) = true then
  (some (mset σ5 x3 (4 : Int32).toNatClampNeg (σ5 x1 10))).bind fun σ6 =>
  if inB 5 (alen x3) = true then
  (some (mset σ6 x3 (5 : Int32).toNatClampNeg (σ6 x1 11))).bind fun σ7 =>
  if inB 6 (alen x3) = true then
  (some (mset σ7 x3 (6 : Int32).toNatClampNeg (σ7 x1 12))).bind fun σ8 =>
  some σ8
  else none
  else none
  else none
  else none
  else none
  else none
  else none
  else none
def f_X0_keep_b90 (x1 : Nat) (x2 : Int32) (x3 : Nat) (x4 : Int32) (s0 : Int32) (s1 : Int32) (s2 : Nat) (σ : Mem) : Option Mem :=
  if isIA s2 = true then
  if inB s1 (alen s2) = true then
  (some (mset σ s2 s1.toNatClampNeg s0)).bind fun σ2 =>
  if x4 = 0 then
  (f_X0_keep_b108 x1 x3 0 2 x3 σ2)
  else
  (if isTown x1 = true then
  if inB x2 6 = true then
  f_X0_keep_b108 x1 x3 (σ2 (x1 + 3) x2.toNatClampNeg) 2 x3 σ2
  else none
  else none)
  else none
  else none
def f_X0_keep_b72 (x1 : Nat) (x2 : Int32) (x3 : Nat) (x4 : Int32) (s0 : Int32) (s1 : Int32) (s2 : Nat) (σ : Mem) : Option Mem :=
  if isIA s2 = true then
  if inB s1 (alen s2) = true then
  (some (mset σ s2 s1.toNatClampNeg s0)).bind fun σ2 =>
  if x4 = 0 then
  (f_X0_keep_b90 x1 x2 x3 x4 0 1 x3 σ2)
  else
  (if isTown x1 = true then
  if inB x2 6 = true then
  f_X0_keep_b90 x1 x2 x3 x4 (σ2 (x1 + 2) x2.toNatClampNeg) 1 x3 σ2
  else none
  else none)
  else none
  else none
def f_X0_keep_b53 (x1 : Nat) (x2 : Int32) (x3 : Nat) (σ : Mem) : Option Mem :=
  if isTown x1 = true then
  (f_X6_has σ x1 x2).bind fun y2 =>
  if y2 = 0 then
  (f_X0_keep_b72 x1 x2 x3 y2 (-1) 0 x3 σ)
  else
  (f_X0_keep_b72 x1 x2 x3 y2 x2 0 x3 σ)
  else none
def f_X0_keep (x1 : Nat) (x2 : Int32) (σ : Mem) : Option Mem :=
  if inB (((σ 35 1) + (σ 35 2)) - ((σ 35 1) + (σ 35 2)) / 24 * 24) 24 = true then
  if 24 ≤ (σ 35 2) then
  ((some (mset σ 35 1 (((σ 35 1) + 1) - ((σ 35 1) + 1) / 24 * 24))).bind fun σ3 =>
  f_X0_keep_b53 x1 x2 (37 + (((σ 35 1) + (σ 35 2)) - ((σ 35 1) + (σ 35 2)) / 24 * 24).toNatClampNeg) σ3)
  else
  ((some (mset σ 35 2 ((σ 35 2) + 1))).bind fun σ4 =>
  f_X0_keep_b53 x1 x2 (37 + (((σ 35 1) + (σ 35 2)) - ((σ 35 1) + (σ 35 2)) / 24 * 24).toNatClampNeg) σ4)
  else none

def f_X6_copyStands (t : Nat) (x1 : Int32) (x2 : Int32) (x3 : Int32) (x4 : Int32) (σ : Mem) : Option Mem :=
  if isTown t = true then
  (some (mset σ t 9 x1)).bind fun σ2 =>
  (some (mset σ2 t 10 x2)).bind fun σ3 =>
  (some (mset σ3 t 11 x3)).bind fun σ4 =>
  (some (mset σ4 t 12 x4)).bind fun σ5 =>
  some σ5
  else none

def f_X0_takeBack_b66 (x1 : Nat) (x2 : Nat) (σ : Mem) : Option Mem :=
  if isIA x2 = true then
  if inB 3 (alen x2) = true then
  if inB 4 (alen x2) = true then
  if inB 5 (alen x2) = true then
  if inB 6 (alen x2) = true then
  if isTown x1 = true then
  (f_X6_copyStands x1 (σ x2 (3 : Int32).toNatClampNeg) (σ x2 (4 : Int32).toNatClampNeg) (σ x2 (5 : Int32).toNatClampNeg) (σ x2 (6 : Int32).toNatClampNeg) σ).bind fun σ4 =>
  some σ4
  else none
  else none
  else none
  else none
  else none
  else none
def f_X0_takeBack (x1 : Nat) (σ : Mem) : Option Mem :=
  if 0 < (σ 35 2) then
  ((some (mset σ 35 2 ((σ 35 2) - 1))).bind fun σ2 =>
  if inB (((σ2 35 1) + (σ2 35 2)) - ((σ2 35 1) + (σ2 35 2)) / 24 * 24) 24 = true then
  if inB 0 7 = true then
  (some (σ2 (37 + (((σ2 35 1) + (σ2 35 2)) - ((σ2 35 1) + (σ2 35 2)) / 24 * 24).toNatClampNeg) (0 : Int32).toNatClampNeg : Int32)).bind fun y4 =>
  if isTown x1 = true then
  (f_X6_has σ2 x1 y4).bind fun y6 =>
  if y6 = 0 then
  (f_X0_takeBack_b66 x1 (37 + (((σ2 35 1) + (σ2 35 2)) - ((σ2 35 1) + (σ2 35 2)) / 24 * 24).toNatClampNeg) σ2)
  else
  (if inB 1 7 = true then
  if inB y4 6 = true then
  (some (mset σ2 (x1 + 2) y4.toNatClampNeg (σ2 (37 + (((σ2 35 1) + (σ2 35 2)) - ((σ2 35 1) + (σ2 35 2)) / 24 * 24).toNatClampNeg) (1 : Int32).toNatClampNeg))).bind fun σ8 =>
  if inB 2 7 = true then
  if inB y4 6 = true then
  (some (mset σ8 (x1 + 3) y4.toNatClampNeg (σ8 (37 + (((σ2 35 1) + (σ2 35 2)) - ((σ2 35 1) + (σ2 35 2)) / 24 * 24).toNatClampNeg) (2 : Int32).toNatClampNeg))).bind fun σ9 =>
  f_X0_takeBack_b66 x1 (37 + (((σ2 35 1) + (σ2 35 2)) - ((σ2 35 1) + (σ2 35 2)) / 24 * 24).toNatClampNeg) σ9
  else none
  else none
  else none
  else none)
  else none
  else none
  else none)
  else
  (some σ)

def f_X1_of (x1 : Nat) (x2 : Int32) (σ : Mem) : Option Mem :=
  (some (mset σ 75 1 0)).bind fun σ1 =>
  if isTown x1 = true then
  if inB x2 6 = true then
  (some (mset σ1 75 2 (σ1 (x1 + 1) x2.toNatClampNeg))).bind fun σ3 =>
  (some (mset σ3 75 3 x2)).bind fun σ4 =>
  if inB x2 6 = true then
  (some (mset σ4 75 4 (σ4 (x1 + 3) x2.toNatClampNeg))).bind fun σ5 =>
  if inB x2 6 = true then
  (some (mset σ5 75 5 (σ5 (x1 + 2) x2.toNatClampNeg))).bind fun σ6 =>
  some σ6
  else none
  else none
  else none
  else none

def f_X1_begins (x1 : Int32) (σ : Mem) : Option Mem :=
  if 16 ≤ (σ 75 1) then
  (some σ)
  else
  (if inB (σ 75 1) 16 = true then
  (some (mset σ 76 (σ 75 1).toNatClampNeg x1)).bind fun σ2 =>
  (some (mset σ2 75 1 ((σ2 75 1) + 1))).bind fun σ3 =>
  some σ3
  else none)

def f_X7_isOfKind_b4 (n : Nat) (σ : Mem) (k4 : Int32 → Int32 → Int32 → Option Int32) (x1 : Int32) (x2 : Int32) (x3 : Int32) : Option Int32 :=
  if 6 ≤ x3 then
  (some 0)
  else
  (if x2 < 0 then
  (some 0)
  else
  (if 6 ≤ x2 then
  (some 0)
  else
  (if x2 = x1 then
  (some 1)
  else
  (if inB x2 6 = true then
  (some (nearV x2.toNatClampNeg : Int32)).bind fun y5 =>
  k4 x1 y5 (x3 + 1)
  else none))))
def f_X7_isOfKind_l4 (n : Nat) (σ : Mem) : Nat → Int32 → Int32 → Int32 → Option Int32
  | 0 => fun _ _ _ => none
  | f + 1 => f_X7_isOfKind_b4 n σ (f_X7_isOfKind_l4 n σ f)
def f_X7_isOfKind (n : Nat) (σ : Mem) (x0 : Int32) (x1 : Int32) : Option Int32 :=
  f_X7_isOfKind_l4 n σ n x1 x0 0

def f_X1_lentSize (σ : Mem) : Option (Int32 × Mem) :=
  (f_X1_begins 10 σ).bind fun σ2 =>
  some (σ2 75 4, σ2)

def f_X1_oldSize (σ : Mem) : Option (Int32 × Mem) :=
  (f_X1_begins 13 σ).bind fun σ2 =>
  (f_X1_lentSize σ2).bind fun (y3, σ4) =>
  some (y3 - 100, σ4)

def f_X1_sizeAskedOfOld (σ : Mem) : Option (Int32 × Mem) :=
  if (σ 75 2) = 5 then
  ((f_X1_begins 14 σ).bind fun σ5 =>
  (f_X1_oldSize σ5).bind fun (y6, σ7) =>
  some (2 * y6, σ7))
  else
  ((f_X1_oldSize σ).bind fun (y2, σ3) =>
  some (y2, σ3))

def f_X1_lentMark (σ : Mem) : Option (Int32 × Mem) :=
  (f_X1_begins 20 σ).bind fun σ2 =>
  some (σ2 75 3, σ2)

def f_X1_freshMark (σ : Mem) : Option (Int32 × Mem) :=
  (f_X1_begins 21 σ).bind fun σ2 =>
  (f_X1_lentMark σ2).bind fun (y3, σ4) =>
  some (y3 + (σ4 75 5), σ4)

def f_X1_markAskedOfFresh (σ : Mem) : Option (Int32 × Mem) :=
  if (σ 75 2) = 2 then
  ((f_X1_begins 24 σ).bind fun σ10 =>
  (f_X1_freshMark σ10).bind fun (y11, σ12) =>
  some (2 * y11, σ12))
  else
  (if (σ 75 2) = 3 then
  ((f_X1_begins 22 σ).bind fun σ6 =>
  (f_X1_freshMark σ6).bind fun (y7, σ8) =>
  some (y7 - 1000, σ8))
  else
  ((f_X1_freshMark σ).bind fun (y3, σ4) =>
  some (y3, σ4)))

def f_X1_freshSize (σ : Mem) : Option (Int32 × Mem) :=
  (f_X1_begins 11 σ).bind fun σ2 =>
  (f_X1_lentSize σ2).bind fun (y3, σ4) =>
  (f_X1_markAskedOfFresh σ4).bind fun (y5, σ6) =>
  some (y3 + y5, σ6)

def f_X1_sizeAskedOfFresh (σ : Mem) : Option (Int32 × Mem) :=
  if (σ 75 2) = 2 then
  ((f_X1_begins 12 σ).bind fun σ5 =>
  (f_X1_freshSize σ5).bind fun (y6, σ7) =>
  some (-y6, σ7))
  else
  ((f_X1_freshSize σ).bind fun (y2, σ3) =>
  some (y2, σ3))

def f_X1_sizeAsked (n : Nat) (σ : Mem) : Option (Int32 × Mem) :=
  (f_X7_isOfKind n σ (σ 75 2) 4).bind fun y1 =>
  if y1 = 0 then
  ((f_X1_sizeAskedOfFresh σ).bind fun (y3, σ4) =>
  some (y3, σ4))
  else
  ((f_X1_sizeAskedOfOld σ).bind fun (y5, σ6) =>
  some (y5, σ6))

def f_X1_oldMark (σ : Mem) : Option (Int32 × Mem) :=
  (f_X1_begins 23 σ).bind fun σ2 =>
  (f_X1_lentMark σ2).bind fun (y3, σ4) =>
  (f_X1_sizeAskedOfOld σ4).bind fun (y5, σ6) =>
  some (y3 - y5, σ6)

def f_X1_markAsked (n : Nat) (σ : Mem) : Option (Int32 × Mem) :=
  (f_X7_isOfKind n σ (σ 75 2) 4).bind fun y1 =>
  if y1 = 0 then
  ((f_X1_markAskedOfFresh σ).bind fun (y3, σ4) =>
  some (y3, σ4))
  else
  ((f_X1_oldMark σ).bind fun (y5, σ6) =>
  some (y5, σ6))

def f_X2_isNumber (σ : Mem) (x0 : Int32) : Option Int32 :=
  if x0 < 0 then
  (some 0)
  else
  (if 8 ≤ x0 then
  (some 0)
  else
  (some 1))

def f_X2_isMissing (σ : Mem) (x1 : Int32) : Option Int32 :=
  if inB x1 8 = true then
  if (σ 2 x1.toNatClampNeg) = (-1) then
  (some 1)
  else
  (some 0)
  else none

def f_X2_hasSpan (σ : Mem) (x1 : Int32) (x2 : Int32) (x3 : Int32) : Option Int32 :=
  if x2 < 0 then
  (some 0)
  else
  (if x3 < 0 then
  (some 0)
  else
  (if inB x1 8 = true then
  if ((σ 3 x1.toNatClampNeg) - x3) < x2 then
  (some 0)
  else
  (some 1)
  else none))

def f_X2_findingOf (σ : Mem) (x1 : Int32) (x2 : Int32) (x3 : Int32) : Option Int32 :=
  (f_X2_isMissing σ x1).bind fun y1 =>
  if y1 = 0 then
  ((f_X2_hasSpan σ x1 x2 x3).bind fun y3 =>
  if y3 = 0 then
  (some 2)
  else
  (some 0))
  else
  (some 1)

def f_J7_fill_53178_b5 (n : Nat) (k5 : Nat → Int32 → Int32 → Int32 → Mem → Option Mem) (x0 : Nat) (x1 : Int32) (x2 : Int32) (x3 : Int32) (σ : Mem) : Option Mem :=
  if x3 ≤ x2 then
  (some σ)
  else
  (if isIA x0 = true then
  if inB x2 (alen x0) = true then
  (some (mset σ x0 x2.toNatClampNeg x1)).bind fun σ3 =>
  k5 x0 x1 (x2 + 1) x3 σ3
  else none
  else none)
def f_J7_fill_53178_l5 (n : Nat) : Nat → Nat → Int32 → Int32 → Int32 → Mem → Option Mem
  | 0 => fun _ _ _ _ _ => none
  | f + 1 => f_J7_fill_53178_b5 n (f_J7_fill_53178_l5 n f)
def f_J7_fill_53178 (n : Nat) (x0 : Nat) (x1 : Int32) (σ : Mem) : Option Mem :=
  if isIA x0 = true then
  (some (Int32.ofNat (alen x0) : Int32)).bind fun y2 =>
  f_J7_fill_53178_l5 n n x0 x1 0 y2 σ
  else none

def f_X2_lay (n : Nat) (x1 : Int32) (x2 : Int32) (x3 : Int32) (σ : Mem) : Option Mem :=
  if inB x1 8 = true then
  (some (mset σ 2 x1.toNatClampNeg x2)).bind fun σ1 =>
  if inB x1 8 = true then
  (some (mset σ1 3 x1.toNatClampNeg x3)).bind fun σ2 =>
  if inB x1 8 = true then
  (f_J7_fill_53178 n (5 + x1.toNatClampNeg) 0 σ2).bind fun σ5 =>
  some σ5
  else none
  else none
  else none

def f_X2_put_b30 (x1 : Int32) (x2 : Int32) (s0 : Int32) (σ : Mem) : Option (Int32 × Mem) :=
  if inB x1 8 = true then
  if inB x2 40 = true then
  (some (mset σ (5 + x1.toNatClampNeg) x2.toNatClampNeg s0)).bind fun σ2 =>
  some (s0, σ2)
  else none
  else none
def f_X2_put (x1 : Int32) (x2 : Int32) (x3 : Int32) (σ : Mem) : Option (Int32 × Mem) :=
  if inB x1 8 = true then
  if (σ 2 x1.toNatClampNeg) = 0 then
  (f_X2_put_b30 x1 x2 (x3.toInt8.toInt32) σ)
  else
  (if inB x1 8 = true then
  if (σ 2 x1.toNatClampNeg) = 1 then
  (f_X2_put_b30 x1 x2 (x3.toInt16.toInt32) σ)
  else
  (f_X2_put_b30 x1 x2 x3 σ)
  else none)
  else none

def f_X2_takeAway (x1 : Int32) (σ : Mem) : Option (Int32 × Mem) :=
  if inB x1 8 = true then
  (some (mset σ 2 x1.toNatClampNeg (-1))).bind fun σ1 =>
  if inB x1 8 = true then
  some (σ1 3 x1.toNatClampNeg, σ1)
  else none
  else none

def f_X2_howMany_b21 (n : Nat) (σ : Mem) (k4 : Int32 → Int32 → Option Int32) (x1 : Int32) (x2 : Int32) : Option Int32 :=
  k4 x1 (x2 + 1)
def f_X2_howMany_b4 (n : Nat) (σ : Mem) (k4 : Int32 → Int32 → Option Int32) (x1 : Int32) (x2 : Int32) : Option Int32 :=
  if 8 ≤ x2 then
  (some x1)
  else
  ((f_X2_isMissing σ x2).bind fun y2 =>
  if y2 = 0 then
  (f_X2_howMany_b21 n σ k4 (x1 + 1) x2)
  else
  (f_X2_howMany_b21 n σ k4 x1 x2))
def f_X2_howMany_l4 (n : Nat) (σ : Mem) : Nat → Int32 → Int32 → Option Int32
  | 0 => fun _ _ => none
  | f + 1 => f_X2_howMany_b4 n σ (f_X2_howMany_l4 n σ f)
def f_X2_howMany (n : Nat) (σ : Mem) : Option Int32 :=
  f_X2_howMany_l4 n σ n 0 0

def f_X6_takeOver (t : Nat) (x1 : Nat) (σ : Mem) : Option Mem :=
  if isTown x1 = true then
  if isTown t = true then
  if isBv (σ x1 0) = true then
  (some (mset σ t 0 (σ x1 0))).bind fun σ3 =>
  (some (mset σ3 t 1 (σ3 x1 1))).bind fun σ4 =>
  (some (mset σ4 t 2 (σ4 x1 2))).bind fun σ5 =>
  (some (mset σ5 t 3 (σ5 x1 3))).bind fun σ6 =>
  (some (mset σ6 t 4 (σ6 x1 4))).bind fun σ7 =>
  if okCopy 6 6 0 0 6 = true then
  (some (mcpy σ7 (x1 + 1) (0 : Int32).toNatClampNeg (t + 1) (0 : Int32).toNatClampNeg (6 : Int32).toNatClampNeg)).bind fun σ8 =>
  if okCopy 6 6 0 0 6 = true then
  (some (mcpy σ8 (x1 + 2) (0 : Int32).toNatClampNeg (t + 2) (0 : Int32).toNatClampNeg (6 : Int32).toNatClampNeg)).bind fun σ9 =>
  if okCopy 6 6 0 0 6 = true then
  (some (mcpy σ9 (x1 + 3) (0 : Int32).toNatClampNeg (t + 3) (0 : Int32).toNatClampNeg (6 : Int32).toNatClampNeg)).bind fun σ10 =>
  if okCopy 6 6 0 0 6 = true then
  (some (mcpy σ10 (x1 + 4) (0 : Int32).toNatClampNeg (t + 4) (0 : Int32).toNatClampNeg (6 : Int32).toNatClampNeg)).bind fun σ11 =>
  (f_X6_copyStands t (σ11 x1 9) (σ11 x1 10) (σ11 x1 11) (σ11 x1 12) σ11).bind fun σ13 =>
  some σ13
  else none
  else none
  else none
  else none
  else none
  else none
  else none

def f_X6_everybody (σ : Mem) (t : Nat) : Option Int32 :=
  if isTown t = true then
  some ((1 <<< ((σ t 4) &&& 31)) - 1)
  else none

def f_X3_keepRow (x1 : Int32) (x2 : Int32) (σ : Mem) : Option Mem :=
  if isBv 1 = true then
  (some (mset σ 61 7 1)).bind fun σ1 =>
  (some (mset σ1 61 8 x2)).bind fun σ2 =>
  (some (mset σ2 61 6 x1)).bind fun σ3 =>
  if okCopy 6 6 0 0 x1 = true then
  (some (mcpy σ3 67 (0 : Int32).toNatClampNeg 68 (0 : Int32).toNatClampNeg x1.toNatClampNeg)).bind fun σ4 =>
  some σ4
  else none
  else none

def f_X3_weigh_b106 (x1 : Int32) (σ : Mem) : Option Mem :=
  (f_X3_keepRow x1 (σ 62 10) σ).bind fun σ2 =>
  some σ2
def f_X3_weigh_b57 (σ : Mem) : Option Mem :=
  some σ
def f_X3_weigh_b51 (x1 : Int32) (x2 : Int32) (σ : Mem) : Option Mem :=
  (f_X3_keepRow x1 x2 σ).bind fun σ2 =>
  f_X3_weigh_b57 σ2
def f_X3_weigh (x1 : Int32) (σ : Mem) : Option Mem :=
  if (σ 61 2) = 0 then
  ((some ((σ 62 12) - (σ 61 4) : Int32)).bind fun y9 =>
  if (σ 61 7) = 0 then
  (f_X3_weigh_b51 x1 y9 σ)
  else
  (if (σ 61 8) < y9 then
  (f_X3_weigh_b51 x1 y9 σ)
  else
  (if y9 = (σ 61 8) then
  (if (σ 61 6) ≤ x1 then
  (f_X3_weigh_b57 σ)
  else
  (f_X3_weigh_b51 x1 y9 σ))
  else
  (f_X3_weigh_b57 σ))))
  else
  (if (σ 61 2) = 1 then
  (if ((σ 61 3) &&& ((σ 62 11) ^^^ (-1))) = 0 then
  (if (σ 61 7) = 0 then
  (f_X3_weigh_b106 x1 σ)
  else
  (if (σ 61 8) ≤ (σ 62 10) then
  (some σ)
  else
  (f_X3_weigh_b106 x1 σ)))
  else
  (some σ))
  else
  (if (σ 62 11) < 0 then
  (some σ)
  else
  (if (Int32.ofNat 64) ≤ (σ 62 11) then
  (some σ)
  else
  (if inB (σ 62 11) 64 = true then
  if inB (σ 62 11) 64 = true then
  (some (mset σ 69 (σ 62 11).toNatClampNeg (imax (σ 69 (σ 62 11).toNatClampNeg) (σ 62 12)))).bind fun σ5 =>
  some σ5
  else none
  else none))))

def f_X6_hasRead (σ : Mem) (t : Nat) (x1 : Int32) : Option Int32 :=
  if isTown t = true then
  if (((σ t 11) >>> (x1 &&& 31)) &&& 1) = 0 then
  (some 0)
  else
  (some 1)
  else none

def f_X6_comes (σ : Mem) (t : Nat) (x1 : Int32) : Option Int32 :=
  if isTown t = true then
  if inB x1 6 = true then
  some ((σ t 10) + (iabs ((σ t 9) - (σ (t + 2) x1.toNatClampNeg))))
  else none
  else none

def f_X6_canHave (σ : Mem) (t : Nat) (x1 : Int32) : Option Int32 :=
  if isTown t = true then
  (f_X6_has σ t x1).bind fun y2 =>
  if y2 = 0 then
  (some 0)
  else
  ((f_X6_hasRead σ t x1).bind fun y4 =>
  if y4 = 0 then
  ((f_X6_comes σ t x1).bind fun y6 =>
  if (σ t 3) < y6 then
  (some 0)
  else
  (some 1))
  else
  (some 0))
  else none

def f_X6_neighbours_b35 (n : Nat) (σ : Mem) (k4 : Nat → Int32 → Int32 → Int32 → Option Int32) (x0 : Nat) (x1 : Int32) (x2 : Int32) (x3 : Int32) : Option Int32 :=
  k4 x0 x1 x2 (x3 + 1)
def f_X6_neighbours_b4 (n : Nat) (σ : Mem) (k4 : Nat → Int32 → Int32 → Int32 → Option Int32) (x0 : Nat) (x1 : Int32) (x2 : Int32) (x3 : Int32) : Option Int32 :=
  if isTown x0 = true then
  if (σ x0 4) ≤ x3 then
  (some x2)
  else
  (if x3 = x1 then
  (f_X6_neighbours_b35 n σ k4 x0 x1 x2 x3)
  else
  (if inB x3 6 = true then
  if inB x1 6 = true then
  if (σ (x0 + 2) x3.toNatClampNeg) = (σ (x0 + 2) x1.toNatClampNeg) then
  (f_X6_neighbours_b35 n σ k4 x0 x1 (x2 + 1) x3)
  else
  (f_X6_neighbours_b35 n σ k4 x0 x1 x2 x3)
  else none
  else none))
  else none
def f_X6_neighbours_l4 (n : Nat) (σ : Mem) : Nat → Nat → Int32 → Int32 → Int32 → Option Int32
  | 0 => fun _ _ _ _ => none
  | f + 1 => f_X6_neighbours_b4 n σ (f_X6_neighbours_l4 n σ f)
def f_X6_neighbours (n : Nat) (σ : Mem) (t : Nat) (x1 : Int32) : Option Int32 :=
  f_X6_neighbours_l4 n σ n t x1 0 0

def f_X6_brings (n : Nat) (σ : Mem) (t : Nat) (x1 : Int32) : Option Int32 :=
  if isTown t = true then
  if inB x1 6 = true then
  (f_X6_comes σ t x1).bind fun y2 =>
  if inB x1 6 = true then
  (some (imax 0 ((σ (t + 3) x1.toNatClampNeg) - (y2 * (σ (t + 4) x1.toNatClampNeg))) : Int32)).bind fun y3 =>
  if inB x1 6 = true then
  (some (σ (t + 1) x1.toNatClampNeg : Int32)).bind fun y4 =>
  if y4 = 1 then
  (some y3)
  else if y4 = 2 then
  (if (σ t 11) = 0 then
  (some y3)
  else
  (some 0))
  else if y4 = 3 then
  ((f_X6_neighbours n σ t x1).bind fun y9 =>
  some (y3 + y9))
  else 
  (if inB x1 6 = true then
  some (σ (t + 3) x1.toNatClampNeg)
  else none)
  else none
  else none
  else none
  else none

def f_X6_hand_b26 (n : Nat) (x0 : Nat) (x1 : Int32) (x2 : Int32) (s0 : Int32) (s1 : Int32) (σ : Mem) : Option (Int32 × Mem) :=
  (some (s1 + s0 : Int32)).bind fun y1 =>
  if isTown x0 = true then
  if inB x1 6 = true then
  (f_X6_copyStands x0 (σ (x0 + 2) x1.toNatClampNeg) y1 ((σ x0 11) ||| (1 <<< (x1 &&& 31))) ((σ x0 12) + x2) σ).bind fun σ4 =>
  some (x2, σ4)
  else none
  else none
def f_X6_hand (n : Nat) (t : Nat) (x1 : Int32) (σ : Mem) : Option (Int32 × Mem) :=
  if isTown t = true then
  (f_X6_brings n σ t x1).bind fun y2 =>
  (f_X6_comes σ t x1).bind fun y3 =>
  if inB x1 6 = true then
  if (σ (t + 1) x1.toNatClampNeg) = 5 then
  (f_X6_hand_b26 n t x1 y2 2 y3 σ)
  else
  (f_X6_hand_b26 n t x1 y2 1 y3 σ)
  else none
  else none

def f_X3_tryRows_b106 (n : Nat) (self : Int32 → Mem → Option Mem) (k43 : Int32 → Int32 → Int32 → Int32 → Int32 → Int32 → Mem → Option Mem) (x1 : Int32) (x3 : Int32) (x4 : Int32) (x5 : Int32) (x6 : Int32) (x7 : Int32) (σ : Mem) : Option Mem :=
  k43 x1 x3 x4 x5 x6 (x7 + 1) σ
def f_X3_tryRows_b43 (n : Nat) (self : Int32 → Mem → Option Mem) (k43 : Int32 → Int32 → Int32 → Int32 → Int32 → Int32 → Mem → Option Mem) (x1 : Int32) (x3 : Int32) (x4 : Int32) (x5 : Int32) (x6 : Int32) (x7 : Int32) (σ : Mem) : Option Mem :=
  if (σ 62 4) ≤ x7 then
  (some σ)
  else
  (if (((σ 61 3) >>> (x7 &&& 31)) &&& 1) = 0 then
  (f_X3_tryRows_b106 n self k43 x1 x3 x4 x5 x6 x7 σ)
  else
  ((f_X6_canHave σ 62 x7).bind fun y3 =>
  if y3 = 0 then
  (f_X3_tryRows_b106 n self k43 x1 x3 x4 x5 x6 x7 σ)
  else
  (if inB x1 6 = true then
  (some (mset σ 67 x1.toNatClampNeg x7)).bind fun σ5 =>
  (f_X6_hand n 62 x7 σ5).bind fun (y6, σ7) =>
  (self (x1 + 1) σ7).bind fun σ9 =>
  (f_X6_copyStands 62 x3 x4 x5 x6 σ9).bind fun σ11 =>
  f_X3_tryRows_b106 n self k43 x1 x3 x4 x5 x6 x7 σ11
  else none)))
def f_X3_tryRows_l43 (n : Nat) (self : Int32 → Mem → Option Mem) : Nat → Int32 → Int32 → Int32 → Int32 → Int32 → Int32 → Mem → Option Mem
  | 0 => fun _ _ _ _ _ _ _ => none
  | f + 1 => f_X3_tryRows_b43 n self (f_X3_tryRows_l43 n self f)
def f_X3_tryRows_s (n : Nat) (self : Int32 → Mem → Option Mem) (x1 : Int32) (σ : Mem) : Option Mem :=
  (f_X3_weigh x1 σ).bind fun σ2 =>
  if x1 < 6 then
  ((some (σ2 62 9 : Int32)).bind fun y4 =>
  (some (σ2 62 10 : Int32)).bind fun y5 =>
  (some (σ2 62 11 : Int32)).bind fun y6 =>
  (some (σ2 62 12 : Int32)).bind fun y7 =>
  f_X3_tryRows_l43 n self n x1 y4 y5 y6 y7 0 σ2)
  else
  (some σ2)
def f_X3_tryRows_r (n : Nat) : Nat → Int32 → Mem → Option Mem
  | 0 => fun _ _ => none
  | f + 1 => f_X3_tryRows_s n (f_X3_tryRows_r n f)
def f_X3_tryRows (n : Nat) : Int32 → Mem → Option Mem := f_X3_tryRows_r n 8

def f_X3_seek (n : Nat) (x1 : Int32) (x2 : Int32) (σ : Mem) : Option Mem :=
  (some (mset σ 61 2 x1)).bind fun σ1 =>
  (some (mset σ1 61 3 x2)).bind fun σ2 =>
  (some (mset σ2 61 4 (σ2 62 12))).bind fun σ3 =>
  if isBv 0 = true then
  (some (mset σ3 61 7 0)).bind fun σ4 =>
  (some (mset σ4 61 6 0)).bind fun σ5 =>
  (some (mset σ5 61 8 0)).bind fun σ6 =>
  (f_X3_tryRows n 0 σ6).bind fun σ8 =>
  some σ8
  else none

def f_X3_forMost (n : Nat) (x1 : Nat) (σ : Mem) : Option Mem :=
  (f_X6_takeOver 62 x1 σ).bind fun σ2 =>
  if isTown x1 = true then
  (f_X6_everybody σ2 x1).bind fun y4 =>
  (f_X3_seek n 0 y4 σ2).bind fun σ6 =>
  some σ6
  else none

def f_X3_forSoonest (n : Nat) (x1 : Nat) (x2 : Int32) (σ : Mem) : Option Mem :=
  (f_X6_takeOver 62 x1 σ).bind fun σ2 =>
  if isTown x1 = true then
  (f_X3_seek n 1 (x2 &&& ((σ2 x1 11) ^^^ (-1))) σ2).bind fun σ5 =>
  some σ5
  else none

def f_X6_begin (t : Nat) (σ : Mem) : Option Mem :=
  if isTown t = true then
  (f_X6_copyStands t (σ t 1) 0 0 0 σ).bind fun σ3 =>
  some σ3
  else none

def f_X3_forSets (n : Nat) (x1 : Nat) (σ : Mem) : Option Mem :=
  (f_X6_takeOver 62 x1 σ).bind fun σ2 =>
  (f_X6_begin 62 σ2).bind fun σ4 =>
  (f_J7_fill_53178 n 69 (-1000000) σ4).bind fun σ6 =>
  if isTown x1 = true then
  (f_X6_everybody σ6 x1).bind fun y8 =>
  (f_X3_seek n 2 y8 σ6).bind fun σ10 =>
  some σ10
  else none

def f_X3_told (σ : Mem) (x1 : Int32) : Option Int32 :=
  if x1 < 0 then
  (some (-1000000))
  else
  (if (σ 61 6) ≤ x1 then
  (some (-1000000))
  else
  (if inB x1 6 = true then
  some (σ 68 x1.toNatClampNeg)
  else none))

def f_X4_weighShares_b79 (n : Nat) (x1 : Int32) (σ : Mem) : Option Mem :=
  if isBv 1 = true then
  (some (mset σ 70 7 1)).bind fun σ1 =>
  (some (mset σ1 70 6 x1)).bind fun σ2 =>
  if okCopy 6 6 0 0 (σ2 70 5) = true then
  (some (mcpy σ2 71 (0 : Int32).toNatClampNeg 73 (0 : Int32).toNatClampNeg (σ2 70 5).toNatClampNeg)).bind fun σ3 =>
  some σ3
  else none
  else none
def f_X4_weighShares_b64 (n : Nat) (x1 : Int32) (σ : Mem) : Option Mem :=
  if (σ 70 7) = 0 then
  (f_X4_weighShares_b79 n x1 σ)
  else
  (if x1 ≤ (σ 70 6) then
  (some σ)
  else
  (f_X4_weighShares_b79 n x1 σ))
def f_X4_weighShares_b4 (n : Nat) (k4 : Int32 → Int32 → Mem → Option Mem) (x1 : Int32) (x2 : Int32) (σ : Mem) : Option Mem :=
  if (σ 70 4) ≤ x2 then
  (f_X4_weighShares_b64 n x1 σ)
  else
  (if 3 ≤ x2 then
  (f_X4_weighShares_b64 n x1 σ)
  else
  (if inB x2 4 = true then
  (some (σ 72 x2.toNatClampNeg : Int32)).bind fun y3 =>
  if y3 < 0 then
  (some σ)
  else
  (if isIA ((σ 70 3).toNatClampNeg) = true then
  if (Int32.ofNat (alen ((σ 70 3).toNatClampNeg))) ≤ y3 then
  (some σ)
  else
  (if isIA ((σ 70 3).toNatClampNeg) = true then
  if inB y3 (alen ((σ 70 3).toNatClampNeg)) = true then
  if (σ ((σ 70 3).toNatClampNeg) y3.toNatClampNeg) = (-1000000) then
  (some σ)
  else
  (if isIA ((σ 70 3).toNatClampNeg) = true then
  if inB y3 (alen ((σ 70 3).toNatClampNeg)) = true then
  (some (x1 + (σ ((σ 70 3).toNatClampNeg) y3.toNatClampNeg) : Int32)).bind fun y10 =>
  k4 y10 (x2 + 1) σ
  else none
  else none)
  else none
  else none)
  else none)
  else none))
def f_X4_weighShares_l4 (n : Nat) : Nat → Int32 → Int32 → Mem → Option Mem
  | 0 => fun _ _ _ => none
  | f + 1 => f_X4_weighShares_b4 n (f_X4_weighShares_l4 n f)
def f_X4_weighShares (n : Nat) (σ : Mem) : Option Mem :=
  f_X4_weighShares_l4 n n 0 0 σ

def f_X4_share_b14 (n : Nat) (self : Int32 → Mem → Option Mem) (σ : Mem) : Option Mem :=
  (f_X4_weighShares n σ).bind fun σ2 =>
  some σ2
def f_X4_share_b47 (n : Nat) (self : Int32 → Mem → Option Mem) (k21 : Int32 → Int32 → Mem → Option Mem) (x1 : Int32) (x2 : Int32) (s0 : Int32) (σ : Mem) : Option Mem :=
  if inB x1 6 = true then
  (some (mset σ 71 x1.toNatClampNeg s0)).bind fun σ1 =>
  if inB s0 4 = true then
  if inB s0 4 = true then
  (some (mset σ1 72 s0.toNatClampNeg ((σ1 72 s0.toNatClampNeg) ||| (1 <<< (x1 &&& 31))))).bind fun σ2 =>
  (self (x1 + 1) σ2).bind fun σ4 =>
  if inB s0 4 = true then
  if inB s0 4 = true then
  (some (mset σ4 72 s0.toNatClampNeg ((σ4 72 s0.toNatClampNeg) &&& ((1 <<< (x1 &&& 31)) ^^^ (-1))))).bind fun σ5 =>
  k21 x1 (x2 + 1) σ5
  else none
  else none
  else none
  else none
  else none
def f_X4_share_b21 (n : Nat) (self : Int32 → Mem → Option Mem) (k21 : Int32 → Int32 → Mem → Option Mem) (x1 : Int32) (x2 : Int32) (σ : Mem) : Option Mem :=
  if (σ 70 4) < x2 then
  (some σ)
  else
  (if 3 < x2 then
  (some σ)
  else
  (if (σ 70 4) ≤ x2 then
  (f_X4_share_b47 n self k21 x1 x2 3 σ)
  else
  (f_X4_share_b47 n self k21 x1 x2 x2 σ)))
def f_X4_share_l21 (n : Nat) (self : Int32 → Mem → Option Mem) : Nat → Int32 → Int32 → Mem → Option Mem
  | 0 => fun _ _ _ => none
  | f + 1 => f_X4_share_b21 n self (f_X4_share_l21 n self f)
def f_X4_share_s (n : Nat) (self : Int32 → Mem → Option Mem) (x1 : Int32) (σ : Mem) : Option Mem :=
  if (σ 70 5) ≤ x1 then
  (f_X4_share_b14 n self σ)
  else
  (if x1 < 6 then
  (f_X4_share_l21 n self n x1 0 σ)
  else
  (f_X4_share_b14 n self σ))
def f_X4_share_r (n : Nat) : Nat → Int32 → Mem → Option Mem
  | 0 => fun _ _ => none
  | f + 1 => f_X4_share_s n (f_X4_share_r n f)
def f_X4_share (n : Nat) : Int32 → Mem → Option Mem := f_X4_share_r n 8

def f_X4_of (n : Nat) (x1 : Int32) (x2 : Nat) (x3 : Nat) (σ : Mem) : Option Mem :=
  (some (mset σ 70 4 x1)).bind fun σ1 =>
  if isTown x2 = true then
  (some (mset σ1 70 5 (σ1 x2 4))).bind fun σ3 =>
  if (x3 < 2 ^ 31) then
  (some (mset σ3 70 3 (Int32.ofNat x3))).bind fun σ5 =>
  if isBv 0 = true then
  (some (mset σ5 70 7 0)).bind fun σ6 =>
  (some (mset σ6 70 6 0)).bind fun σ7 =>
  (f_J7_fill_53178 n 72 0 σ7).bind fun σ9 =>
  (f_X4_share n 0 σ9).bind fun σ11 =>
  some σ11
  else none
  else none
  else none

def f_X5_append (x1 : Int32) (σ : Mem) : Option (Int32 × Mem) :=
  if (σ 13 1) < 100 then
  (if inB (σ 13 1) 100 = true then
  (some (mset σ 14 (σ 13 1).toNatClampNeg x1)).bind fun σ2 =>
  (some (mset σ2 13 1 ((σ2 13 1) + 1))).bind fun σ3 =>
  some (1, σ3)
  else none)
  else
  (some (0, σ))

def f_X5_peek (σ : Mem) : Option Int32 :=
  if (σ 13 1) ≤ (σ 13 2) then
  (some (-1))
  else
  (if inB (σ 13 2) 100 = true then
  some (σ 14 (σ 13 2).toNatClampNeg)
  else none)

def f_X5_fail (x1 : Int32) (σ : Mem) : Option Mem :=
  if (σ 13 5) = 0 then
  (some σ)
  else
  (if isBv 0 = true then
  (some (mset σ 13 5 0)).bind fun σ2 =>
  (some (mset σ2 13 3 x1)).bind fun σ3 =>
  (some (mset σ3 13 4 (σ3 13 2))).bind fun σ4 =>
  some σ4
  else none)

def f_X5_readByte (x1 : Int32) (σ : Mem) : Option Mem :=
  (f_X5_peek σ).bind fun y1 =>
  if y1 = x1 then
  ((some (mset σ 13 2 ((σ 13 2) + 1))).bind fun σ5 =>
  some σ5)
  else
  ((f_X5_fail 1 σ).bind fun σ4 =>
  some σ4)

def f_X5_isFigure (σ : Mem) (x0 : Int32) : Option Int32 :=
  if x0 < 48 then
  (some 0)
  else
  (if 57 < x0 then
  (some 0)
  else
  (some 1))

def f_X5_readNumber_b75 (n : Nat) (x3 : Int32) (σ : Mem) : Option (Int32 × Mem) :=
  (f_X5_fail 1 σ).bind fun σ2 =>
  some (x3, σ2)
def f_X5_readNumber_b65 (n : Nat) (x1 : Int32) (x2 : Int32) (x3 : Int32) (σ : Mem) : Option (Int32 × Mem) :=
  if x2 < 1 then
  (f_X5_readNumber_b75 n x3 σ)
  else
  (if x2 ≤ 2 then
  (if x3 ≤ x1 then
  ((some (mset σ 13 2 ((σ 13 2) + x2))).bind fun σ4 =>
  some (x3, σ4))
  else
  ((f_X5_fail 2 σ).bind fun σ6 =>
  some (x3, σ6)))
  else
  (f_X5_readNumber_b75 n x3 σ))
def f_X5_readNumber_b59 (n : Nat) (k4 : Int32 → Int32 → Int32 → Mem → Option (Int32 × Mem)) (x1 : Int32) (x2 : Int32) (x3 : Int32) (σ : Mem) : Option (Int32 × Mem) :=
  k4 x1 (x2 + 1) x3 σ
def f_X5_readNumber_b4 (n : Nat) (k4 : Int32 → Int32 → Int32 → Mem → Option (Int32 × Mem)) (x1 : Int32) (x2 : Int32) (x3 : Int32) (σ : Mem) : Option (Int32 × Mem) :=
  if (σ 13 1) ≤ ((σ 13 2) + x2) then
  (f_X5_readNumber_b65 n x1 x2 x3 σ)
  else
  (if inB ((σ 13 2) + x2) 100 = true then
  (f_X5_isFigure σ (σ 14 ((σ 13 2) + x2).toNatClampNeg)).bind fun y2 =>
  if y2 = 0 then
  (f_X5_readNumber_b65 n x1 x2 x3 σ)
  else
  (if 2 ≤ x2 then
  (f_X5_readNumber_b59 n k4 x1 x2 x3 σ)
  else
  (if inB ((σ 13 2) + x2) 100 = true then
  (some (((10 * x3) + (σ 14 ((σ 13 2) + x2).toNatClampNeg)) - 48 : Int32)).bind fun y5 =>
  f_X5_readNumber_b59 n k4 x1 x2 y5 σ
  else none))
  else none)
def f_X5_readNumber_l4 (n : Nat) : Nat → Int32 → Int32 → Int32 → Mem → Option (Int32 × Mem)
  | 0 => fun _ _ _ _ => none
  | f + 1 => f_X5_readNumber_b4 n (f_X5_readNumber_l4 n f)
def f_X5_readNumber (n : Nat) (x1 : Int32) (σ : Mem) : Option (Int32 × Mem) :=
  f_X5_readNumber_l4 n n x1 0 0 σ

def f_X5_readLaw (n : Nat) (x1 : Nat) (σ : Mem) : Option Mem :=
  (f_X5_readByte 112 σ).bind fun σ2 =>
  (f_X5_readNumber n 9 σ2).bind fun (y3, σ4) =>
  if isTown x1 = true then
  (some (mset σ4 x1 1 y3)).bind fun σ6 =>
  (f_X5_readByte 44 σ6).bind fun σ8 =>
  (f_X5_readNumber n 20 σ8).bind fun (y9, σ10) =>
  (some (mset σ10 x1 2 y9)).bind fun σ11 =>
  (f_X5_readByte 44 σ11).bind fun σ13 =>
  (f_X5_readNumber n 60 σ13).bind fun (y14, σ15) =>
  (some (mset σ15 x1 3 y14)).bind fun σ16 =>
  (f_X5_readByte 59 σ16).bind fun σ18 =>
  some σ18
  else none

def f_X5_sortOf (σ : Mem) (x0 : Int32) : Option Int32 :=
  if x0 = 97 then
  (some 3)
  else if x0 = 102 then
  (some 1)
  else if x0 = 104 then
  (some 5)
  else if x0 = 111 then
  (some 4)
  else if x0 = 115 then
  (some 2)
  else 
  (some 0)

def f_X5_readReader (n : Nat) (x1 : Nat) (σ : Mem) : Option Mem :=
  (f_X5_peek σ).bind fun y1 =>
  (f_X5_sortOf σ y1).bind fun y2 =>
  if y2 = 0 then
  ((f_X5_fail 1 σ).bind fun σ28 =>
  some σ28)
  else
  (if isTown x1 = true then
  if (σ x1 4) < 6 then
  ((some (mset σ 13 2 ((σ 13 2) + 1))).bind fun σ6 =>
  (some (σ6 x1 4 : Int32)).bind fun y7 =>
  (some (mset σ6 x1 4 ((σ6 x1 4) + 1))).bind fun σ8 =>
  if inB y7 6 = true then
  (some (mset σ8 (x1 + 1) y7.toNatClampNeg y2)).bind fun σ9 =>
  (f_X5_readNumber n 9 σ9).bind fun (y10, σ11) =>
  if inB y7 6 = true then
  (some (mset σ11 (x1 + 2) y7.toNatClampNeg y10)).bind fun σ12 =>
  (f_X5_readByte 44 σ12).bind fun σ14 =>
  (f_X5_readNumber n 30 σ14).bind fun (y15, σ16) =>
  if inB y7 6 = true then
  (some (mset σ16 (x1 + 3) y7.toNatClampNeg y15)).bind fun σ17 =>
  (f_X5_readByte 44 σ17).bind fun σ19 =>
  (f_X5_readNumber n 9 σ19).bind fun (y20, σ21) =>
  if inB y7 6 = true then
  (some (mset σ21 (x1 + 4) y7.toNatClampNeg y20)).bind fun σ22 =>
  (f_X5_readByte 59 σ22).bind fun σ24 =>
  some σ24
  else none
  else none
  else none
  else none)
  else
  ((f_X5_fail 3 σ).bind fun σ26 =>
  some σ26)
  else none)

def f_X5_readInto_b22 (n : Nat) (k22 : Nat → Int32 → Mem → Option (Int32 × Mem)) (x1 : Nat) (x2 : Int32) (σ : Mem) : Option (Int32 × Mem) :=
  if 6 < x2 then
  ((some (σ 13 5 : Int32)).bind fun y2 =>
  if isBv y2 = true then
  some (y2, σ)
  else none)
  else
  (if (σ 13 5) = 0 then
  ((some (σ 13 5 : Int32)).bind fun y5 =>
  if isBv y5 = true then
  some (y5, σ)
  else none)
  else
  (if (σ 13 1) ≤ (σ 13 2) then
  ((some (σ 13 5 : Int32)).bind fun y8 =>
  if isBv y8 = true then
  some (y8, σ)
  else none)
  else
  ((f_X5_readReader n x1 σ).bind fun σ11 =>
  k22 x1 (x2 + 1) σ11)))
def f_X5_readInto_l22 (n : Nat) : Nat → Nat → Int32 → Mem → Option (Int32 × Mem)
  | 0 => fun _ _ _ => none
  | f + 1 => f_X5_readInto_b22 n (f_X5_readInto_l22 n f)
def f_X5_readInto (n : Nat) (x1 : Nat) (σ : Mem) : Option (Int32 × Mem) :=
  (some (mset σ 13 2 0)).bind fun σ1 =>
  if isBv 1 = true then
  (some (mset σ1 13 5 1)).bind fun σ2 =>
  (f_X5_readLaw n x1 σ2).bind fun σ4 =>
  if isTown x1 = true then
  (some (mset σ4 x1 4 0)).bind fun σ6 =>
  f_X5_readInto_l22 n n x1 0 σ6
  else none
  else none

def f_X6_handAlong_b6 (n : Nat) (k6 : Nat → Nat → Int32 → Int32 → Int32 → Int32 → Mem → Option (Int32 × Mem)) (x0 : Nat) (x1 : Nat) (x2 : Int32) (x3 : Int32) (x4 : Int32) (x5 : Int32) (σ : Mem) : Option (Int32 × Mem) :=
  if x3 ≤ x5 then
  (some (x4, σ))
  else
  (if isIA x1 = true then
  if inB (x2 + x5) (alen x1) = true then
  (some (σ x1 (x2 + x5).toNatClampNeg : Int32)).bind fun y3 =>
  if isTown x0 = true then
  (f_X6_canHave σ x0 y3).bind fun y5 =>
  if y5 = 0 then
  (some ((-1000000), σ))
  else
  ((f_X6_hand n x0 y3 σ).bind fun (y7, σ8) =>
  (some (x4 + y7 : Int32)).bind fun y9 =>
  k6 x0 x1 x2 x3 y9 (x5 + 1) σ8)
  else none
  else none
  else none)
def f_X6_handAlong_l6 (n : Nat) : Nat → Nat → Nat → Int32 → Int32 → Int32 → Int32 → Mem → Option (Int32 × Mem)
  | 0 => fun _ _ _ _ _ _ _ => none
  | f + 1 => f_X6_handAlong_b6 n (f_X6_handAlong_l6 n f)
def f_X6_handAlong (n : Nat) (t : Nat) (x1 : Nat) (x2 : Int32) (x3 : Int32) (σ : Mem) : Option (Int32 × Mem) :=
  f_X6_handAlong_l6 n n t x1 x2 x3 0 0 σ

def f_X6_suppose (t : Nat) (x1 : Int32) (x2 : Int32) (x3 : Int32) (σ : Mem) : Option Mem :=
  if x2 = 0 then
  (if isTown t = true then
  if inB x1 6 = true then
  (some (mset σ (t + 1) x1.toNatClampNeg x3)).bind fun σ8 =>
  some σ8
  else none
  else none)
  else
  (if x2 = 1 then
  (if isTown t = true then
  if inB x1 6 = true then
  (some (mset σ (t + 4) x1.toNatClampNeg x3)).bind fun σ6 =>
  some σ6
  else none
  else none)
  else
  (if isTown t = true then
  if inB x1 6 = true then
  (some (mset σ (t + 2) x1.toNatClampNeg x3)).bind fun σ4 =>
  some σ4
  else none
  else none))

def f_X7_found (x1 : Int32) (σ : Mem) : Option (Int32 × Mem) :=
  (some (mset σ 0 10 x1)).bind fun σ1 =>
  some ((-1000010) - x1, σ1)

def f_X7_foundNothing (x1 : Int32) (σ : Mem) : Option (Int32 × Mem) :=
  (some (mset σ 0 10 0)).bind fun σ1 =>
  some (x1, σ1)

def f_X7_row (n : Nat) (x1 : Int32) (x2 : Int32) (x3 : Int32) (σ : Mem) : Option (Int32 × Mem) :=
  (f_X2_isNumber σ x1).bind fun y1 =>
  if y1 = 0 then
  (some ((-1000001), σ))
  else
  (if x2 < 0 then
  (some ((-1000001), σ))
  else
  (if 3 ≤ x2 then
  (some ((-1000001), σ))
  else
  (if x3 ≤ 40 then
  (if 0 ≤ x3 then
  ((f_X2_lay n x1 x2 x3 σ).bind fun σ8 =>
  (f_X7_foundNothing x3 σ8).bind fun (y9, σ10) =>
  some (y9, σ10))
  else
  ((f_X7_found 4 σ).bind fun (y11, σ12) =>
  some (y11, σ12)))
  else
  (some ((-1000001), σ)))))

def f_X7_set (x1 : Int32) (x2 : Int32) (x3 : Int32) (σ : Mem) : Option (Int32 × Mem) :=
  (f_X2_isNumber σ x1).bind fun y1 =>
  if y1 = 0 then
  (some ((-1000001), σ))
  else
  ((f_X2_findingOf σ x1 x2 1).bind fun y3 =>
  if y3 = 0 then
  ((f_X2_put x1 x2 x3 σ).bind fun (y5, σ6) =>
  (f_X7_foundNothing y5 σ6).bind fun (y7, σ8) =>
  some (y7, σ8))
  else
  ((f_X7_found y3 σ).bind fun (y9, σ10) =>
  some (y9, σ10)))

def f_X7_copy_b39 (σ : Mem) : Option (Int32 × Mem) :=
  (f_X7_found 1 σ).bind fun (y1, σ2) =>
  some (y1, σ2)
def f_X7_copy_b101 (σ : Mem) : Option (Int32 × Mem) :=
  (f_X7_found 2 σ).bind fun (y1, σ2) =>
  some (y1, σ2)
def f_X7_copy (x1 : Int32) (x2 : Int32) (x3 : Int32) (x4 : Int32) (x5 : Int32) (σ : Mem) : Option (Int32 × Mem) :=
  (f_X2_isNumber σ x1).bind fun y1 =>
  if y1 = 0 then
  (some ((-1000001), σ))
  else
  ((f_X2_isNumber σ x3).bind fun y3 =>
  if y3 = 0 then
  (some ((-1000001), σ))
  else
  ((f_X2_isMissing σ x1).bind fun y5 =>
  if y5 = 0 then
  ((f_X2_isMissing σ x3).bind fun y7 =>
  if y7 = 0 then
  (if inB x1 8 = true then
  if inB x3 8 = true then
  if (σ 2 x1.toNatClampNeg) = (σ 2 x3.toNatClampNeg) then
  ((f_X2_hasSpan σ x1 x2 x5).bind fun y10 =>
  if y10 = 0 then
  (f_X7_copy_b101 σ)
  else
  ((f_X2_hasSpan σ x3 x4 x5).bind fun y12 =>
  if y12 = 0 then
  (f_X7_copy_b101 σ)
  else
  (if inB x1 8 = true then
  if inB x3 8 = true then
  if okCopy 40 40 x2 x4 x5 = true then
  (some (mcpy σ (5 + x1.toNatClampNeg) x2.toNatClampNeg (5 + x3.toNatClampNeg) x4.toNatClampNeg x5.toNatClampNeg)).bind fun σ16 =>
  (f_X7_foundNothing x5 σ16).bind fun (y17, σ18) =>
  some (y17, σ18)
  else none
  else none
  else none)))
  else
  ((f_X7_found 5 σ).bind fun (y19, σ20) =>
  some (y19, σ20))
  else none
  else none)
  else
  (f_X7_copy_b39 σ))
  else
  (f_X7_copy_b39 σ)))

def f_X7_drop (x1 : Int32) (σ : Mem) : Option (Int32 × Mem) :=
  (f_X2_isNumber σ x1).bind fun y1 =>
  if y1 = 0 then
  (some ((-1000001), σ))
  else
  ((f_X2_isMissing σ x1).bind fun y3 =>
  if y3 = 0 then
  ((f_X2_takeAway x1 σ).bind fun (y5, σ6) =>
  (f_X7_foundNothing y5 σ6).bind fun (y7, σ8) =>
  some (y7, σ8))
  else
  ((f_X7_found 1 σ).bind fun (y9, σ10) =>
  some (y9, σ10)))

def f_X7_feed (x1 : Int32) (σ : Mem) : Option (Int32 × Mem) :=
  if x1 < 0 then
  (some ((-1000001), σ))
  else
  (if x1 ≤ 255 then
  ((f_X5_append x1 σ).bind fun (y3, σ4) =>
  if y3 = 0 then
  (some ((-1000003), σ4))
  else
  (some (σ4 13 1, σ4)))
  else
  (some ((-1000001), σ)))

def f_X7_town (n : Nat) (σ : Mem) : Option (Int32 × Mem) :=
  (f_X5_readInto n 20 σ).bind fun (y1, σ2) =>
  (some (mset σ2 13 1 0)).bind fun σ3 =>
  if y1 = 0 then
  (some ((-1000100) - (σ3 13 4), σ3))
  else
  (if isBv 1 = true then
  (some (mset σ3 20 0 1)).bind fun σ5 =>
  (f_X6_begin 20 σ5).bind fun σ7 =>
  (f_X6_takeOver 15 20 σ7).bind fun σ9 =>
  (f_X0_forget σ9).bind fun σ11 =>
  some (σ11 15 4, σ11)
  else none)

def f_X7_fault (σ : Mem) : Option Int32 :=
  some (σ 13 3)

def f_X7_give (n : Nat) (x1 : Int32) (σ : Mem) : Option (Int32 × Mem) :=
  (f_X6_has σ 15 x1).bind fun y1 =>
  if y1 = 0 then
  (some ((-1000001), σ))
  else
  ((f_X6_canHave σ 15 x1).bind fun y3 =>
  if y3 = 0 then
  (some ((-1000002), σ))
  else
  ((f_X0_keep 15 x1 σ).bind fun σ6 =>
  (f_X6_hand n 15 x1 σ6).bind fun (y7, σ8) =>
  some (y7, σ8)))

def f_X7_pause (x1 : Int32) (σ : Mem) : Option (Int32 × Mem) :=
  if (σ 15 0) = 0 then
  (some ((-1000002), σ))
  else
  (if x1 < 1 then
  (some ((-1000001), σ))
  else
  (if x1 ≤ 24 then
  (if ((σ 15 10) + x1) ≤ 999 then
  ((f_X0_keep 15 (-1) σ).bind fun σ6 =>
  (some (mset σ6 15 10 ((σ6 15 10) + x1))).bind fun σ7 =>
  some (σ7 15 10, σ7))
  else
  (some ((-1000003), σ)))
  else
  (some ((-1000001), σ))))

def f_X7_value (x1 : Int32) (x2 : Int32) (σ : Mem) : Option (Int32 × Mem) :=
  (f_X6_has σ 15 x1).bind fun y1 =>
  if y1 = 0 then
  (some ((-1000001), σ))
  else
  (if x2 < 0 then
  (some ((-1000001), σ))
  else
  (if x2 ≤ 30 then
  ((f_X0_keep 15 x1 σ).bind fun σ6 =>
  if inB x1 6 = true then
  (some (σ6 18 x1.toNatClampNeg : Int32)).bind fun y7 =>
  if inB x1 6 = true then
  (some (mset σ6 18 x1.toNatClampNeg x2)).bind fun σ8 =>
  some (y7, σ8)
  else none
  else none)
  else
  (some ((-1000001), σ))))

def f_X7_move (x1 : Int32) (x2 : Int32) (σ : Mem) : Option (Int32 × Mem) :=
  (f_X6_has σ 15 x1).bind fun y1 =>
  if y1 = 0 then
  (some ((-1000001), σ))
  else
  (if x2 < 0 then
  (some ((-1000001), σ))
  else
  (if x2 ≤ 9 then
  ((f_X0_keep 15 x1 σ).bind fun σ6 =>
  if inB x1 6 = true then
  (some (σ6 17 x1.toNatClampNeg : Int32)).bind fun y7 =>
  if inB x1 6 = true then
  (some (mset σ6 17 x1.toNatClampNeg x2)).bind fun σ8 =>
  some (y7, σ8)
  else none
  else none)
  else
  (some ((-1000001), σ))))

def f_X7_undo (σ : Mem) : Option (Int32 × Mem) :=
  if 0 < (σ 35 2) then
  ((f_X0_takeBack 15 σ).bind fun σ3 =>
  some (σ3 35 2, σ3))
  else
  (some ((-1000002), σ))

def f_X7_reader (σ : Mem) (x1 : Int32) (x2 : Int32) : Option Int32 :=
  (f_X6_has σ 15 x1).bind fun y1 =>
  if y1 = 0 then
  (some (-1000001))
  else
  (if x2 = 0 then
  (if inB x1 6 = true then
  some (σ 17 x1.toNatClampNeg)
  else none)
  else if x2 = 1 then
  (if inB x1 6 = true then
  some (σ 18 x1.toNatClampNeg)
  else none)
  else if x2 = 2 then
  (if inB x1 6 = true then
  some (σ 19 x1.toNatClampNeg)
  else none)
  else if x2 = 3 then
  ((f_X6_hasRead σ 15 x1).bind fun y7 =>
  if y7 = 0 then
  (some 0)
  else
  (some 1))
  else if x2 = 4 then
  ((f_X6_canHave σ 15 x1).bind fun y10 =>
  if y10 = 0 then
  (some 0)
  else
  (some 1))
  else 
  (some (-1000001)))

def f_X7_would (n : Nat) (σ : Mem) (x1 : Int32) (x2 : Int32) : Option Int32 :=
  (f_X6_has σ 15 x1).bind fun y1 =>
  if y1 = 0 then
  (some (-1000001))
  else
  (if x2 < 0 then
  (some (-1000001))
  else
  (if x2 ≤ 1 then
  ((f_X6_canHave σ 15 x1).bind fun y5 =>
  if y5 = 0 then
  (some (-1000000))
  else
  (if x2 = 0 then
  ((f_X6_comes σ 15 x1).bind fun y9 =>
  some y9)
  else
  ((f_X6_brings n σ 15 x1).bind fun y8 =>
  some y8)))
  else
  (some (-1000001))))

def f_X7_best (n : Nat) (x1 : Int32) (σ : Mem) : Option (Int32 × Mem) :=
  if (σ 15 0) = 0 then
  (some ((-1000002), σ))
  else
  (if x1 < (-2) then
  (some ((-1000001), σ))
  else
  (if x1 < 6 then
  ((f_X3_forMost n 15 σ).bind fun σ5 =>
  if x1 = (-2) then
  (some (σ5 61 6, σ5))
  else
  (if x1 = (-1) then
  (some (σ5 61 8, σ5))
  else
  ((f_X3_told σ5 x1).bind fun y8 =>
  some (y8, σ5))))
  else
  (some ((-1000001), σ))))

def f_X7_soonest (n : Nat) (x1 : Int32) (x2 : Int32) (σ : Mem) : Option (Int32 × Mem) :=
  if (σ 15 0) = 0 then
  (some ((-1000002), σ))
  else
  (if x1 < 0 then
  (some ((-1000001), σ))
  else
  ((f_X6_everybody σ 15).bind fun y3 =>
  if y3 < x1 then
  (some ((-1000001), σ))
  else
  (if x2 < (-1) then
  (some ((-1000001), σ))
  else
  (if x2 < 6 then
  ((f_X3_forSoonest n 15 x1 σ).bind fun σ8 =>
  if (σ8 61 7) = 0 then
  (some ((-1000000), σ8))
  else
  (if x2 = (-1) then
  (some (σ8 61 8, σ8))
  else
  ((f_X3_told σ8 x2).bind fun y11 =>
  some (y11, σ8))))
  else
  (some ((-1000001), σ))))))

def f_X7_copies (n : Nat) (x1 : Int32) (x2 : Int32) (σ : Mem) : Option (Int32 × Mem) :=
  if (σ 15 0) = 0 then
  (some ((-1000002), σ))
  else
  (if x1 < 1 then
  (some ((-1000001), σ))
  else
  (if 3 < x1 then
  (some ((-1000001), σ))
  else
  (if x2 < (-1) then
  (some ((-1000001), σ))
  else
  (if x2 < 6 then
  (if x2 < (σ 15 4) then
  ((f_X3_forSets n 15 σ).bind fun σ8 =>
  (f_X4_of n x1 15 69 σ8).bind fun σ10 =>
  if x2 = (-1) then
  (some (((σ10 70 6) - (x1 * (σ10 15 2))) + 1000, σ10))
  else
  (if inB x2 6 = true then
  some (σ10 73 x2.toNatClampNeg, σ10)
  else none))
  else
  (some ((-1000000), σ)))
  else
  (some ((-1000001), σ))))))

def f_X7_isTold (σ : Mem) (x0 : Int32) (x1 : Int32) (x2 : Int32) : Option Int32 :=
  (f_X2_isNumber σ x0).bind fun y1 =>
  if y1 = 0 then
  (some 0)
  else
  (if x1 < 1 then
  (some 0)
  else
  (if 6 < x1 then
  (some 0)
  else
  (if x2 < 0 then
  (some 0)
  else
  (if 999 < x2 then
  (some 0)
  else
  (some 1)))))

def f_X7_fits_b167 (n : Nat) (k104 : Int32 → Int32 → Int32 → Int32 → Int32 → Int32 → Int32 → Int32 → Int32 → Mem → Option (Int32 × Mem)) (x1 : Int32) (x2 : Int32) (x3 : Int32) (x4 : Int32) (x5 : Int32) (x6 : Int32) (x9 : Int32) (x10 : Int32) (x11 : Int32) (σ : Mem) : Option (Int32 × Mem) :=
  k104 x1 x2 x3 x4 x5 x6 x9 x10 (x11 + 1) σ
def f_X7_fits_b104 (n : Nat) (k104 : Int32 → Int32 → Int32 → Int32 → Int32 → Int32 → Int32 → Int32 → Int32 → Mem → Option (Int32 × Mem)) (x1 : Int32) (x2 : Int32) (x3 : Int32) (x4 : Int32) (x5 : Int32) (x6 : Int32) (x9 : Int32) (x10 : Int32) (x11 : Int32) (σ : Mem) : Option (Int32 × Mem) :=
  if x9 < x11 then
  ((f_X7_foundNothing x10 σ).bind fun (y2, σ3) =>
  some (y2, σ3))
  else
  ((f_X6_takeOver 20 15 σ).bind fun σ5 =>
  (f_X6_suppose 20 x1 x6 x11 σ5).bind fun σ7 =>
  if inB x2 8 = true then
  (f_X6_handAlong n 20 (5 + x2.toNatClampNeg) x3 x4 σ7).bind fun (y9, σ10) =>
  if y9 = x5 then
  ((some (x10 ||| (1 <<< (x11 &&& 31)) : Int32)).bind fun y12 =>
  f_X7_fits_b167 n k104 x1 x2 x3 x4 x5 x6 x9 y12 x11 σ10)
  else
  (f_X7_fits_b167 n k104 x1 x2 x3 x4 x5 x6 x9 x10 x11 σ10)
  else none)
def f_X7_fits_l104 (n : Nat) : Nat → Int32 → Int32 → Int32 → Int32 → Int32 → Int32 → Int32 → Int32 → Int32 → Mem → Option (Int32 × Mem)
  | 0 => fun _ _ _ _ _ _ _ _ _ _ => none
  | f + 1 => f_X7_fits_b104 n (f_X7_fits_l104 n f)
def f_X7_fits_b95 (n : Nat) (x1 : Int32) (x2 : Int32) (x3 : Int32) (x4 : Int32) (x5 : Int32) (x6 : Int32) (x8 : Int32) (s0 : Int32) (σ : Mem) : Option (Int32 × Mem) :=
  f_X7_fits_l104 n n x1 x2 x3 x4 x5 x6 s0 0 x8 σ
def f_X7_fits_b71 (n : Nat) (x1 : Int32) (x2 : Int32) (x3 : Int32) (x4 : Int32) (x5 : Int32) (x6 : Int32) (s0 : Int32) (σ : Mem) : Option (Int32 × Mem) :=
  if x6 = 0 then
  (f_X7_fits_b95 n x1 x2 x3 x4 x5 x6 s0 5 σ)
  else
  (if x6 = 1 then
  (f_X7_fits_b95 n x1 x2 x3 x4 x5 x6 s0 9 σ)
  else
  (f_X7_fits_b95 n x1 x2 x3 x4 x5 x6 s0 9 σ))
def f_X7_fits (n : Nat) (x1 : Int32) (x2 : Int32) (x3 : Int32) (x4 : Int32) (x5 : Int32) (x6 : Int32) (σ : Mem) : Option (Int32 × Mem) :=
  (f_X6_has σ 15 x1).bind fun y1 =>
  if y1 = 0 then
  (some ((-1000001), σ))
  else
  ((f_X7_isTold σ x2 x4 x5).bind fun y3 =>
  if y3 = 0 then
  (some ((-1000001), σ))
  else
  (if x6 < 0 then
  (some ((-1000001), σ))
  else
  (if x6 ≤ 2 then
  ((f_X2_findingOf σ x2 x3 x4).bind fun y7 =>
  if y7 = 0 then
  (if x6 = 0 then
  (f_X7_fits_b71 n x1 x2 x3 x4 x5 x6 1 σ)
  else
  (f_X7_fits_b71 n x1 x2 x3 x4 x5 x6 0 σ))
  else
  ((f_X7_found y7 σ).bind fun (y10, σ11) =>
  some (y10, σ11)))
  else
  (some ((-1000001), σ)))))

def f_X7_timesUntil_b88 (n : Nat) (k28 : Int32 → Nat → Int32 → Int32 → Int32 → Int32 → Int32 → Mem → Option (Int32 × Mem)) (x1 : Int32) (x2 : Nat) (x3 : Int32) (x4 : Int32) (x5 : Int32) (x6 : Int32) (x7 : Int32) (σ : Mem) : Option (Int32 × Mem) :=
  k28 x1 x2 x3 x4 x5 x6 (x7 + 1) σ
def f_X7_timesUntil_b28 (n : Nat) (k28 : Int32 → Nat → Int32 → Int32 → Int32 → Int32 → Int32 → Mem → Option (Int32 × Mem)) (x1 : Int32) (x2 : Nat) (x3 : Int32) (x4 : Int32) (x5 : Int32) (x6 : Int32) (x7 : Int32) (σ : Mem) : Option (Int32 × Mem) :=
  if x4 ≤ x7 then
  (some (x5, σ))
  else
  (if isIA x2 = true then
  if inB (x3 + x7) (alen x2) = true then
  (some (σ x2 (x3 + x7).toNatClampNeg : Int32)).bind fun y3 =>
  (f_X6_canHave σ 20 y3).bind fun y4 =>
  if y4 = 0 then
  (some ((-1), σ))
  else
  ((f_X6_hand n 20 y3 σ).bind fun (y6, σ7) =>
  (some (x6 + y6 : Int32)).bind fun y8 =>
  if 0 ≤ x5 then
  (f_X7_timesUntil_b88 n k28 x1 x2 x3 x4 x5 y8 x7 σ7)
  else
  (if y8 < x1 then
  (f_X7_timesUntil_b88 n k28 x1 x2 x3 x4 x5 y8 x7 σ7)
  else
  ((some (x7 + 1 : Int32)).bind fun y11 =>
  f_X7_timesUntil_b88 n k28 x1 x2 x3 x4 y11 y8 x7 σ7)))
  else none
  else none)
def f_X7_timesUntil_l28 (n : Nat) : Nat → Int32 → Nat → Int32 → Int32 → Int32 → Int32 → Int32 → Mem → Option (Int32 × Mem)
  | 0 => fun _ _ _ _ _ _ _ _ => none
  | f + 1 => f_X7_timesUntil_b28 n (f_X7_timesUntil_l28 n f)
def f_X7_timesUntil_b20 (n : Nat) (x1 : Int32) (x2 : Nat) (x3 : Int32) (x4 : Int32) (s0 : Int32) (σ : Mem) : Option (Int32 × Mem) :=
  f_X7_timesUntil_l28 n n x1 x2 x3 x4 s0 0 0 σ
def f_X7_timesUntil (n : Nat) (x1 : Int32) (x2 : Nat) (x3 : Int32) (x4 : Int32) (σ : Mem) : Option (Int32 × Mem) :=
  (f_X6_takeOver 20 15 σ).bind fun σ2 =>
  if 0 < x1 then
  (f_X7_timesUntil_b20 n x1 x2 x3 x4 (-1) σ2)
  else
  (f_X7_timesUntil_b20 n x1 x2 x3 x4 0 σ2)

def f_X7_power_b4 (n : Nat) (σ : Mem) (k4 : Int32 → Int32 → Int32 → Int32 → Option Int32) (x0 : Int32) (x1 : Int32) (x2 : Int32) (x3 : Int32) : Option Int32 :=
  if x1 ≤ x3 then
  (some x2)
  else
  ((some (x2 * x0 : Int32)).bind fun y2 =>
  k4 x0 x1 y2 (x3 + 1))
def f_X7_power_l4 (n : Nat) (σ : Mem) : Nat → Int32 → Int32 → Int32 → Int32 → Option Int32
  | 0 => fun _ _ _ _ => none
  | f + 1 => f_X7_power_b4 n σ (f_X7_power_l4 n σ f)
def f_X7_power (n : Nat) (σ : Mem) (x0 : Int32) (x1 : Int32) : Option Int32 :=
  f_X7_power_l4 n σ n x0 x1 1 0

def f_X7_commonDivisor_b7 (n : Nat) (σ : Mem) (k7 : Int32 → Int32 → Int32 → Option Int32) (x2 : Int32) (x3 : Int32) (x4 : Int32) : Option Int32 :=
  if 64 ≤ x4 then
  (some x2)
  else
  (if x3 = 0 then
  (some x2)
  else
  (if x3 = 0 then none else
  (some (x2 - x2 / x3 * x3 : Int32)).bind fun y4 =>
  k7 x3 y4 (x4 + 1)))
def f_X7_commonDivisor_l7 (n : Nat) (σ : Mem) : Nat → Int32 → Int32 → Int32 → Option Int32
  | 0 => fun _ _ _ => none
  | f + 1 => f_X7_commonDivisor_b7 n σ (f_X7_commonDivisor_l7 n σ f)
def f_X7_commonDivisor (n : Nat) (σ : Mem) (x0 : Int32) (x1 : Int32) : Option Int32 :=
  f_X7_commonDivisor_l7 n σ n x0 x1 0

def f_X7_lost_b157 (n : Nat) (x11 : Int32) (s0 : Int32) (σ : Mem) : Option (Int32 × Mem) :=
  if x11 = 0 then none else
  (f_X7_foundNothing (s0 / x11) σ).bind fun (y2, σ3) =>
  some (y2, σ3)
def f_X7_lost_b129 (n : Nat) (x6 : Int32) (x9 : Int32) (s0 : Int32) (σ : Mem) : Option (Int32 × Mem) :=
  (f_X7_commonDivisor n σ x9 s0).bind fun y1 =>
  (some (imax 1 y1 : Int32)).bind fun y2 =>
  if x6 = 0 then
  (f_X7_lost_b157 n y2 x9 σ)
  else
  (f_X7_lost_b157 n y2 s0 σ)
def f_X7_lost_b111 (n : Nat) (x6 : Int32) (x8 : Int32) (s0 : Int32) (σ : Mem) : Option (Int32 × Mem) :=
  if 0 ≤ x8 then
  ((f_X7_power n σ 10 x8).bind fun y2 =>
  f_X7_lost_b129 n x6 s0 y2 σ)
  else
  (f_X7_lost_b129 n x6 s0 1 σ)
def f_X7_lost (n : Nat) (x1 : Int32) (x2 : Int32) (x3 : Int32) (x4 : Int32) (x5 : Int32) (x6 : Int32) (σ : Mem) : Option (Int32 × Mem) :=
  if (σ 15 0) = 0 then
  (some ((-1000002), σ))
  else
  ((f_X7_isTold σ x1 x3 x5).bind fun y2 =>
  if y2 = 0 then
  (some ((-1000001), σ))
  else
  (if x4 < 0 then
  (some ((-1000001), σ))
  else
  (if 10 < x4 then
  (some ((-1000001), σ))
  else
  (if x6 < 0 then
  (some ((-1000001), σ))
  else
  (if x6 ≤ 1 then
  ((f_X2_findingOf σ x1 x2 x3).bind fun y8 =>
  if y8 = 0 then
  (if inB x1 8 = true then
  (f_X7_timesUntil n x5 (5 + x1.toNatClampNeg) x2 x3 σ).bind fun (y11, σ12) =>
  if 0 ≤ y11 then
  ((f_X7_power n σ12 (10 - x4) y11).bind fun y14 =>
  f_X7_lost_b111 n x6 y11 y14 σ12)
  else
  (f_X7_lost_b111 n x6 y11 0 σ12)
  else none)
  else
  ((f_X7_found y8 σ).bind fun (y15, σ16) =>
  some (y15, σ16)))
  else
  (some ((-1000001), σ)))))))

def f_X7_drawn_b149 (n : Nat) (k65 : Int32 → Int32 → Int64 → Int32 → Mem → Option (Int32 × Mem)) (x1 : Int32) (x3 : Int32) (x4 : Int64) (x6 : Int32) (σ : Mem) : Option (Int32 × Mem) :=
  k65 x1 x3 x4 (x6 + 1) σ
def f_X7_drawn_b109 (n : Nat) (k65 : Int32 → Int32 → Int64 → Int32 → Mem → Option (Int32 × Mem)) (x1 : Int32) (x3 : Int32) (x4 : Int64) (x6 : Int32) (s0 : Int32) (σ : Mem) : Option (Int32 × Mem) :=
  (f_X6_canHave σ 20 s0).bind fun y1 =>
  if y1 = 0 then
  ((some (mset σ 20 10 ((σ 20 10) + 1))).bind fun σ3 =>
  f_X7_drawn_b149 n k65 x1 x3 x4 x6 σ3)
  else
  ((f_X6_hand n 20 s0 σ).bind fun (y4, σ5) =>
  f_X7_drawn_b149 n k65 x1 x3 x4 x6 σ5)
def f_X7_drawn_b65 (n : Nat) (k65 : Int32 → Int32 → Int64 → Int32 → Mem → Option (Int32 × Mem)) (x1 : Int32) (x3 : Int32) (x4 : Int64) (x6 : Int32) (σ : Mem) : Option (Int32 × Mem) :=
  if x1 ≤ x6 then
  (if x3 = 0 then
  (some (σ 20 12, σ))
  else
  (some (σ 20 11, σ)))
  else
  ((some ((x4 * 16807) - (x4 * 16807) / 2147483647 * 2147483647 : Int64)).bind fun y3 =>
  if (σ 20 4) ≤ 0 then
  (f_X7_drawn_b109 n k65 x1 x3 y3 x6 (-1) σ)
  else
  ((some ((σ 20 4).toInt64 : Int64)).bind fun y5 =>
  if y5 = 0 then none else
  f_X7_drawn_b109 n k65 x1 x3 y3 x6 ((y3 - y3 / y5 * y5).toInt32) σ))
def f_X7_drawn_l65 (n : Nat) : Nat → Int32 → Int32 → Int64 → Int32 → Mem → Option (Int32 × Mem)
  | 0 => fun _ _ _ _ _ => none
  | f + 1 => f_X7_drawn_b65 n (f_X7_drawn_l65 n f)
def f_X7_drawn (n : Nat) (x1 : Int32) (x2 : Int32) (x3 : Int32) (σ : Mem) : Option (Int32 × Mem) :=
  if (σ 15 0) = 0 then
  (some ((-1000002), σ))
  else
  (if x1 < 0 then
  (some ((-1000001), σ))
  else
  (if 60 < x1 then
  (some ((-1000001), σ))
  else
  (if x2 < 1 then
  (some ((-1000001), σ))
  else
  (if 999999 < x2 then
  (some ((-1000001), σ))
  else
  (if x3 < 0 then
  (some ((-1000001), σ))
  else
  (if x3 ≤ 1 then
  ((f_X6_takeOver 20 15 σ).bind fun σ9 =>
  (some (x2.toInt64 : Int64)).bind fun y10 =>
  f_X7_drawn_l65 n n x1 x3 y10 0 σ9)
  else
  (some ((-1000001), σ))))))))

def f_X7_imageNumber (σ : Mem) (x1 : Int32) : Option Nat :=
  if x1 = 0 then
  (some 25)
  else
  (some 30)

def f_X7_image (x1 : Int32) (σ : Mem) : Option (Int32 × Mem) :=
  if x1 < 0 then
  (some ((-1000001), σ))
  else
  (if x1 ≤ 1 then
  (if (σ 15 0) = 0 then
  (some ((-1000002), σ))
  else
  ((f_X7_imageNumber σ x1).bind fun y4 =>
  if isTown y4 = true then
  (f_X6_takeOver y4 15 σ).bind fun σ7 =>
  some (1, σ7)
  else none))
  else
  (some ((-1000001), σ)))

def f_X7_restore (x1 : Int32) (σ : Mem) : Option (Int32 × Mem) :=
  if x1 < 0 then
  (some ((-1000001), σ))
  else
  (if x1 ≤ 1 then
  ((f_X7_imageNumber σ x1).bind fun y3 =>
  if isTown y3 = true then
  if (σ y3 0) = 0 then
  (some ((-1000002), σ))
  else
  ((f_X7_imageNumber σ x1).bind fun y6 =>
  (f_X6_takeOver 15 y6 σ).bind fun σ8 =>
  (f_X0_forget σ8).bind fun σ10 =>
  some (1, σ10))
  else none)
  else
  (some ((-1000001), σ)))

def f_X7_kind (σ : Mem) (x1 : Int32) : Option Int32 :=
  (f_X6_has σ 15 x1).bind fun y1 =>
  if y1 = 0 then
  (some (-1000001))
  else
  (if inB x1 6 = true then
  some (σ 16 x1.toNatClampNeg)
  else none)

def f_X7_as (n : Nat) (x1 : Int32) (x2 : Int32) (σ : Mem) : Option (Int32 × Mem) :=
  (f_X6_has σ 15 x1).bind fun y1 =>
  if y1 = 0 then
  (some ((-1000001), σ))
  else
  (if x2 < 0 then
  (some ((-1000001), σ))
  else
  (if x2 < 6 then
  (if inB x1 6 = true then
  (f_X7_isOfKind n σ (σ 16 x1.toNatClampNeg) x2).bind fun y5 =>
  if y5 = 0 then
  ((f_X7_found 3 σ).bind fun (y7, σ8) =>
  some (y7, σ8))
  else
  ((f_X7_foundNothing x1 σ).bind fun (y9, σ10) =>
  some (y9, σ10))
  else none)
  else
  (some ((-1000001), σ))))

def f_X7_ask (n : Nat) (x1 : Int32) (x2 : Int32) (σ : Mem) : Option (Int32 × Mem) :=
  (f_X6_has σ 15 x1).bind fun y1 =>
  if y1 = 0 then
  (some ((-1000001), σ))
  else
  (if x2 < 0 then
  (some ((-1000001), σ))
  else
  (if x2 ≤ 1 then
  ((f_X1_of 15 x1 σ).bind fun σ6 =>
  if x2 = 0 then
  ((f_X1_sizeAsked n σ6).bind fun (y10, σ11) =>
  some (y10, σ11))
  else
  ((f_X1_markAsked n σ6).bind fun (y8, σ9) =>
  some (y8, σ9)))
  else
  (some ((-1000001), σ))))

def f_X7_trace (σ : Mem) (x1 : Int32) : Option Int32 :=
  if x1 < 0 then
  (some (-1000000))
  else
  (if (σ 75 1) ≤ x1 then
  (some (-1000000))
  else
  (if inB x1 16 = true then
  some (σ 76 x1.toNatClampNeg)
  else none))

def f_X7_count (n : Nat) (σ : Mem) (x1 : Int32) : Option Int32 :=
  if x1 = 0 then
  ((f_X2_howMany n σ).bind fun y2 =>
  some y2)
  else if x1 = 1 then
  (some (σ 15 4))
  else if x1 = 2 then
  (some (σ 15 10))
  else if x1 = 3 then
  (some (σ 15 9))
  else if x1 = 4 then
  (some (σ 15 11))
  else if x1 = 5 then
  (some (σ 15 12))
  else if x1 = 6 then
  (some (σ 35 2))
  else if x1 = 7 then
  (some (σ 13 1))
  else 
  (some (-1000001))

def f_X7_status (σ : Mem) : Option Int32 :=
  some (σ 0 10)
