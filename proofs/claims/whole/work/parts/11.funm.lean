/-! printed by gen2.py: what the methods do, as functions -/
def f_X8_in (σ : Mem) (x0 : Int32) (x1 : Int32) (x2 : Int32) : Option Int32 :=
  if x0 < x1 then
  (some 0)
  else
  (if x2 < x0 then
  (some 0)
  else
  (some 1))

def f_X8_isIn (σ : Mem) (x0 : Int32) (x1 : Int32) : Option Int32 :=
  if ((x0 >>> (x1 &&& 31)) &&& 1) = 1 then
  (some 1)
  else
  (some 0)

def f_X8_lay_b3 (n : Nat) (k3 : Nat → Int32 → Nat → Int32 → Int32 → Mem → Option Mem) (x0 : Nat) (x1 : Int32) (x2 : Nat) (x3 : Int32) (x4 : Int32) (σ : Mem) : Option Mem :=
  if 33 ≤ x4 then
  (some σ)
  else
  (if isIA x0 = true then
  if inB (x1 + x4) (alen x0) = true then
  if isIA x2 = true then
  if inB (x3 + x4) (alen x2) = true then
  (some (mset σ x2 (x3 + x4).toNatClampNeg (σ x0 (x1 + x4).toNatClampNeg))).bind fun σ4 =>
  k3 x0 x1 x2 x3 (x4 + 1) σ4
  else none
  else none
  else none
  else none)
def f_X8_lay_l3 (n : Nat) : Nat → Nat → Int32 → Nat → Int32 → Int32 → Mem → Option Mem
  | 0 => fun _ _ _ _ _ _ => none
  | f + 1 => f_X8_lay_b3 n (f_X8_lay_l3 n f)
def f_X8_lay (n : Nat) (x0 : Nat) (x1 : Int32) (x2 : Nat) (x3 : Int32) (σ : Mem) : Option Mem :=
  f_X8_lay_l3 n n x0 x1 x2 x3 0 σ

def f_X8_isTown (σ : Mem) : Option Int32 :=
  if inB 8 33 = true then
  if (σ 82 (8 : Int32).toNatClampNeg) = 1 then
  (some 1)
  else
  (some 0)
  else none

def f_X8_isOne (σ : Mem) (x1 : Int32) : Option Int32 :=
  if inB 4 33 = true then
  (f_X8_in σ x1 0 ((σ 82 (4 : Int32).toNatClampNeg) - 1)).bind fun y1 =>
  if isBv y1 = true then
  some y1
  else none
  else none

def f_X8_finds (x1 : Int32) (σ : Mem) : Option (Int32 × Mem) :=
  (some (mset σ 77 3 x1)).bind fun σ1 =>
  some ((-1000010) - x1, σ1)

def f_X8_done (x1 : Int32) (σ : Mem) : Option (Int32 × Mem) :=
  (some (mset σ 77 3 0)).bind fun σ1 =>
  some (x1, σ1)

def f_X8_isRow (σ : Mem) (x0 : Int32) : Option Int32 :=
  (f_X8_in σ x0 0 7).bind fun y1 =>
  if isBv y1 = true then
  some y1
  else none

def f_X8_row_b52 (n : Nat) (k52 : Int32 → Int32 → Int32 → Mem → Option (Int32 × Mem)) (x1 : Int32) (x3 : Int32) (x4 : Int32) (σ : Mem) : Option (Int32 × Mem) :=
  if 40 ≤ x4 then
  ((f_X8_done x3 σ).bind fun (y2, σ3) =>
  some (y2, σ3))
  else
  (if inB ((40 * x1) + x4) 320 = true then
  (some (mset σ 80 ((40 * x1) + x4).toNatClampNeg 0)).bind fun σ4 =>
  k52 x1 x3 (x4 + 1) σ4
  else none)
def f_X8_row_l52 (n : Nat) : Nat → Int32 → Int32 → Int32 → Mem → Option (Int32 × Mem)
  | 0 => fun _ _ _ _ => none
  | f + 1 => f_X8_row_b52 n (f_X8_row_l52 n f)
def f_X8_row (n : Nat) (x1 : Int32) (x2 : Int32) (x3 : Int32) (σ : Mem) : Option (Int32 × Mem) :=
  (f_X8_isRow σ x1).bind fun y1 =>
  if y1 = 0 then
  (some ((-1000001), σ))
  else
  ((f_X8_in σ x2 0 2).bind fun y3 =>
  if y3 = 0 then
  (some ((-1000001), σ))
  else
  (if x3 ≤ 40 then
  (if 0 ≤ x3 then
  (if inB x1 8 = true then
  (some (mset σ 78 x1.toNatClampNeg x2)).bind fun σ7 =>
  if inB x1 8 = true then
  (some (mset σ7 79 x1.toNatClampNeg x3)).bind fun σ8 =>
  f_X8_row_l52 n n x1 x3 0 σ8
  else none
  else none)
  else
  ((f_X8_finds 4 σ).bind fun (y9, σ10) =>
  some (y9, σ10)))
  else
  (some ((-1000001), σ))))

def f_X8_set_b87 (x1 : Int32) (x2 : Int32) (s0 : Int32) (s1 : Int32) (σ : Mem) : Option (Int32 × Mem) :=
  if inB s1 320 = true then
  (some (mset σ 80 s1.toNatClampNeg s0)).bind fun σ1 =>
  if inB ((40 * x1) + x2) 320 = true then
  (f_X8_done (σ1 80 ((40 * x1) + x2).toNatClampNeg) σ1).bind fun (y2, σ3) =>
  some (y2, σ3)
  else none
  else none
def f_X8_set (x1 : Int32) (x2 : Int32) (x3 : Int32) (σ : Mem) : Option (Int32 × Mem) :=
  (f_X8_isRow σ x1).bind fun y1 =>
  if y1 = 0 then
  (some ((-1000001), σ))
  else
  (if inB x1 8 = true then
  if 0 ≤ (σ 78 x1.toNatClampNeg) then
  (if inB x1 8 = true then
  (f_X8_in σ x2 0 ((σ 79 x1.toNatClampNeg) - 1)).bind fun y4 =>
  if y4 = 0 then
  ((f_X8_finds 2 σ).bind fun (y8, σ9) =>
  some (y8, σ9))
  else
  (if inB x1 8 = true then
  if (σ 78 x1.toNatClampNeg) = 0 then
  (f_X8_set_b87 x1 x2 (x3.toInt8.toInt32) ((40 * x1) + x2) σ)
  else
  (if inB x1 8 = true then
  if (σ 78 x1.toNatClampNeg) = 1 then
  (f_X8_set_b87 x1 x2 (x3.toInt16.toInt32) ((40 * x1) + x2) σ)
  else
  (f_X8_set_b87 x1 x2 x3 ((40 * x1) + x2) σ)
  else none)
  else none)
  else none)
  else
  ((f_X8_finds 1 σ).bind fun (y10, σ11) =>
  some (y10, σ11))
  else none)

def f_X8_isPart (σ : Mem) (x0 : Int32) (x1 : Int32) (x2 : Int32) : Option Int32 :=
  if x0 < 0 then
  (some 0)
  else
  (if x1 < 0 then
  (some 0)
  else
  (if x2 < x1 then
  (some 0)
  else
  (if (x2 - x1) < x0 then
  (some 0)
  else
  (some 1))))

def f_X8_copy_b35 (n : Nat) (σ : Mem) : Option (Int32 × Mem) :=
  (f_X8_finds 1 σ).bind fun (y1, σ2) =>
  some (y1, σ2)
def f_X8_copy_b93 (n : Nat) (σ : Mem) : Option (Int32 × Mem) :=
  (f_X8_finds 2 σ).bind fun (y1, σ2) =>
  some (y1, σ2)
def f_X8_copy_b144 (n : Nat) (k120 : Int32 → Int32 → Int32 → Int32 → Int32 → Int32 → Int32 → Mem → Option (Int32 × Mem)) (x1 : Int32) (x2 : Int32) (x3 : Int32) (x4 : Int32) (x5 : Int32) (x6 : Int32) (x7 : Int32) (s0 : Int32) (σ : Mem) : Option (Int32 × Mem) :=
  if inB (((40 * x1) + x2) + s0) 320 = true then
  if inB (((40 * x3) + x4) + s0) 320 = true then
  (some (mset σ 80 (((40 * x3) + x4) + s0).toNatClampNeg (σ 80 (((40 * x1) + x2) + s0).toNatClampNeg))).bind fun σ1 =>
  k120 x1 x2 x3 x4 x5 x6 (x7 + 1) σ1
  else none
  else none
def f_X8_copy_b120 (n : Nat) (k120 : Int32 → Int32 → Int32 → Int32 → Int32 → Int32 → Int32 → Mem → Option (Int32 × Mem)) (x1 : Int32) (x2 : Int32) (x3 : Int32) (x4 : Int32) (x5 : Int32) (x6 : Int32) (x7 : Int32) (σ : Mem) : Option (Int32 × Mem) :=
  if x5 ≤ x7 then
  ((f_X8_done x5 σ).bind fun (y2, σ3) =>
  some (y2, σ3))
  else
  (if x6 = 0 then
  (f_X8_copy_b144 n k120 x1 x2 x3 x4 x5 x6 x7 x7 σ)
  else
  (f_X8_copy_b144 n k120 x1 x2 x3 x4 x5 x6 x7 ((x5 - 1) - x7) σ))
def f_X8_copy_l120 (n : Nat) : Nat → Int32 → Int32 → Int32 → Int32 → Int32 → Int32 → Int32 → Mem → Option (Int32 × Mem)
  | 0 => fun _ _ _ _ _ _ _ _ => none
  | f + 1 => f_X8_copy_b120 n (f_X8_copy_l120 n f)
def f_X8_copy_b115 (n : Nat) (x1 : Int32) (x2 : Int32) (x3 : Int32) (x4 : Int32) (x5 : Int32) (s0 : Int32) (σ : Mem) : Option (Int32 × Mem) :=
  f_X8_copy_l120 n n x1 x2 x3 x4 x5 s0 0 σ
def f_X8_copy_b114 (n : Nat) (x1 : Int32) (x2 : Int32) (x3 : Int32) (x4 : Int32) (x5 : Int32) (σ : Mem) : Option (Int32 × Mem) :=
  f_X8_copy_b115 n x1 x2 x3 x4 x5 0 σ
def f_X8_copy (n : Nat) (x1 : Int32) (x2 : Int32) (x3 : Int32) (x4 : Int32) (x5 : Int32) (σ : Mem) : Option (Int32 × Mem) :=
  (f_X8_isRow σ x1).bind fun y1 =>
  if y1 = 0 then
  (some ((-1000001), σ))
  else
  ((f_X8_isRow σ x3).bind fun y3 =>
  if y3 = 0 then
  (some ((-1000001), σ))
  else
  (if inB x1 8 = true then
  if (σ 78 x1.toNatClampNeg) < 0 then
  (f_X8_copy_b35 n σ)
  else
  (if inB x3 8 = true then
  if 0 ≤ (σ 78 x3.toNatClampNeg) then
  (if inB x1 8 = true then
  if inB x3 8 = true then
  if (σ 78 x1.toNatClampNeg) = (σ 78 x3.toNatClampNeg) then
  (if inB x1 8 = true then
  (f_X8_isPart σ x2 x5 (σ 79 x1.toNatClampNeg)).bind fun y8 =>
  if y8 = 0 then
  (f_X8_copy_b93 n σ)
  else
  (if inB x3 8 = true then
  (f_X8_isPart σ x4 x5 (σ 79 x3.toNatClampNeg)).bind fun y10 =>
  if y10 = 0 then
  (f_X8_copy_b93 n σ)
  else
  (if x1 = x3 then
  (if x4 ≤ x2 then
  (f_X8_copy_b114 n x1 x2 x3 x4 x5 σ)
  else
  (f_X8_copy_b115 n x1 x2 x3 x4 x5 1 σ))
  else
  (f_X8_copy_b114 n x1 x2 x3 x4 x5 σ))
  else none)
  else none)
  else
  ((f_X8_finds 5 σ).bind fun (y14, σ15) =>
  some (y14, σ15))
  else none
  else none)
  else
  (f_X8_copy_b35 n σ)
  else none)
  else none))

def f_X8_drop (x1 : Int32) (σ : Mem) : Option (Int32 × Mem) :=
  (f_X8_isRow σ x1).bind fun y1 =>
  if y1 = 0 then
  (some ((-1000001), σ))
  else
  (if inB x1 8 = true then
  if 0 ≤ (σ 78 x1.toNatClampNeg) then
  (if inB x1 8 = true then
  (some (mset σ 78 x1.toNatClampNeg (-1))).bind fun σ4 =>
  if inB x1 8 = true then
  (f_X8_done (σ4 79 x1.toNatClampNeg) σ4).bind fun (y5, σ6) =>
  some (y5, σ6)
  else none
  else none)
  else
  ((f_X8_finds 1 σ).bind fun (y7, σ8) =>
  some (y7, σ8))
  else none)

def f_X8_feed (x1 : Int32) (σ : Mem) : Option (Int32 × Mem) :=
  (f_X8_in σ x1 0 255).bind fun y1 =>
  if y1 = 0 then
  (some ((-1000001), σ))
  else
  (if (σ 77 4) = 100 then
  (some ((-1000003), σ))
  else
  (if inB (σ 77 4) 100 = true then
  (some (mset σ 81 (σ 77 4).toNatClampNeg x1)).bind fun σ4 =>
  (some (mset σ4 77 4 ((σ4 77 4) + 1))).bind fun σ5 =>
  some (σ5 77 4, σ5)
  else none))

def f_X8_nextToken_b193 (n : Nat) (s0 : Int32) (σ : Mem) : Option Mem :=
  (some (mset σ 77 8 s0)).bind fun σ1 =>
  (some (mset σ1 77 6 ((σ1 77 6) + 1))).bind fun σ2 =>
  some σ2
def f_X8_nextToken_b187 (n : Nat) (x1 : Int32) (σ : Mem) : Option Mem :=
  f_X8_nextToken_b193 n x1 σ
def f_X8_nextToken_b159 (n : Nat) (s0 : Int32) (σ : Mem) : Option Mem :=
  (some (mset σ 77 8 s0)).bind fun σ1 =>
  some σ1
def f_X8_nextToken_b139 (n : Nat) (σ : Mem) : Option Mem :=
  if ((σ 77 6) - (σ 77 7)) ≤ 2 then
  (f_X8_nextToken_b159 n (-1) σ)
  else
  (f_X8_nextToken_b159 n (-3) σ)
def f_X8_nextToken_b123 (n : Nat) (k52 : Mem → Option Mem) (s0 : Int32) (σ : Mem) : Option Mem :=
  (some (mset σ 77 9 s0)).bind fun σ1 =>
  (some (mset σ1 77 6 ((σ1 77 6) + 1))).bind fun σ2 =>
  k52  σ2
def f_X8_nextToken_b52 (n : Nat) (k52 : Mem → Option Mem) (σ : Mem) : Option Mem :=
  if (σ 77 4) ≤ (σ 77 6) then
  (f_X8_nextToken_b139 n σ)
  else
  (if inB (σ 77 6) 100 = true then
  (f_X8_in σ (σ 81 (σ 77 6).toNatClampNeg) 48 57).bind fun y2 =>
  if y2 = 0 then
  (f_X8_nextToken_b139 n σ)
  else
  (if 2 ≤ ((σ 77 6) - (σ 77 7)) then
  (f_X8_nextToken_b123 n k52 (σ 77 9) σ)
  else
  (if inB (σ 77 6) 100 = true then
  f_X8_nextToken_b123 n k52 (((10 * (σ 77 9)) + (σ 81 (σ 77 6).toNatClampNeg)) - 48) σ
  else none))
  else none)
def f_X8_nextToken_l52 (n : Nat) : Nat → Mem → Option Mem
  | 0 => fun _ => none
  | f + 1 => f_X8_nextToken_b52 n (f_X8_nextToken_l52 n f)
def f_X8_nextToken (n : Nat) (σ : Mem) : Option Mem :=
  (some (mset σ 77 7 (σ 77 6))).bind fun σ1 =>
  (some (mset σ1 77 9 0)).bind fun σ2 =>
  if (σ2 77 6) = (σ2 77 4) then
  ((some (mset σ2 77 8 (-2))).bind fun σ11 =>
  some σ11)
  else
  (if inB (σ2 77 6) 100 = true then
  (some (σ2 81 (σ2 77 6).toNatClampNeg : Int32)).bind fun y4 =>
  (f_X8_in σ2 y4 48 57).bind fun y5 =>
  if y5 = 0 then
  ((f_X8_in σ2 y4 97 122).bind fun y7 =>
  if y7 = 0 then
  (if y4 = 44 then
  (f_X8_nextToken_b187 n y4 σ2)
  else
  (if y4 = 59 then
  (f_X8_nextToken_b187 n y4 σ2)
  else
  (f_X8_nextToken_b193 n (-3) σ2)))
  else
  (f_X8_nextToken_b187 n y4 σ2))
  else
  (f_X8_nextToken_l52 n n σ2)
  else none)

def f_X8_fails (x1 : Int32) (σ : Mem) : Option (Int32 × Mem) :=
  (some (mset σ 77 10 x1)).bind fun σ1 =>
  some (0, σ1)

def f_X8_isSign_b20 (n : Nat) (σ : Mem) : Option (Int32 × Mem) :=
  some (1, σ)
def f_X8_isSign (n : Nat) (x1 : Int32) (σ : Mem) : Option (Int32 × Mem) :=
  (f_X8_nextToken n σ).bind fun σ2 =>
  if (σ2 77 8) = x1 then
  (f_X8_isSign_b20 n σ2)
  else
  ((f_X8_fails 1 σ2).bind fun (y4, σ5) =>
  if y4 = 0 then
  (some (0, σ5))
  else
  (f_X8_isSign_b20 n σ5))

def f_X8_isNumber_b38 (n : Nat) (σ : Mem) : Option (Int32 × Mem) :=
  some (1, σ)
def f_X8_isNumber (n : Nat) (x1 : Int32) (x2 : Int32) (σ : Mem) : Option (Int32 × Mem) :=
  (f_X8_nextToken n σ).bind fun σ2 =>
  if (σ2 77 8) = (-1) then
  ((f_X8_in σ2 (σ2 77 9) x1 x2).bind fun y4 =>
  if y4 = 0 then
  ((f_X8_fails 2 σ2).bind fun (y6, σ7) =>
  if y6 = 0 then
  (some (0, σ7))
  else
  (f_X8_isNumber_b38 n σ7))
  else
  (f_X8_isNumber_b38 n σ2))
  else
  ((f_X8_fails 1 σ2).bind fun (y9, σ10) =>
  if isBv y9 = true then
  some (y9, σ10)
  else none)

def f_X8_sortBy (σ : Mem) (x0 : Int32) : Option Int32 :=
  if x0 = 102 then
  (some 1)
  else
  (if x0 = 115 then
  (some 2)
  else
  (if x0 = 97 then
  (some 3)
  else
  (if x0 = 111 then
  (some 4)
  else
  (if x0 = 104 then
  (some 5)
  else
  (some 0)))))

def f_X8_isThree_b85 (n : Nat) (k3 : Int32 → Int32 → Int32 → Int32 → Int32 → Int32 → Int32 → Mem → Option (Int32 × Mem)) (x1 : Int32) (x2 : Int32) (x3 : Int32) (x4 : Int32) (x5 : Int32) (x6 : Int32) (x7 : Int32) (s0 : Int32) (σ : Mem) : Option (Int32 × Mem) :=
  (f_X8_isSign n s0 σ).bind fun (y1, σ2) =>
  if y1 = 0 then
  (some (0, σ2))
  else
  (k3 x1 x2 x3 x4 x5 x6 (x7 + 1) σ2)
def f_X8_isThree_b66 (n : Nat) (k3 : Int32 → Int32 → Int32 → Int32 → Int32 → Int32 → Int32 → Mem → Option (Int32 × Mem)) (x1 : Int32) (x2 : Int32) (x3 : Int32) (x4 : Int32) (x5 : Int32) (x6 : Int32) (x7 : Int32) (s0 : Int32) (σ : Mem) : Option (Int32 × Mem) :=
  if inB s0 33 = true then
  (some (mset σ 83 s0.toNatClampNeg (σ 77 9))).bind fun σ1 =>
  if x7 = 2 then
  (f_X8_isThree_b85 n k3 x1 x2 x3 x4 x5 x6 x7 59 σ1)
  else
  (f_X8_isThree_b85 n k3 x1 x2 x3 x4 x5 x6 x7 44 σ1)
  else none
def f_X8_isThree_b33 (n : Nat) (k3 : Int32 → Int32 → Int32 → Int32 → Int32 → Int32 → Int32 → Mem → Option (Int32 × Mem)) (x1 : Int32) (x2 : Int32) (x3 : Int32) (x4 : Int32) (x5 : Int32) (x6 : Int32) (x7 : Int32) (s0 : Int32) (s1 : Int32) (σ : Mem) : Option (Int32 × Mem) :=
  (f_X8_isNumber n s1 s0 σ).bind fun (y1, σ2) =>
  if y1 = 0 then
  (some (0, σ2))
  else
  (if x7 = 0 then
  (f_X8_isThree_b66 n k3 x1 x2 x3 x4 x5 x6 x7 x1 σ2)
  else
  (if x7 = 1 then
  (f_X8_isThree_b66 n k3 x1 x2 x3 x4 x5 x6 x7 x3 σ2)
  else
  (f_X8_isThree_b66 n k3 x1 x2 x3 x4 x5 x6 x7 x5 σ2)))
def f_X8_isThree_b3 (n : Nat) (k3 : Int32 → Int32 → Int32 → Int32 → Int32 → Int32 → Int32 → Mem → Option (Int32 × Mem)) (x1 : Int32) (x2 : Int32) (x3 : Int32) (x4 : Int32) (x5 : Int32) (x6 : Int32) (x7 : Int32) (σ : Mem) : Option (Int32 × Mem) :=
  if 3 ≤ x7 then
  (some (1, σ))
  else
  (if x7 = 0 then
  (f_X8_isThree_b33 n k3 x1 x2 x3 x4 x5 x6 x7 x2 0 σ)
  else
  (if x7 = 1 then
  (f_X8_isThree_b33 n k3 x1 x2 x3 x4 x5 x6 x7 x4 0 σ)
  else
  (f_X8_isThree_b33 n k3 x1 x2 x3 x4 x5 x6 x7 x6 0 σ)))
def f_X8_isThree_l3 (n : Nat) : Nat → Int32 → Int32 → Int32 → Int32 → Int32 → Int32 → Int32 → Mem → Option (Int32 × Mem)
  | 0 => fun _ _ _ _ _ _ _ _ => none
  | f + 1 => f_X8_isThree_b3 n (f_X8_isThree_l3 n f)
def f_X8_isThree (n : Nat) (x1 : Int32) (x2 : Int32) (x3 : Int32) (x4 : Int32) (x5 : Int32) (x6 : Int32) (σ : Mem) : Option (Int32 × Mem) :=
  f_X8_isThree_l3 n n x1 x2 x3 x4 x5 x6 0 σ

def f_X8_isReader_b18 (n : Nat) (s0 : Int32) (σ : Mem) : Option (Int32 × Mem) :=
  if s0 = 0 then
  ((f_X8_fails 1 σ).bind fun (y12, σ13) =>
  if isBv y12 = true then
  some (y12, σ13)
  else none)
  else
  (if inB 4 33 = true then
  (some (σ 83 (4 : Int32).toNatClampNeg : Int32)).bind fun y2 =>
  if y2 = 6 then
  ((f_X8_fails 3 σ).bind fun (y9, σ10) =>
  if isBv y9 = true then
  some (y9, σ10)
  else none)
  else
  (if inB (9 + y2) 33 = true then
  (some (mset σ 83 (9 + y2).toNatClampNeg s0)).bind fun σ4 =>
  (f_X8_isThree n (15 + y2) 9 (21 + y2) 30 (27 + y2) 9 σ4).bind fun (y5, σ6) =>
  if y5 = 0 then
  (some (0, σ6))
  else
  (if inB 4 33 = true then
  if inB 4 33 = true then
  (some (mset σ6 83 (4 : Int32).toNatClampNeg ((σ6 83 (4 : Int32).toNatClampNeg) + 1))).bind fun σ8 =>
  some (1, σ8)
  else none
  else none)
  else none)
  else none)
def f_X8_isReader (n : Nat) (σ : Mem) : Option (Int32 × Mem) :=
  if (σ 77 8) ≤ 0 then
  (f_X8_isReader_b18 n 0 σ)
  else
  ((f_X8_sortBy σ (σ 77 8)).bind fun y2 =>
  f_X8_isReader_b18 n y2 σ)

def f_X8_isRead_b79 (n : Nat) (k79 : Mem → Option (Int32 × Mem)) (σ : Mem) : Option (Int32 × Mem) :=
  if (σ 77 8) = (-2) then
  (some (1, σ))
  else
  ((f_X8_isReader n σ).bind fun (y2, σ3) =>
  if y2 = 0 then
  (some (0, σ3))
  else
  ((f_X8_nextToken n σ3).bind fun σ6 =>
  k79  σ6))
def f_X8_isRead_l79 (n : Nat) : Nat → Mem → Option (Int32 × Mem)
  | 0 => fun _ => none
  | f + 1 => f_X8_isRead_b79 n (f_X8_isRead_l79 n f)
def f_X8_isRead_b2 (n : Nat) (k2 : Int32 → Mem → Option (Int32 × Mem)) (x1 : Int32) (σ : Mem) : Option (Int32 × Mem) :=
  if 33 ≤ x1 then
  ((some (mset σ 77 6 0)).bind fun σ2 =>
  (f_X8_isSign n 112 σ2).bind fun (y3, σ4) =>
  if y3 = 0 then
  (some (0, σ4))
  else
  ((f_X8_isThree n 5 9 6 20 7 60 σ4).bind fun (y6, σ7) =>
  if y6 = 0 then
  (some (0, σ7))
  else
  (if inB 5 33 = true then
  if inB 0 33 = true then
  (some (mset σ7 83 (0 : Int32).toNatClampNeg (σ7 83 (5 : Int32).toNatClampNeg))).bind fun σ9 =>
  if inB 8 33 = true then
  (some (mset σ9 83 (8 : Int32).toNatClampNeg 1)).bind fun σ10 =>
  (f_X8_nextToken n σ10).bind fun σ12 =>
  f_X8_isRead_l79 n n σ12
  else none
  else none
  else none)))
  else
  (if inB x1 33 = true then
  (some (mset σ 83 x1.toNatClampNeg 0)).bind fun σ13 =>
  k2 (x1 + 1) σ13
  else none)
def f_X8_isRead_l2 (n : Nat) : Nat → Int32 → Mem → Option (Int32 × Mem)
  | 0 => fun _ _ => none
  | f + 1 => f_X8_isRead_b2 n (f_X8_isRead_l2 n f)
def f_X8_isRead (n : Nat) (σ : Mem) : Option (Int32 × Mem) :=
  f_X8_isRead_l2 n n 0 σ

def f_X8_town (n : Nat) (σ : Mem) : Option (Int32 × Mem) :=
  (f_X8_isRead n σ).bind fun (y1, σ2) =>
  (some (mset σ2 77 4 0)).bind fun σ3 =>
  if y1 = 0 then
  ((some (mset σ3 77 11 (σ3 77 10))).bind fun σ8 =>
  some ((-1000100) - (σ8 77 7), σ8))
  else
  ((f_X8_lay n 83 0 82 0 σ3).bind fun σ6 =>
  (some (mset σ6 77 18 0)).bind fun σ7 =>
  if inB 4 33 = true then
  some (σ7 82 (4 : Int32).toNatClampNeg, σ7)
  else none)

def f_X8_fault (σ : Mem) : Option Int32 :=
  some (σ 77 11)

def f_X8_note_b49 (n : Nat) (σ : Mem) : Option Mem :=
  (f_X8_lay n 82 0 87 (33 * (σ 77 18)) σ).bind fun σ2 =>
  (some (mset σ2 77 18 ((σ2 77 18) + 1))).bind fun σ3 =>
  some σ3
def f_X8_note_b11 (n : Nat) (k11 : Int32 → Mem → Option Mem) (x1 : Int32) (σ : Mem) : Option Mem :=
  if 759 ≤ x1 then
  ((some (mset σ 77 18 ((σ 77 18) - 1))).bind fun σ2 =>
  f_X8_note_b49 n σ2)
  else
  (if inB (x1 + 33) 792 = true then
  if inB x1 792 = true then
  (some (mset σ 87 x1.toNatClampNeg (σ 87 (x1 + 33).toNatClampNeg))).bind fun σ3 =>
  k11 (x1 + 1) σ3
  else none
  else none)
def f_X8_note_l11 (n : Nat) : Nat → Int32 → Mem → Option Mem
  | 0 => fun _ _ => none
  | f + 1 => f_X8_note_b11 n (f_X8_note_l11 n f)
def f_X8_note (n : Nat) (σ : Mem) : Option Mem :=
  if (σ 77 18) = 24 then
  (f_X8_note_l11 n n 0 σ)
  else
  (f_X8_note_b49 n σ)

def f_X8_comesTo (σ : Mem) (x0 : Nat) (x1 : Int32) : Option Int32 :=
  if isIA x0 = true then
  if inB 0 (alen x0) = true then
  if inB (15 + x1) (alen x0) = true then
  (some ((σ x0 (0 : Int32).toNatClampNeg) - (σ x0 (15 + x1).toNatClampNeg) : Int32)).bind fun y2 =>
  if inB 1 (alen x0) = true then
  if 0 ≤ y2 then
  (some ((σ x0 (1 : Int32).toNatClampNeg) + y2))
  else
  (some ((σ x0 (1 : Int32).toNatClampNeg) + (-y2)))
  else none
  else none
  else none
  else none

def f_X8_canBe (σ : Mem) (x0 : Nat) (x1 : Int32) : Option Int32 :=
  if isIA x0 = true then
  if inB 4 (alen x0) = true then
  (f_X8_in σ x1 0 ((σ x0 (4 : Int32).toNatClampNeg) - 1)).bind fun y2 =>
  if y2 = 0 then
  (some 0)
  else
  (if inB 2 (alen x0) = true then
  (f_X8_isIn σ (σ x0 (2 : Int32).toNatClampNeg) x1).bind fun y4 =>
  if y4 = 0 then
  ((f_X8_comesTo σ x0 x1).bind fun y6 =>
  if inB 7 (alen x0) = true then
  if (σ x0 (7 : Int32).toNatClampNeg) < y6 then
  (some 0)
  else
  (some 1)
  else none)
  else
  (some 0)
  else none)
  else none
  else none

def f_X8_bringsBy_b75 (n : Nat) (σ : Mem) (k38 : Nat → Int32 → Int32 → Int32 → Int32 → Int32 → Option Int32) (x0 : Nat) (x1 : Int32) (x2 : Int32) (x3 : Int32) (x5 : Int32) (s0 : Int32) (s1 : Int32) : Option Int32 :=
  (some (s1 + s0 : Int32)).bind fun y1 =>
  k38 x0 x1 x2 x3 y1 (x5 + 1)
def f_X8_bringsBy_b74 (n : Nat) (σ : Mem) (k38 : Nat → Int32 → Int32 → Int32 → Int32 → Int32 → Option Int32) (x0 : Nat) (x1 : Int32) (x2 : Int32) (x3 : Int32) (x5 : Int32) (s0 : Int32) : Option Int32 :=
  f_X8_bringsBy_b75 n σ k38 x0 x1 x2 x3 x5 0 s0
def f_X8_bringsBy_b38 (n : Nat) (σ : Mem) (k38 : Nat → Int32 → Int32 → Int32 → Int32 → Int32 → Option Int32) (x0 : Nat) (x1 : Int32) (x2 : Int32) (x3 : Int32) (x4 : Int32) (x5 : Int32) : Option Int32 :=
  if isIA x0 = true then
  if inB 4 (alen x0) = true then
  if (σ x0 (4 : Int32).toNatClampNeg) ≤ x5 then
  (if inB (9 + x1) (alen x0) = true then
  (some (σ x0 (9 + x1).toNatClampNeg : Int32)).bind fun y3 =>
  if y3 = 1 then
  (some x3)
  else if y3 = 2 then
  (if inB 2 (alen x0) = true then
  if (σ x0 (2 : Int32).toNatClampNeg) = 0 then
  (some x3)
  else
  (some 0)
  else none)
  else if y3 = 3 then
  (some (x3 + x4))
  else 
  (some x2)
  else none)
  else
  (if x5 = x1 then
  (f_X8_bringsBy_b74 n σ k38 x0 x1 x2 x3 x5 x4)
  else
  (if inB (15 + x5) (alen x0) = true then
  if inB (15 + x1) (alen x0) = true then
  if (σ x0 (15 + x5).toNatClampNeg) = (σ x0 (15 + x1).toNatClampNeg) then
  (f_X8_bringsBy_b75 n σ k38 x0 x1 x2 x3 x5 1 x4)
  else
  (f_X8_bringsBy_b74 n σ k38 x0 x1 x2 x3 x5 x4)
  else none
  else none))
  else none
  else none
def f_X8_bringsBy_l38 (n : Nat) (σ : Mem) : Nat → Nat → Int32 → Int32 → Int32 → Int32 → Int32 → Option Int32
  | 0 => fun _ _ _ _ _ _ => none
  | f + 1 => f_X8_bringsBy_b38 n σ (f_X8_bringsBy_l38 n σ f)
def f_X8_bringsBy_b31 (n : Nat) (σ : Mem) (x0 : Nat) (x1 : Int32) (x2 : Int32) (s0 : Int32) : Option Int32 :=
  f_X8_bringsBy_l38 n σ n x0 x1 x2 s0 0 0
def f_X8_bringsBy (n : Nat) (σ : Mem) (x0 : Nat) (x1 : Int32) : Option Int32 :=
  if isIA x0 = true then
  if inB (21 + x1) (alen x0) = true then
  (some (σ x0 (21 + x1).toNatClampNeg : Int32)).bind fun y2 =>
  (f_X8_comesTo σ x0 x1).bind fun y3 =>
  if inB (27 + x1) (alen x0) = true then
  (some (y2 - (y3 * (σ x0 (27 + x1).toNatClampNeg)) : Int32)).bind fun y4 =>
  if 0 ≤ y4 then
  (f_X8_bringsBy_b31 n σ x0 x1 y2 y4)
  else
  (f_X8_bringsBy_b31 n σ x0 x1 y2 0)
  else none
  else none
  else none

def f_X8_gives_b28 (n : Nat) (x0 : Nat) (x1 : Int32) (x2 : Int32) (s0 : Int32) (s1 : Int32) (s2 : Int32) (s3 : Nat) (σ : Mem) : Option (Int32 × Mem) :=
  if isIA s3 = true then
  if inB s2 (alen s3) = true then
  (some (mset σ s3 s2.toNatClampNeg (s1 + s0))).bind fun σ2 =>
  if isIA x0 = true then
  if inB 3 (alen x0) = true then
  if inB 3 (alen x0) = true then
  (some (mset σ2 x0 (3 : Int32).toNatClampNeg ((σ2 x0 (3 : Int32).toNatClampNeg) + x2))).bind fun σ4 =>
  if inB 2 (alen x0) = true then
  if inB 2 (alen x0) = true then
  (some (mset σ4 x0 (2 : Int32).toNatClampNeg ((σ4 x0 (2 : Int32).toNatClampNeg) ||| (1 <<< (x1 &&& 31))))).bind fun σ5 =>
  if inB (15 + x1) (alen x0) = true then
  if inB 0 (alen x0) = true then
  (some (mset σ5 x0 (0 : Int32).toNatClampNeg (σ5 x0 (15 + x1).toNatClampNeg))).bind fun σ6 =>
  some (x2, σ6)
  else none
  else none
  else none
  else none
  else none
  else none
  else none
  else none
  else none
def f_X8_gives (n : Nat) (x0 : Nat) (x1 : Int32) (σ : Mem) : Option (Int32 × Mem) :=
  (f_X8_bringsBy n σ x0 x1).bind fun y1 =>
  (f_X8_comesTo σ x0 x1).bind fun y2 =>
  if isIA x0 = true then
  if inB (9 + x1) (alen x0) = true then
  if (σ x0 (9 + x1).toNatClampNeg) = 5 then
  (f_X8_gives_b28 n x0 x1 y1 2 y2 1 x0 σ)
  else
  (f_X8_gives_b28 n x0 x1 y1 1 y2 1 x0 σ)
  else none
  else none

def f_X8_give (n : Nat) (x1 : Int32) (σ : Mem) : Option (Int32 × Mem) :=
  (f_X8_isOne σ x1).bind fun y1 =>
  if y1 = 0 then
  (some ((-1000001), σ))
  else
  ((f_X8_canBe σ 82 x1).bind fun y3 =>
  if y3 = 0 then
  (some ((-1000002), σ))
  else
  ((f_X8_note n σ).bind fun σ6 =>
  (f_X8_gives n 82 x1 σ6).bind fun (y7, σ8) =>
  some (y7, σ8)))

def f_X8_pause (n : Nat) (x1 : Int32) (σ : Mem) : Option (Int32 × Mem) :=
  (f_X8_isTown σ).bind fun y1 =>
  if y1 = 0 then
  (some ((-1000002), σ))
  else
  ((f_X8_in σ x1 1 24).bind fun y3 =>
  if y3 = 0 then
  (some ((-1000001), σ))
  else
  (if inB 1 33 = true then
  if ((σ 82 (1 : Int32).toNatClampNeg) + x1) ≤ 999 then
  ((f_X8_note n σ).bind fun σ7 =>
  if inB 1 33 = true then
  if inB 1 33 = true then
  (some (mset σ7 82 (1 : Int32).toNatClampNeg ((σ7 82 (1 : Int32).toNatClampNeg) + x1))).bind fun σ8 =>
  if inB 1 33 = true then
  some (σ8 82 (1 : Int32).toNatClampNeg, σ8)
  else none
  else none
  else none)
  else
  (some ((-1000003), σ))
  else none))

def f_X8_value (n : Nat) (x1 : Int32) (x2 : Int32) (σ : Mem) : Option (Int32 × Mem) :=
  (f_X8_isOne σ x1).bind fun y1 =>
  if y1 = 0 then
  (some ((-1000001), σ))
  else
  ((f_X8_in σ x2 0 30).bind fun y3 =>
  if y3 = 0 then
  (some ((-1000001), σ))
  else
  ((f_X8_note n σ).bind fun σ6 =>
  if inB (21 + x1) 33 = true then
  (some (σ6 82 (21 + x1).toNatClampNeg : Int32)).bind fun y7 =>
  if inB (21 + x1) 33 = true then
  (some (mset σ6 82 (21 + x1).toNatClampNeg x2)).bind fun σ8 =>
  some (y7, σ8)
  else none
  else none))

def f_X8_move (n : Nat) (x1 : Int32) (x2 : Int32) (σ : Mem) : Option (Int32 × Mem) :=
  (f_X8_isOne σ x1).bind fun y1 =>
  if y1 = 0 then
  (some ((-1000001), σ))
  else
  ((f_X8_in σ x2 0 9).bind fun y3 =>
  if y3 = 0 then
  (some ((-1000001), σ))
  else
  ((f_X8_note n σ).bind fun σ6 =>
  if inB (15 + x1) 33 = true then
  (some (σ6 82 (15 + x1).toNatClampNeg : Int32)).bind fun y7 =>
  if inB (15 + x1) 33 = true then
  (some (mset σ6 82 (15 + x1).toNatClampNeg x2)).bind fun σ8 =>
  some (y7, σ8)
  else none
  else none))

def f_X8_undo (n : Nat) (σ : Mem) : Option (Int32 × Mem) :=
  if (σ 77 18) = 0 then
  (some ((-1000002), σ))
  else
  ((some (mset σ 77 18 ((σ 77 18) - 1))).bind fun σ2 =>
  (f_X8_lay n 87 (33 * (σ2 77 18)) 82 0 σ2).bind fun σ4 =>
  some (σ4 77 18, σ4))

def f_X8_reader (σ : Mem) (x1 : Int32) (x2 : Int32) : Option Int32 :=
  (f_X8_isOne σ x1).bind fun y1 =>
  if y1 = 0 then
  (some (-1000001))
  else
  (if x2 = 0 then
  (if inB (15 + x1) 33 = true then
  some (σ 82 (15 + x1).toNatClampNeg)
  else none)
  else if x2 = 1 then
  (if inB (21 + x1) 33 = true then
  some (σ 82 (21 + x1).toNatClampNeg)
  else none)
  else if x2 = 2 then
  (if inB (27 + x1) 33 = true then
  some (σ 82 (27 + x1).toNatClampNeg)
  else none)
  else if x2 = 3 then
  (if inB 2 33 = true then
  some (((σ 82 (2 : Int32).toNatClampNeg) >>> (x1 &&& 31)) &&& 1)
  else none)
  else if x2 = 4 then
  ((f_X8_canBe σ 82 x1).bind fun y8 =>
  if y8 = 0 then
  (some 0)
  else
  (some 1))
  else 
  (some (-1000001)))

def f_X8_would (n : Nat) (σ : Mem) (x1 : Int32) (x2 : Int32) : Option Int32 :=
  (f_X8_isOne σ x1).bind fun y1 =>
  if y1 = 0 then
  (some (-1000001))
  else
  ((f_X8_in σ x2 0 1).bind fun y3 =>
  if y3 = 0 then
  (some (-1000001))
  else
  ((f_X8_canBe σ 82 x1).bind fun y5 =>
  if y5 = 0 then
  (some (-1000000))
  else
  (if x2 = 0 then
  ((f_X8_comesTo σ 82 x1).bind fun y9 =>
  some y9)
  else
  ((f_X8_bringsBy n σ 82 x1).bind fun y8 =>
  some y8))))

def f_X8_begin (n : Nat) (σ : Mem) : Option Mem :=
  (f_X8_lay n 82 0 84 0 σ).bind fun σ2 =>
  some σ2

def f_X8_goesOn_b2 (n : Nat) (k2 : Nat → Int32 → Int32 → Mem → Option (Int32 × Mem)) (x1 : Nat) (x2 : Int32) (x3 : Int32) (σ : Mem) : Option (Int32 × Mem) :=
  if x2 ≤ x3 then
  (some (1, σ))
  else
  (if isIA x1 = true then
  if inB x3 (alen x1) = true then
  (f_X8_canBe σ 84 (σ x1 x3.toNatClampNeg)).bind fun y3 =>
  if y3 = 0 then
  (some (0, σ))
  else
  (if inB x3 (alen x1) = true then
  (f_X8_gives n 84 (σ x1 x3.toNatClampNeg) σ).bind fun (y5, σ6) =>
  k2 x1 x2 (x3 + 1) σ6
  else none)
  else none
  else none)
def f_X8_goesOn_l2 (n : Nat) : Nat → Nat → Int32 → Int32 → Mem → Option (Int32 × Mem)
  | 0 => fun _ _ _ _ => none
  | f + 1 => f_X8_goesOn_b2 n (f_X8_goesOn_l2 n f)
def f_X8_goesOn (n : Nat) (x1 : Nat) (x2 : Int32) (σ : Mem) : Option (Int32 × Mem) :=
  f_X8_goesOn_l2 n n x1 x2 0 σ

def f_X8_layRow_b10 (n : Nat) (k10 : Int32 → Int32 → Int32 → Mem → Option (Int32 × Mem)) (x3 : Int32) (x4 : Int32) (x5 : Int32) (σ : Mem) : Option (Int32 × Mem) :=
  if x5 < 0 then
  (some (x4, σ))
  else
  (if inB 4 33 = true then
  (some (σ 82 (4 : Int32).toNatClampNeg : Int32)).bind fun y2 =>
  if y2 = 0 then none else
  if inB x5 6 = true then
  (some (mset σ 90 x5.toNatClampNeg (x3 - x3 / y2 * y2))).bind fun σ4 =>
  if inB 4 33 = true then
  if σ4 82 (4 : Int32).toNatClampNeg = 0 then none else
  (some (x3 / (σ4 82 (4 : Int32).toNatClampNeg) : Int32)).bind fun y6 =>
  if inB x5 6 = true then
  (some (x4 ||| (1 <<< ((σ4 90 x5.toNatClampNeg) &&& 31)) : Int32)).bind fun y7 =>
  k10 y6 y7 (x5 + (-1)) σ4
  else none
  else none
  else none
  else none)
def f_X8_layRow_l10 (n : Nat) : Nat → Int32 → Int32 → Int32 → Mem → Option (Int32 × Mem)
  | 0 => fun _ _ _ _ => none
  | f + 1 => f_X8_layRow_b10 n (f_X8_layRow_l10 n f)
def f_X8_layRow (n : Nat) (x1 : Int32) (x2 : Int32) (σ : Mem) : Option (Int32 × Mem) :=
  (some (x2 - 1 : Int32)).bind fun y1 =>
  f_X8_layRow_l10 n n x1 0 y1 σ

def f_X8_bits_b4 (n : Nat) (σ : Mem) (k4 : Int32 → Int32 → Int32 → Option Int32) (x0 : Int32) (x1 : Int32) (x2 : Int32) : Option Int32 :=
  if 6 ≤ x2 then
  (some x1)
  else
  ((some (x1 + ((x0 >>> (x2 &&& 31)) &&& 1) : Int32)).bind fun y2 =>
  k4 x0 y2 (x2 + 1))
def f_X8_bits_l4 (n : Nat) (σ : Mem) : Nat → Int32 → Int32 → Int32 → Option Int32
  | 0 => fun _ _ _ => none
  | f + 1 => f_X8_bits_b4 n σ (f_X8_bits_l4 n σ f)
def f_X8_bits (n : Nat) (σ : Mem) (x0 : Int32) : Option Int32 :=
  f_X8_bits_l4 n σ n x0 0 0

def f_X8_rowsOf_b4 (n : Nat) (σ : Mem) (k4 : Int32 → Int32 → Int32 → Option Int32) (x1 : Int32) (x2 : Int32) (x3 : Int32) : Option Int32 :=
  if x1 ≤ x3 then
  (some x2)
  else
  (if inB 4 33 = true then
  (some (x2 * (σ 82 (4 : Int32).toNatClampNeg) : Int32)).bind fun y2 =>
  k4 x1 y2 (x3 + 1)
  else none)
def f_X8_rowsOf_l4 (n : Nat) (σ : Mem) : Nat → Int32 → Int32 → Int32 → Option Int32
  | 0 => fun _ _ _ => none
  | f + 1 => f_X8_rowsOf_b4 n σ (f_X8_rowsOf_l4 n σ f)
def f_X8_rowsOf (n : Nat) (σ : Mem) (x1 : Int32) : Option Int32 :=
  f_X8_rowsOf_l4 n σ n x1 1 0

def f_X8_keepRow_b12 (n : Nat) (k12 : Int32 → Int32 → Mem → Option Mem) (x2 : Int32) (x3 : Int32) (σ : Mem) : Option Mem :=
  if x2 ≤ x3 then
  (some σ)
  else
  (if inB x3 6 = true then
  if inB x3 6 = true then
  (some (mset σ 91 x3.toNatClampNeg (σ 90 x3.toNatClampNeg))).bind fun σ2 =>
  k12 x2 (x3 + 1) σ2
  else none
  else none)
def f_X8_keepRow_l12 (n : Nat) : Nat → Int32 → Int32 → Mem → Option Mem
  | 0 => fun _ _ _ => none
  | f + 1 => f_X8_keepRow_b12 n (f_X8_keepRow_l12 n f)
def f_X8_keepRow (n : Nat) (x1 : Int32) (x2 : Int32) (σ : Mem) : Option Mem :=
  (some (mset σ 77 24 x1)).bind fun σ1 =>
  (some (mset σ1 77 25 x2)).bind fun σ2 =>
  f_X8_keepRow_l12 n n x2 0 σ2

def f_X8_best_b119 (n : Nat) (k31 : Int32 → Int32 → Mem → Option (Int32 × Mem)) (k43 : Int32 → Int32 → Int32 → Mem → Option (Int32 × Mem)) (x1 : Int32) (x2 : Int32) (x3 : Int32) (σ : Mem) : Option (Int32 × Mem) :=
  k43 x1 x2 (x3 + 1) σ
def f_X8_best_b43 (n : Nat) (k31 : Int32 → Int32 → Mem → Option (Int32 × Mem)) (k43 : Int32 → Int32 → Int32 → Mem → Option (Int32 × Mem)) (x1 : Int32) (x2 : Int32) (x3 : Int32) (σ : Mem) : Option (Int32 × Mem) :=
  (f_X8_rowsOf n σ x2).bind fun y1 =>
  if y1 ≤ x3 then
  (k31 x1 (x2 + 1) σ)
  else
  ((f_X8_layRow n x3 x2 σ).bind fun (y3, σ4) =>
  (f_X8_bits n σ4 y3).bind fun y5 =>
  if y5 = x2 then
  ((f_X8_begin n σ4).bind fun σ8 =>
  (f_X8_goesOn n 90 x2 σ8).bind fun (y9, σ10) =>
  if y9 = 0 then
  (f_X8_best_b119 n k31 k43 x1 x2 x3 σ10)
  else
  (if inB 3 33 = true then
  if inB 3 33 = true then
  if ((σ10 84 (3 : Int32).toNatClampNeg) - (σ10 82 (3 : Int32).toNatClampNeg)) ≤ (σ10 77 24) then
  (f_X8_best_b119 n k31 k43 x1 x2 x3 σ10)
  else
  (if inB 3 33 = true then
  if inB 3 33 = true then
  (f_X8_keepRow n ((σ10 84 (3 : Int32).toNatClampNeg) - (σ10 82 (3 : Int32).toNatClampNeg)) x2 σ10).bind fun σ14 =>
  f_X8_best_b119 n k31 k43 x1 x2 x3 σ14
  else none
  else none)
  else none
  else none))
  else
  (f_X8_best_b119 n k31 k43 x1 x2 x3 σ4))
def f_X8_best_l43 (n : Nat) (k31 : Int32 → Int32 → Mem → Option (Int32 × Mem)) : Nat → Int32 → Int32 → Int32 → Mem → Option (Int32 × Mem)
  | 0 => fun _ _ _ _ => none
  | f + 1 => f_X8_best_b43 n k31 (f_X8_best_l43 n k31 f)
def f_X8_best_b31 (n : Nat) (k31 : Int32 → Int32 → Mem → Option (Int32 × Mem)) (x1 : Int32) (x2 : Int32) (σ : Mem) : Option (Int32 × Mem) :=
  if inB 4 33 = true then
  if (σ 82 (4 : Int32).toNatClampNeg) < x2 then
  (if x1 = (-1) then
  (some (σ 77 24, σ))
  else
  (if x1 = (-2) then
  (some (σ 77 25, σ))
  else
  (if (σ 77 25) ≤ x1 then
  (some ((-1000000), σ))
  else
  (if inB x1 6 = true then
  some (σ 91 x1.toNatClampNeg, σ)
  else none))))
  else
  (f_X8_best_l43 n k31 n x1 x2 0 σ)
  else none
def f_X8_best_l31 (n : Nat) : Nat → Int32 → Int32 → Mem → Option (Int32 × Mem)
  | 0 => fun _ _ _ => none
  | f + 1 => f_X8_best_b31 n (f_X8_best_l31 n f)
def f_X8_best (n : Nat) (x1 : Int32) (σ : Mem) : Option (Int32 × Mem) :=
  (f_X8_isTown σ).bind fun y1 =>
  if y1 = 0 then
  (some ((-1000002), σ))
  else
  ((f_X8_in σ x1 (-2) 5).bind fun y3 =>
  if y3 = 0 then
  (some ((-1000001), σ))
  else
  ((f_X8_keepRow n 0 0 σ).bind fun σ6 =>
  f_X8_best_l31 n n x1 1 σ6))

def f_X8_soonest_b131 (n : Nat) (k65 : Int32 → Int32 → Int32 → Int32 → Int32 → Mem → Option (Int32 × Mem)) (x2 : Int32) (x3 : Int32) (x4 : Int32) (x5 : Int32) (x6 : Int32) (σ : Mem) : Option (Int32 × Mem) :=
  k65 x2 x3 x4 x5 (x6 + 1) σ
def f_X8_soonest_b65 (n : Nat) (k65 : Int32 → Int32 → Int32 → Int32 → Int32 → Mem → Option (Int32 × Mem)) (x2 : Int32) (x3 : Int32) (x4 : Int32) (x5 : Int32) (x6 : Int32) (σ : Mem) : Option (Int32 × Mem) :=
  (f_X8_rowsOf n σ x4).bind fun y1 =>
  if y1 ≤ x6 then
  (if x5 = 9999 then
  (some ((-1000000), σ))
  else
  (if x2 = (-1) then
  (some (x5, σ))
  else
  (if x4 ≤ x2 then
  (some ((-1000000), σ))
  else
  (if inB x2 6 = true then
  some (σ 91 x2.toNatClampNeg, σ)
  else none))))
  else
  ((f_X8_layRow n x6 x4 σ).bind fun (y6, σ7) =>
  if y6 = x3 then
  ((f_X8_begin n σ7).bind fun σ10 =>
  (f_X8_goesOn n 90 x4 σ10).bind fun (y11, σ12) =>
  if y11 = 0 then
  (f_X8_soonest_b131 n k65 x2 x3 x4 x5 x6 σ12)
  else
  (if inB 1 33 = true then
  if x5 ≤ (σ12 84 (1 : Int32).toNatClampNeg) then
  (f_X8_soonest_b131 n k65 x2 x3 x4 x5 x6 σ12)
  else
  (if inB 1 33 = true then
  (some (σ12 84 (1 : Int32).toNatClampNeg : Int32)).bind fun y15 =>
  (f_X8_keepRow n 0 x4 σ12).bind fun σ17 =>
  f_X8_soonest_b131 n k65 x2 x3 x4 y15 x6 σ17
  else none)
  else none))
  else
  (f_X8_soonest_b131 n k65 x2 x3 x4 x5 x6 σ7))
def f_X8_soonest_l65 (n : Nat) : Nat → Int32 → Int32 → Int32 → Int32 → Int32 → Mem → Option (Int32 × Mem)
  | 0 => fun _ _ _ _ _ _ => none
  | f + 1 => f_X8_soonest_b65 n (f_X8_soonest_l65 n f)
def f_X8_soonest (n : Nat) (x1 : Int32) (x2 : Int32) (σ : Mem) : Option (Int32 × Mem) :=
  (f_X8_isTown σ).bind fun y1 =>
  if y1 = 0 then
  (some ((-1000002), σ))
  else
  (if inB 4 33 = true then
  (f_X8_in σ x1 0 ((1 <<< ((σ 82 (4 : Int32).toNatClampNeg) &&& 31)) - 1)).bind fun y3 =>
  if y3 = 0 then
  (some ((-1000001), σ))
  else
  ((f_X8_in σ x2 (-1) 5).bind fun y5 =>
  if y5 = 0 then
  (some ((-1000001), σ))
  else
  (if inB 2 33 = true then
  (some (x1 &&& ((σ 82 (2 : Int32).toNatClampNeg) ^^^ (-1)) : Int32)).bind fun y7 =>
  (f_X8_bits n σ y7).bind fun y8 =>
  f_X8_soonest_l65 n n x2 y7 y8 9999 0 σ
  else none))
  else none)

def f_X8_laySets_b150 (n : Nat) (k2 : Int32 → Mem → Option Mem) (x1 : Int32) (σ : Mem) : Option Mem :=
  k2 (x1 + 1) σ
def f_X8_laySets_b144 (n : Nat) (k2 : Int32 → Mem → Option Mem) (k36 : Int32 → Int32 → Int32 → Mem → Option Mem) (x1 : Int32) (x2 : Int32) (x3 : Int32) (σ : Mem) : Option Mem :=
  k36 x1 x2 (x3 + 1) σ
def f_X8_laySets_b143 (n : Nat) (k2 : Int32 → Mem → Option Mem) (k36 : Int32 → Int32 → Int32 → Mem → Option Mem) (x1 : Int32) (x2 : Int32) (x3 : Int32) (s0 : Int32) (s1 : Int32) (σ : Mem) : Option Mem :=
  if inB s1 64 = true then
  (some (mset σ 92 s1.toNatClampNeg s0)).bind fun σ1 =>
  f_X8_laySets_b144 n k2 k36 x1 x2 x3 σ1
  else none
def f_X8_laySets_b137 (n : Nat) (k2 : Int32 → Mem → Option Mem) (k36 : Int32 → Int32 → Int32 → Mem → Option Mem) (x1 : Int32) (x2 : Int32) (x3 : Int32) (s0 : Int32) (σ : Mem) : Option Mem :=
  if inB x1 64 = true then
  f_X8_laySets_b143 n k2 k36 x1 x2 x3 (σ 92 x1.toNatClampNeg) s0 σ
  else none
def f_X8_laySets_b36 (n : Nat) (k2 : Int32 → Mem → Option Mem) (k36 : Int32 → Int32 → Int32 → Mem → Option Mem) (x1 : Int32) (x2 : Int32) (x3 : Int32) (σ : Mem) : Option Mem :=
  (f_X8_rowsOf n σ x2).bind fun y1 =>
  if y1 ≤ x3 then
  (f_X8_laySets_b150 n k2 x1 σ)
  else
  (if x2 ≤ 0 then
  (f_X8_laySets_b150 n k2 x1 σ)
  else
  ((f_X8_layRow n x3 x2 σ).bind fun (y4, σ5) =>
  if y4 = x1 then
  ((f_X8_begin n σ5).bind fun σ8 =>
  if inB 5 33 = true then
  if inB 0 33 = true then
  (some (mset σ8 84 (0 : Int32).toNatClampNeg (σ8 84 (5 : Int32).toNatClampNeg))).bind fun σ9 =>
  if inB 1 33 = true then
  (some (mset σ9 84 (1 : Int32).toNatClampNeg 0)).bind fun σ10 =>
  if inB 2 33 = true then
  (some (mset σ10 84 (2 : Int32).toNatClampNeg 0)).bind fun σ11 =>
  if inB 3 33 = true then
  (some (mset σ11 84 (3 : Int32).toNatClampNeg 0)).bind fun σ12 =>
  (f_X8_goesOn n 90 x2 σ12).bind fun (y13, σ14) =>
  if y13 = 0 then
  (f_X8_laySets_b137 n k2 k36 x1 x2 x3 x1 σ14)
  else
  (if inB 3 33 = true then
  if inB x1 64 = true then
  if (σ14 84 (3 : Int32).toNatClampNeg) ≤ (σ14 92 x1.toNatClampNeg) then
  (f_X8_laySets_b137 n k2 k36 x1 x2 x3 x1 σ14)
  else
  (if inB 3 33 = true then
  f_X8_laySets_b143 n k2 k36 x1 x2 x3 (σ14 84 (3 : Int32).toNatClampNeg) x1 σ14
  else none)
  else none
  else none)
  else none
  else none
  else none
  else none
  else none)
  else
  (f_X8_laySets_b144 n k2 k36 x1 x2 x3 σ5)))
def f_X8_laySets_l36 (n : Nat) (k2 : Int32 → Mem → Option Mem) : Nat → Int32 → Int32 → Int32 → Mem → Option Mem
  | 0 => fun _ _ _ _ => none
  | f + 1 => f_X8_laySets_b36 n k2 (f_X8_laySets_l36 n k2 f)
def f_X8_laySets_b33 (n : Nat) (k2 : Int32 → Mem → Option Mem) (x1 : Int32) (x2 : Int32) (s0 : Int32) (s1 : Int32) (σ : Mem) : Option Mem :=
  if inB s1 64 = true then
  (some (mset σ 92 s1.toNatClampNeg s0)).bind fun σ1 =>
  f_X8_laySets_l36 n k2 n x1 x2 0 σ1
  else none
def f_X8_laySets_b2 (n : Nat) (k2 : Int32 → Mem → Option Mem) (x1 : Int32) (σ : Mem) : Option Mem :=
  if inB 4 33 = true then
  if (1 <<< ((σ 82 (4 : Int32).toNatClampNeg) &&& 31)) ≤ x1 then
  (some σ)
  else
  ((f_X8_bits n σ x1).bind fun y2 =>
  if x1 = 0 then
  (f_X8_laySets_b33 n k2 x1 y2 0 x1 σ)
  else
  (f_X8_laySets_b33 n k2 x1 y2 (-1) x1 σ))
  else none
def f_X8_laySets_l2 (n : Nat) : Nat → Int32 → Mem → Option Mem
  | 0 => fun _ _ => none
  | f + 1 => f_X8_laySets_b2 n (f_X8_laySets_l2 n f)
def f_X8_laySets (n : Nat) (σ : Mem) : Option Mem :=
  f_X8_laySets_l2 n n 0 σ

def f_X8_earnedBy_b159 (n : Nat) (k76 : Int32 → Int32 → Int32 → Mem → Option (Int32 × Mem)) (x2 : Int32) (x5 : Int32) (s0 : Int32) (σ : Mem) : Option (Int32 × Mem) :=
  k76 x2 s0 (x5 + 1) σ
def f_X8_earnedBy_b145 (n : Nat) (k76 : Int32 → Int32 → Int32 → Mem → Option (Int32 × Mem)) (x2 : Int32) (x5 : Int32) (σ : Mem) : Option (Int32 × Mem) :=
  f_X8_earnedBy_b159 n k76 x2 x5 (-1) σ
def f_X8_earnedBy_b121 (n : Nat) (k76 : Int32 → Int32 → Int32 → Mem → Option (Int32 × Mem)) (k88 : Int32 → Int32 → Int32 → Int32 → Int32 → Mem → Option (Int32 × Mem)) (x2 : Int32) (x4 : Int32) (x5 : Int32) (x7 : Int32) (s0 : Int32) (s1 : Int32) (σ : Mem) : Option (Int32 × Mem) :=
  (some (s1 ||| s0 : Int32)).bind fun y1 =>
  k88 x2 x4 x5 y1 (x7 + 1) σ
def f_X8_earnedBy_b88 (n : Nat) (k76 : Int32 → Int32 → Int32 → Mem → Option (Int32 × Mem)) (k88 : Int32 → Int32 → Int32 → Int32 → Int32 → Mem → Option (Int32 × Mem)) (x2 : Int32) (x4 : Int32) (x5 : Int32) (x6 : Int32) (x7 : Int32) (σ : Mem) : Option (Int32 × Mem) :=
  if inB 4 33 = true then
  if (σ 82 (4 : Int32).toNatClampNeg) ≤ x7 then
  (if x4 < 0 then
  (f_X8_earnedBy_b145 n k76 x2 x5 σ)
  else
  (if inB x6 64 = true then
  if 0 ≤ (σ 92 x6.toNatClampNeg) then
  (if inB x6 64 = true then
  f_X8_earnedBy_b159 n k76 x2 x5 (x4 + (σ 92 x6.toNatClampNeg)) σ
  else none)
  else
  (f_X8_earnedBy_b145 n k76 x2 x5 σ)
  else none))
  else
  (if inB x7 6 = true then
  if (σ 93 x7.toNatClampNeg) = x5 then
  (f_X8_earnedBy_b121 n k76 k88 x2 x4 x5 x7 (1 <<< (x7 &&& 31)) x6 σ)
  else
  (f_X8_earnedBy_b121 n k76 k88 x2 x4 x5 x7 0 x6 σ)
  else none)
  else none
def f_X8_earnedBy_l88 (n : Nat) (k76 : Int32 → Int32 → Int32 → Mem → Option (Int32 × Mem)) : Nat → Int32 → Int32 → Int32 → Int32 → Int32 → Mem → Option (Int32 × Mem)
  | 0 => fun _ _ _ _ _ _ => none
  | f + 1 => f_X8_earnedBy_b88 n k76 (f_X8_earnedBy_l88 n k76 f)
def f_X8_earnedBy_b76 (n : Nat) (k76 : Int32 → Int32 → Int32 → Mem → Option (Int32 × Mem)) (x2 : Int32) (x4 : Int32) (x5 : Int32) (σ : Mem) : Option (Int32 × Mem) :=
  if x2 ≤ x5 then
  (some (x4, σ))
  else
  (f_X8_earnedBy_l88 n k76 n x2 x4 x5 0 0 σ)
def f_X8_earnedBy_l76 (n : Nat) : Nat → Int32 → Int32 → Int32 → Mem → Option (Int32 × Mem)
  | 0 => fun _ _ _ _ => none
  | f + 1 => f_X8_earnedBy_b76 n (f_X8_earnedBy_l76 n f)
def f_X8_earnedBy_b57 (n : Nat) (k12 : Int32 → Int32 → Int32 → Mem → Option (Int32 × Mem)) (x2 : Int32) (x3 : Int32) (x4 : Int32) (s0 : Int32) (s1 : Int32) (σ : Mem) : Option (Int32 × Mem) :=
  if inB s1 6 = true then
  (some (mset σ 93 s1.toNatClampNeg s0)).bind fun σ1 =>
  if x2 + 1 = 0 then none else
  (some (x3 / (x2 + 1) : Int32)).bind fun y3 =>
  k12 x2 y3 (x4 + (-1)) σ1
  else none
def f_X8_earnedBy_b12 (n : Nat) (k12 : Int32 → Int32 → Int32 → Mem → Option (Int32 × Mem)) (x2 : Int32) (x3 : Int32) (x4 : Int32) (σ : Mem) : Option (Int32 × Mem) :=
  if x4 < 0 then
  (f_X8_earnedBy_l76 n n x2 0 0 σ)
  else
  ((some (x2 + 1 : Int32)).bind fun y2 =>
  if y2 = 0 then none else
  if inB x4 6 = true then
  (some (mset σ 93 x4.toNatClampNeg (x3 - x3 / y2 * y2))).bind fun σ4 =>
  if inB x4 6 = true then
  if (σ4 93 x4.toNatClampNeg) = x2 then
  (f_X8_earnedBy_b57 n k12 x2 x3 x4 3 x4 σ4)
  else
  (if inB x4 6 = true then
  f_X8_earnedBy_b57 n k12 x2 x3 x4 (σ4 93 x4.toNatClampNeg) x4 σ4
  else none)
  else none
  else none)
def f_X8_earnedBy_l12 (n : Nat) : Nat → Int32 → Int32 → Int32 → Mem → Option (Int32 × Mem)
  | 0 => fun _ _ _ _ => none
  | f + 1 => f_X8_earnedBy_b12 n (f_X8_earnedBy_l12 n f)
def f_X8_earnedBy (n : Nat) (x1 : Int32) (x2 : Int32) (σ : Mem) : Option (Int32 × Mem) :=
  if inB 4 33 = true then
  (some ((σ 82 (4 : Int32).toNatClampNeg) - 1 : Int32)).bind fun y1 =>
  f_X8_earnedBy_l12 n n x2 x1 y1 σ
  else none

def f_X8_copies_b123 (n : Nat) (k77 : Int32 → Int32 → Int32 → Int32 → Int32 → Int32 → Int32 → Mem → Option (Int32 × Mem)) (x1 : Int32) (x2 : Int32) (x3 : Int32) (x4 : Int32) (x5 : Int32) (x7 : Int32) (s0 : Int32) (σ : Mem) : Option (Int32 × Mem) :=
  k77 x1 x2 x3 x4 x5 s0 (x7 + 1) σ
def f_X8_copies_b107 (n : Nat) (k77 : Int32 → Int32 → Int32 → Int32 → Int32 → Int32 → Int32 → Mem → Option (Int32 × Mem)) (x1 : Int32) (x2 : Int32) (x3 : Int32) (x4 : Int32) (x6 : Int32) (x7 : Int32) (x8 : Int32) (s0 : Int32) (σ : Mem) : Option (Int32 × Mem) :=
  if x8 ≤ x6 then
  (f_X8_copies_b123 n k77 x1 x2 x3 x4 s0 x7 x6 σ)
  else
  (f_X8_copies_b123 n k77 x1 x2 x3 x4 s0 x7 x8 σ)
def f_X8_copies_b77 (n : Nat) (k77 : Int32 → Int32 → Int32 → Int32 → Int32 → Int32 → Int32 → Mem → Option (Int32 × Mem)) (x1 : Int32) (x2 : Int32) (x3 : Int32) (x4 : Int32) (x5 : Int32) (x6 : Int32) (x7 : Int32) (σ : Mem) : Option (Int32 × Mem) :=
  if x4 ≤ x7 then
  (if x2 = (-1) then
  (if inB 6 33 = true then
  some ((1000 + x6) - (x1 * (σ 82 (6 : Int32).toNatClampNeg)), σ)
  else none)
  else
  ((f_X8_earnedBy n x5 x1 σ).bind fun (y3, σ4) =>
  if x3 ≤ x2 then
  (some ((-1000000), σ4))
  else
  (if inB x2 6 = true then
  some (σ4 93 x2.toNatClampNeg, σ4)
  else none)))
  else
  ((f_X8_earnedBy n x7 x1 σ).bind fun (y6, σ7) =>
  if y6 ≤ x6 then
  (f_X8_copies_b107 n k77 x1 x2 x3 x4 x6 x7 y6 x5 σ7)
  else
  (f_X8_copies_b107 n k77 x1 x2 x3 x4 x6 x7 y6 x7 σ7))
def f_X8_copies_l77 (n : Nat) : Nat → Int32 → Int32 → Int32 → Int32 → Int32 → Int32 → Int32 → Mem → Option (Int32 × Mem)
  | 0 => fun _ _ _ _ _ _ _ _ => none
  | f + 1 => f_X8_copies_b77 n (f_X8_copies_l77 n f)
def f_X8_copies_b48 (n : Nat) (k48 : Int32 → Int32 → Int32 → Int32 → Int32 → Mem → Option (Int32 × Mem)) (x1 : Int32) (x2 : Int32) (x3 : Int32) (x4 : Int32) (x5 : Int32) (σ : Mem) : Option (Int32 × Mem) :=
  if x3 ≤ x5 then
  (f_X8_copies_l77 n n x1 x2 x3 x4 (-1) (-1) 0 σ)
  else
  ((some (x4 * (x1 + 1) : Int32)).bind fun y2 =>
  k48 x1 x2 x3 y2 (x5 + 1) σ)
def f_X8_copies_l48 (n : Nat) : Nat → Int32 → Int32 → Int32 → Int32 → Int32 → Mem → Option (Int32 × Mem)
  | 0 => fun _ _ _ _ _ _ => none
  | f + 1 => f_X8_copies_b48 n (f_X8_copies_l48 n f)
def f_X8_copies (n : Nat) (x1 : Int32) (x2 : Int32) (σ : Mem) : Option (Int32 × Mem) :=
  (f_X8_isTown σ).bind fun y1 =>
  if y1 = 0 then
  (some ((-1000002), σ))
  else
  ((f_X8_in σ x1 1 3).bind fun y3 =>
  if y3 = 0 then
  (some ((-1000001), σ))
  else
  ((f_X8_in σ x2 (-1) 5).bind fun y5 =>
  if y5 = 0 then
  (some ((-1000001), σ))
  else
  ((f_X8_laySets n σ).bind fun σ8 =>
  if inB 4 33 = true then
  (some (σ8 82 (4 : Int32).toNatClampNeg : Int32)).bind fun y9 =>
  f_X8_copies_l48 n n x1 x2 y9 1 0 σ8
  else none)))

def f_X8_takeOut_b38 (n : Nat) (k38 : Int32 → Int32 → Int32 → Int32 → Mem → Option (Int32 × Mem)) (x1 : Int32) (x2 : Int32) (x3 : Int32) (x4 : Int32) (σ : Mem) : Option (Int32 × Mem) :=
  if x3 ≤ x4 then
  (some (0, σ))
  else
  (if inB (((40 * x1) + x2) + x4) 320 = true then
  if inB x4 6 = true then
  (some (mset σ 89 x4.toNatClampNeg (σ 80 (((40 * x1) + x2) + x4).toNatClampNeg))).bind fun σ2 =>
  k38 x1 x2 x3 (x4 + 1) σ2
  else none
  else none)
def f_X8_takeOut_l38 (n : Nat) : Nat → Int32 → Int32 → Int32 → Int32 → Mem → Option (Int32 × Mem)
  | 0 => fun _ _ _ _ _ => none
  | f + 1 => f_X8_takeOut_b38 n (f_X8_takeOut_l38 n f)
def f_X8_takeOut (n : Nat) (x1 : Int32) (x2 : Int32) (x3 : Int32) (σ : Mem) : Option (Int32 × Mem) :=
  if inB x1 8 = true then
  if 0 ≤ (σ 78 x1.toNatClampNeg) then
  (if inB x1 8 = true then
  (f_X8_isPart σ x2 x3 (σ 79 x1.toNatClampNeg)).bind fun y2 =>
  if y2 = 0 then
  ((f_X8_finds 2 σ).bind fun (y4, σ5) =>
  some (y4, σ5))
  else
  (f_X8_takeOut_l38 n n x1 x2 x3 0 σ)
  else none)
  else
  ((f_X8_finds 1 σ).bind fun (y6, σ7) =>
  some (y6, σ7))
  else none

def f_X8_isSo (n : Nat) (x1 : Int32) (x2 : Int32) (σ : Mem) : Option (Int32 × Mem) :=
  if inB 3 33 = true then
  (some (σ 84 (3 : Int32).toNatClampNeg : Int32)).bind fun y1 =>
  (f_X8_goesOn n 89 x1 σ).bind fun (y2, σ3) =>
  if y2 = 0 then
  (some (0, σ3))
  else
  (if inB 3 33 = true then
  if ((σ3 84 (3 : Int32).toNatClampNeg) - y1) = x2 then
  (some (1, σ3))
  else
  (some (0, σ3))
  else none)
  else none

def f_X8_fits_b158 (n : Nat) (k84 : Int32 → Int32 → Int32 → Int32 → Int32 → Int32 → Mem → Option (Int32 × Mem)) (x1 : Int32) (x4 : Int32) (x5 : Int32) (x6 : Int32) (x9 : Int32) (s0 : Int32) (s1 : Int32) (σ : Mem) : Option (Int32 × Mem) :=
  (some (s1 ||| s0 : Int32)).bind fun y1 =>
  k84 x1 x4 x5 x6 y1 (x9 + 1) σ
def f_X8_fits_b132 (n : Nat) (k84 : Int32 → Int32 → Int32 → Int32 → Int32 → Int32 → Mem → Option (Int32 × Mem)) (x1 : Int32) (x4 : Int32) (x5 : Int32) (x6 : Int32) (x8 : Int32) (x9 : Int32) (s0 : Int32) (σ : Mem) : Option (Int32 × Mem) :=
  if inB (s0 + x1) 33 = true then
  (some (mset σ 84 (s0 + x1).toNatClampNeg x9)).bind fun σ1 =>
  (f_X8_isSo n x4 x5 σ1).bind fun (y2, σ3) =>
  if y2 = 0 then
  (f_X8_fits_b158 n k84 x1 x4 x5 x6 x9 0 x8 σ3)
  else
  (f_X8_fits_b158 n k84 x1 x4 x5 x6 x9 (1 <<< (x9 &&& 31)) x8 σ3)
  else none
def f_X8_fits_b98 (n : Nat) (k84 : Int32 → Int32 → Int32 → Int32 → Int32 → Int32 → Mem → Option (Int32 × Mem)) (x1 : Int32) (x4 : Int32) (x5 : Int32) (x6 : Int32) (x8 : Int32) (x9 : Int32) (s0 : Int32) (s1 : Int32) (σ : Mem) : Option (Int32 × Mem) :=
  if s0 ≤ s1 then
  ((f_X8_done x8 σ).bind fun (y2, σ3) =>
  some (y2, σ3))
  else
  ((f_X8_begin n σ).bind fun σ5 =>
  if x6 = 0 then
  (f_X8_fits_b132 n k84 x1 x4 x5 x6 x8 x9 9 σ5)
  else
  (if x6 = 1 then
  (f_X8_fits_b132 n k84 x1 x4 x5 x6 x8 x9 27 σ5)
  else
  (f_X8_fits_b132 n k84 x1 x4 x5 x6 x8 x9 15 σ5)))
def f_X8_fits_b84 (n : Nat) (k84 : Int32 → Int32 → Int32 → Int32 → Int32 → Int32 → Mem → Option (Int32 × Mem)) (x1 : Int32) (x4 : Int32) (x5 : Int32) (x6 : Int32) (x8 : Int32) (x9 : Int32) (σ : Mem) : Option (Int32 × Mem) :=
  if x6 = 0 then
  (f_X8_fits_b98 n k84 x1 x4 x5 x6 x8 x9 6 x9 σ)
  else
  (f_X8_fits_b98 n k84 x1 x4 x5 x6 x8 x9 10 x9 σ)
def f_X8_fits_l84 (n : Nat) : Nat → Int32 → Int32 → Int32 → Int32 → Int32 → Int32 → Mem → Option (Int32 × Mem)
  | 0 => fun _ _ _ _ _ _ _ => none
  | f + 1 => f_X8_fits_b84 n (f_X8_fits_l84 n f)
def f_X8_fits_b82 (n : Nat) (x1 : Int32) (x4 : Int32) (x5 : Int32) (x6 : Int32) (x8 : Int32) (s0 : Int32) (σ : Mem) : Option (Int32 × Mem) :=
  f_X8_fits_l84 n n x1 x4 x5 x6 x8 s0 σ
def f_X8_fits (n : Nat) (x1 : Int32) (x2 : Int32) (x3 : Int32) (x4 : Int32) (x5 : Int32) (x6 : Int32) (σ : Mem) : Option (Int32 × Mem) :=
  (f_X8_isOne σ x1).bind fun y1 =>
  if y1 = 0 then
  (some ((-1000001), σ))
  else
  ((f_X8_isRow σ x2).bind fun y3 =>
  if y3 = 0 then
  (some ((-1000001), σ))
  else
  ((f_X8_in σ x4 1 6).bind fun y5 =>
  if y5 = 0 then
  (some ((-1000001), σ))
  else
  ((f_X8_in σ x5 0 999).bind fun y7 =>
  if y7 = 0 then
  (some ((-1000001), σ))
  else
  ((f_X8_in σ x6 0 2).bind fun y9 =>
  if y9 = 0 then
  (some ((-1000001), σ))
  else
  ((f_X8_takeOut n x2 x3 x4 σ).bind fun (y11, σ12) =>
  if 0 ≤ y11 then
  (if x6 = 0 then
  (f_X8_fits_b82 n x1 x4 x5 x6 0 1 σ12)
  else
  (f_X8_fits_b82 n x1 x4 x5 x6 0 0 σ12))
  else
  (some (y11, σ12)))))))

def f_X8_lost_b261 (n : Nat) (x11 : Int32) (s0 : Int32) (σ : Mem) : Option (Int32 × Mem) :=
  if x11 = 0 then none else
  (f_X8_done (s0 / x11) σ).bind fun (y2, σ3) =>
  some (y2, σ3)
def f_X8_lost_b225 (n : Nat) (k225 : Int32 → Int32 → Int32 → Int32 → Int32 → Mem → Option (Int32 × Mem)) (x6 : Int32) (x9 : Int32) (x10 : Int32) (x11 : Int32) (x12 : Int32) (σ : Mem) : Option (Int32 × Mem) :=
  if x12 ≤ 0 then
  (if x6 = 0 then
  (f_X8_lost_b261 n x11 x9 σ)
  else
  (f_X8_lost_b261 n x11 x10 σ))
  else
  (if x12 = 0 then none else
  (some (x11 - x11 / x12 * x12 : Int32)).bind fun y4 =>
  k225 x6 x9 x10 x12 y4 σ)
def f_X8_lost_l225 (n : Nat) : Nat → Int32 → Int32 → Int32 → Int32 → Int32 → Mem → Option (Int32 × Mem)
  | 0 => fun _ _ _ _ _ _ => none
  | f + 1 => f_X8_lost_b225 n (f_X8_lost_l225 n f)
def f_X8_lost_b187 (n : Nat) (k187 : Int32 → Int32 → Int32 → Int32 → Int32 → Int32 → Mem → Option (Int32 × Mem)) (x4 : Int32) (x6 : Int32) (x8 : Int32) (x9 : Int32) (x10 : Int32) (x11 : Int32) (σ : Mem) : Option (Int32 × Mem) :=
  if x8 ≤ x11 then
  (f_X8_lost_l225 n n x6 x9 x10 x9 x10 σ)
  else
  ((some (x9 * (10 - x4) : Int32)).bind fun y2 =>
  (some (x10 * 10 : Int32)).bind fun y3 =>
  k187 x4 x6 x8 y2 y3 (x11 + 1) σ)
def f_X8_lost_l187 (n : Nat) : Nat → Int32 → Int32 → Int32 → Int32 → Int32 → Int32 → Mem → Option (Int32 × Mem)
  | 0 => fun _ _ _ _ _ _ _ => none
  | f + 1 => f_X8_lost_b187 n (f_X8_lost_l187 n f)
def f_X8_lost_b179 (n : Nat) (x4 : Int32) (x6 : Int32) (x8 : Int32) (s0 : Int32) (σ : Mem) : Option (Int32 × Mem) :=
  f_X8_lost_l187 n n x4 x6 x8 s0 1 0 σ
def f_X8_lost_b167 (n : Nat) (x4 : Int32) (x6 : Int32) (s0 : Int32) (σ : Mem) : Option (Int32 × Mem) :=
  if 0 ≤ s0 then
  (f_X8_lost_b179 n x4 x6 s0 1 σ)
  else
  (f_X8_lost_b179 n x4 x6 s0 0 σ)
def f_X8_lost_b137 (n : Nat) (k86 : Int32 → Int32 → Int32 → Int32 → Int32 → Int32 → Mem → Option (Int32 × Mem)) (x3 : Int32) (x4 : Int32) (x5 : Int32) (x6 : Int32) (x9 : Int32) (s0 : Int32) (σ : Mem) : Option (Int32 × Mem) :=
  k86 x3 x4 x5 x6 s0 (x9 + (-1)) σ
def f_X8_lost_b135 (n : Nat) (k86 : Int32 → Int32 → Int32 → Int32 → Int32 → Int32 → Mem → Option (Int32 × Mem)) (x3 : Int32) (x4 : Int32) (x5 : Int32) (x6 : Int32) (x8 : Int32) (x9 : Int32) (σ : Mem) : Option (Int32 × Mem) :=
  f_X8_lost_b137 n k86 x3 x4 x5 x6 x9 x8 σ
def f_X8_lost_b86 (n : Nat) (k86 : Int32 → Int32 → Int32 → Int32 → Int32 → Int32 → Mem → Option (Int32 × Mem)) (x3 : Int32) (x4 : Int32) (x5 : Int32) (x6 : Int32) (x8 : Int32) (x9 : Int32) (σ : Mem) : Option (Int32 × Mem) :=
  if x9 < 0 then
  ((f_X8_begin n σ).bind fun σ3 =>
  (f_X8_goesOn n 89 x3 σ3).bind fun (y4, σ5) =>
  if y4 = 0 then
  (f_X8_lost_b167 n x4 x6 (-1) σ5)
  else
  (f_X8_lost_b167 n x4 x6 x8 σ5))
  else
  ((f_X8_begin n σ).bind fun σ8 =>
  (f_X8_goesOn n 89 x9 σ8).bind fun (y9, σ10) =>
  if y9 = 0 then
  (f_X8_lost_b135 n k86 x3 x4 x5 x6 x8 x9 σ10)
  else
  (if inB 3 33 = true then
  if inB 3 33 = true then
  if ((σ10 84 (3 : Int32).toNatClampNeg) - (σ10 82 (3 : Int32).toNatClampNeg)) < x5 then
  (f_X8_lost_b135 n k86 x3 x4 x5 x6 x8 x9 σ10)
  else
  (f_X8_lost_b137 n k86 x3 x4 x5 x6 x9 x9 σ10)
  else none
  else none))
def f_X8_lost_l86 (n : Nat) : Nat → Int32 → Int32 → Int32 → Int32 → Int32 → Int32 → Mem → Option (Int32 × Mem)
  | 0 => fun _ _ _ _ _ _ _ => none
  | f + 1 => f_X8_lost_b86 n (f_X8_lost_l86 n f)
def f_X8_lost (n : Nat) (x1 : Int32) (x2 : Int32) (x3 : Int32) (x4 : Int32) (x5 : Int32) (x6 : Int32) (σ : Mem) : Option (Int32 × Mem) :=
  (f_X8_isTown σ).bind fun y1 =>
  if y1 = 0 then
  (some ((-1000002), σ))
  else
  ((f_X8_isRow σ x1).bind fun y3 =>
  if y3 = 0 then
  (some ((-1000001), σ))
  else
  ((f_X8_in σ x3 1 6).bind fun y5 =>
  if y5 = 0 then
  (some ((-1000001), σ))
  else
  ((f_X8_in σ x4 0 10).bind fun y7 =>
  if y7 = 0 then
  (some ((-1000001), σ))
  else
  ((f_X8_in σ x5 0 999).bind fun y9 =>
  if y9 = 0 then
  (some ((-1000001), σ))
  else
  ((f_X8_in σ x6 0 1).bind fun y11 =>
  if y11 = 0 then
  (some ((-1000001), σ))
  else
  ((f_X8_takeOut n x1 x2 x3 σ).bind fun (y13, σ14) =>
  if 0 ≤ y13 then
  (f_X8_lost_l86 n n x3 x4 x5 x6 (-1) x3 σ14)
  else
  (some (y13, σ14))))))))

def f_X8_drawn_b132 (n : Nat) (k53 : Int32 → Int32 → Int64 → Int32 → Mem → Option (Int32 × Mem)) (x1 : Int32) (x3 : Int32) (x4 : Int64) (x6 : Int32) (σ : Mem) : Option (Int32 × Mem) :=
  k53 x1 x3 x4 (x6 + 1) σ
def f_X8_drawn_b95 (n : Nat) (k53 : Int32 → Int32 → Int64 → Int32 → Mem → Option (Int32 × Mem)) (x1 : Int32) (x3 : Int32) (x4 : Int64) (x6 : Int32) (s0 : Int32) (σ : Mem) : Option (Int32 × Mem) :=
  (f_X8_canBe σ 84 s0).bind fun y1 =>
  if y1 = 0 then
  (if inB 1 33 = true then
  if inB 1 33 = true then
  (some (mset σ 84 (1 : Int32).toNatClampNeg ((σ 84 (1 : Int32).toNatClampNeg) + 1))).bind fun σ3 =>
  f_X8_drawn_b132 n k53 x1 x3 x4 x6 σ3
  else none
  else none)
  else
  ((f_X8_gives n 84 s0 σ).bind fun (y4, σ5) =>
  f_X8_drawn_b132 n k53 x1 x3 x4 x6 σ5)
def f_X8_drawn_b53 (n : Nat) (k53 : Int32 → Int32 → Int64 → Int32 → Mem → Option (Int32 × Mem)) (x1 : Int32) (x3 : Int32) (x4 : Int64) (x6 : Int32) (σ : Mem) : Option (Int32 × Mem) :=
  if x1 ≤ x6 then
  (if x3 = 0 then
  (if inB 3 33 = true then
  some (σ 84 (3 : Int32).toNatClampNeg, σ)
  else none)
  else
  (if inB 2 33 = true then
  some (σ 84 (2 : Int32).toNatClampNeg, σ)
  else none))
  else
  ((some ((x4 * 16807) - (x4 * 16807) / 2147483647 * 2147483647 : Int64)).bind fun y3 =>
  if inB 4 33 = true then
  if (σ 82 (4 : Int32).toNatClampNeg) = 0 then
  (f_X8_drawn_b95 n k53 x1 x3 y3 x6 (-1) σ)
  else
  (if inB 4 33 = true then
  (some ((σ 82 (4 : Int32).toNatClampNeg).toInt64 : Int64)).bind fun y5 =>
  if y5 = 0 then none else
  f_X8_drawn_b95 n k53 x1 x3 y3 x6 ((y3 - y3 / y5 * y5).toInt32) σ
  else none)
  else none)
def f_X8_drawn_l53 (n : Nat) : Nat → Int32 → Int32 → Int64 → Int32 → Mem → Option (Int32 × Mem)
  | 0 => fun _ _ _ _ _ => none
  | f + 1 => f_X8_drawn_b53 n (f_X8_drawn_l53 n f)
def f_X8_drawn (n : Nat) (x1 : Int32) (x2 : Int32) (x3 : Int32) (σ : Mem) : Option (Int32 × Mem) :=
  (f_X8_isTown σ).bind fun y1 =>
  if y1 = 0 then
  (some ((-1000002), σ))
  else
  ((f_X8_in σ x1 0 60).bind fun y3 =>
  if y3 = 0 then
  (some ((-1000001), σ))
  else
  ((f_X8_in σ x2 1 999999).bind fun y5 =>
  if y5 = 0 then
  (some ((-1000001), σ))
  else
  ((f_X8_in σ x3 0 1).bind fun y7 =>
  if y7 = 0 then
  (some ((-1000001), σ))
  else
  ((f_X8_begin n σ).bind fun σ10 =>
  (some (x2.toInt64 : Int64)).bind fun y11 =>
  f_X8_drawn_l53 n n x1 x3 y11 0 σ10))))

def f_X8_image (n : Nat) (x1 : Int32) (σ : Mem) : Option (Int32 × Mem) :=
  (f_X8_in σ x1 0 1).bind fun y1 =>
  if y1 = 0 then
  (some ((-1000001), σ))
  else
  ((f_X8_isTown σ).bind fun y3 =>
  if y3 = 0 then
  (some ((-1000002), σ))
  else
  ((f_X8_lay n 82 0 85 (33 * x1) σ).bind fun σ6 =>
  if inB x1 2 = true then
  (some (mset σ6 86 x1.toNatClampNeg 1)).bind fun σ7 =>
  some (1, σ7)
  else none))

def f_X8_restore (n : Nat) (x1 : Int32) (σ : Mem) : Option (Int32 × Mem) :=
  (f_X8_in σ x1 0 1).bind fun y1 =>
  if y1 = 0 then
  (some ((-1000001), σ))
  else
  (if inB x1 2 = true then
  if (σ 86 x1.toNatClampNeg) = 0 then
  (some ((-1000002), σ))
  else
  ((f_X8_lay n 85 (33 * x1) 82 0 σ).bind fun σ5 =>
  (some (mset σ5 77 18 0)).bind fun σ6 =>
  some (1, σ6))
  else none)

def f_X8_kind (σ : Mem) (x1 : Int32) : Option Int32 :=
  (f_X8_isOne σ x1).bind fun y1 =>
  if y1 = 0 then
  (some (-1000001))
  else
  (if inB (9 + x1) 33 = true then
  some (σ 82 (9 + x1).toNatClampNeg)
  else none)

def f_X8_parentOf_b10 (σ : Mem) : Option Int32 :=
  some 0
def f_X8_parentOf (σ : Mem) (x0 : Int32) : Option Int32 :=
  if x0 = 1 then
  (f_X8_parentOf_b10 σ)
  else
  (if x0 = 4 then
  (f_X8_parentOf_b10 σ)
  else
  (if x0 = 5 then
  (some 4)
  else
  (some 1)))

def f_X8_as_b52 (x1 : Int32) (s0 : Int32) (σ : Mem) : Option (Int32 × Mem) :=
  if s0 = 0 then
  ((f_X8_finds 3 σ).bind fun (y2, σ3) =>
  some (y2, σ3))
  else
  ((f_X8_done x1 σ).bind fun (y4, σ5) =>
  some (y4, σ5))
def f_X8_as_b47 (x1 : Int32) (σ : Mem) : Option (Int32 × Mem) :=
  f_X8_as_b52 x1 1 σ
def f_X8_as (x1 : Int32) (x2 : Int32) (σ : Mem) : Option (Int32 × Mem) :=
  (f_X8_isOne σ x1).bind fun y1 =>
  if y1 = 0 then
  (some ((-1000001), σ))
  else
  ((f_X8_in σ x2 0 5).bind fun y3 =>
  if y3 = 0 then
  (some ((-1000001), σ))
  else
  (if inB (9 + x1) 33 = true then
  (some (σ 82 (9 + x1).toNatClampNeg : Int32)).bind fun y5 =>
  if x2 = 0 then
  (f_X8_as_b47 x1 σ)
  else
  (if y5 = x2 then
  (f_X8_as_b47 x1 σ)
  else
  ((f_X8_parentOf σ y5).bind fun y8 =>
  if y8 = x2 then
  (f_X8_as_b47 x1 σ)
  else
  (f_X8_as_b52 x1 0 σ)))
  else none))

def f_X8_begins (x1 : Int32) (σ : Mem) : Option Mem :=
  if 16 ≤ (σ 77 20) then
  (some σ)
  else
  (if inB (σ 77 20) 16 = true then
  (some (mset σ 88 (σ 77 20).toNatClampNeg x1)).bind fun σ2 =>
  (some (mset σ2 77 20 ((σ2 77 20) + 1))).bind fun σ3 =>
  some σ3
  else none)

def f_X8_markFresh (x1 : Int32) (σ : Mem) : Option (Int32 × Mem) :=
  (f_X8_begins 21 σ).bind fun σ2 =>
  (f_X8_begins 20 σ2).bind fun σ4 =>
  if inB (15 + x1) 33 = true then
  some (x1 + (σ4 82 (15 + x1).toNatClampNeg), σ4)
  else none

def f_X8_markNew (x1 : Int32) (σ : Mem) : Option (Int32 × Mem) :=
  if inB (9 + x1) 33 = true then
  (some (σ 82 (9 + x1).toNatClampNeg : Int32)).bind fun y1 =>
  if y1 = 2 then
  ((f_X8_begins 24 σ).bind fun σ11 =>
  (f_X8_markFresh x1 σ11).bind fun (y12, σ13) =>
  some (2 * y12, σ13))
  else
  (if y1 = 3 then
  ((f_X8_begins 22 σ).bind fun σ7 =>
  (f_X8_markFresh x1 σ7).bind fun (y8, σ9) =>
  some (y8 - 1000, σ9))
  else
  ((f_X8_markFresh x1 σ).bind fun (y4, σ5) =>
  some (y4, σ5)))
  else none

def f_X8_sizeOld (x1 : Int32) (σ : Mem) : Option (Int32 × Mem) :=
  (f_X8_begins 13 σ).bind fun σ2 =>
  (f_X8_begins 10 σ2).bind fun σ4 =>
  if inB (21 + x1) 33 = true then
  some ((σ4 82 (21 + x1).toNatClampNeg) - 100, σ4)
  else none

def f_X8_sizeOf_b51 (x1 : Int32) (x2 : Int32) (σ : Mem) : Option (Int32 × Mem) :=
  (f_X8_begins 11 σ).bind fun σ2 =>
  (f_X8_begins 10 σ2).bind fun σ4 =>
  if inB (21 + x1) 33 = true then
  (f_X8_markNew x1 σ4).bind fun (y5, σ6) =>
  (some ((σ4 82 (21 + x1).toNatClampNeg) + y5 : Int32)).bind fun y7 =>
  if x2 = 2 then
  (some (-y7, σ6))
  else
  (some (y7, σ6))
  else none
def f_X8_sizeOf (x1 : Int32) (σ : Mem) : Option (Int32 × Mem) :=
  if inB (9 + x1) 33 = true then
  (some (σ 82 (9 + x1).toNatClampNeg : Int32)).bind fun y1 =>
  if y1 = 5 then
  ((f_X8_begins 14 σ).bind fun σ10 =>
  (f_X8_sizeOld x1 σ10).bind fun (y11, σ12) =>
  some (2 * y11, σ12))
  else
  (if y1 = 4 then
  ((f_X8_sizeOld x1 σ).bind fun (y7, σ8) =>
  some (y7, σ8))
  else
  (if y1 = 2 then
  ((f_X8_begins 12 σ).bind fun σ6 =>
  f_X8_sizeOf_b51 x1 y1 σ6)
  else
  (f_X8_sizeOf_b51 x1 y1 σ)))
  else none

def f_X8_markOf (x1 : Int32) (σ : Mem) : Option (Int32 × Mem) :=
  if inB (9 + x1) 33 = true then
  if 4 ≤ (σ 82 (9 + x1).toNatClampNeg) then
  ((f_X8_begins 23 σ).bind fun σ3 =>
  (f_X8_begins 20 σ3).bind fun σ5 =>
  (f_X8_sizeOf x1 σ5).bind fun (y6, σ7) =>
  some (x1 - y6, σ7))
  else
  ((f_X8_markNew x1 σ).bind fun (y8, σ9) =>
  some (y8, σ9))
  else none

def f_X8_ask (x1 : Int32) (x2 : Int32) (σ : Mem) : Option (Int32 × Mem) :=
  (f_X8_isOne σ x1).bind fun y1 =>
  if y1 = 0 then
  (some ((-1000001), σ))
  else
  ((f_X8_in σ x2 0 1).bind fun y3 =>
  if y3 = 0 then
  (some ((-1000001), σ))
  else
  ((some (mset σ 77 20 0)).bind fun σ5 =>
  if x2 = 0 then
  ((f_X8_sizeOf x1 σ5).bind fun (y9, σ10) =>
  some (y9, σ10))
  else
  ((f_X8_markOf x1 σ5).bind fun (y7, σ8) =>
  some (y7, σ8))))

def f_X8_trace (σ : Mem) (x1 : Int32) : Option Int32 :=
  (f_X8_in σ x1 0 ((σ 77 20) - 1)).bind fun y1 =>
  if y1 = 0 then
  (some (-1000000))
  else
  (if inB x1 16 = true then
  some (σ 88 x1.toNatClampNeg)
  else none)

def f_X8_count_b25 (n : Nat) (σ : Mem) (k4 : Int32 → Int32 → Int32 → Option Int32) (x1 : Int32) (x3 : Int32) (s0 : Int32) (s1 : Int32) : Option Int32 :=
  (some (s1 + s0 : Int32)).bind fun y1 =>
  k4 x1 y1 (x3 + 1)
def f_X8_count_b4 (n : Nat) (σ : Mem) (k4 : Int32 → Int32 → Int32 → Option Int32) (x1 : Int32) (x2 : Int32) (x3 : Int32) : Option Int32 :=
  if 8 ≤ x3 then
  (if x1 = 0 then
  (some x2)
  else if x1 = 1 then
  (if inB 4 33 = true then
  some (σ 82 (4 : Int32).toNatClampNeg)
  else none)
  else if x1 = 2 then
  (if inB 1 33 = true then
  some (σ 82 (1 : Int32).toNatClampNeg)
  else none)
  else if x1 = 3 then
  (if inB 0 33 = true then
  some (σ 82 (0 : Int32).toNatClampNeg)
  else none)
  else if x1 = 4 then
  (if inB 2 33 = true then
  some (σ 82 (2 : Int32).toNatClampNeg)
  else none)
  else if x1 = 5 then
  (if inB 3 33 = true then
  some (σ 82 (3 : Int32).toNatClampNeg)
  else none)
  else if x1 = 6 then
  (some (σ 77 18))
  else if x1 = 7 then
  (some (σ 77 4))
  else 
  (some (-1000001)))
  else
  (if inB x3 8 = true then
  if 0 ≤ (σ 78 x3.toNatClampNeg) then
  (f_X8_count_b25 n σ k4 x1 x3 1 x2)
  else
  (f_X8_count_b25 n σ k4 x1 x3 0 x2)
  else none)
def f_X8_count_l4 (n : Nat) (σ : Mem) : Nat → Int32 → Int32 → Int32 → Option Int32
  | 0 => fun _ _ _ => none
  | f + 1 => f_X8_count_b4 n σ (f_X8_count_l4 n σ f)
def f_X8_count (n : Nat) (σ : Mem) (x1 : Int32) : Option Int32 :=
  f_X8_count_l4 n σ n x1 0 0

def f_X8_status (σ : Mem) : Option Int32 :=
  some (σ 77 3)
