def J_J13_bitCount_95d88 (a0 : Int64) : Int32 :=
  ((((((((((a0 - ((xlu a0 (1 : Int32)) &&& (6148914691236517205 : Int64))) &&& (3689348814741910323 : Int64)) + ((xlu (a0 - ((xlu a0 (1 : Int32)) &&& (6148914691236517205 : Int64))) (2 : Int32)) &&& (3689348814741910323 : Int64))) + (xlu (((a0 - ((xlu a0 (1 : Int32)) &&& (6148914691236517205 : Int64))) &&& (3689348814741910323 : Int64)) + ((xlu (a0 - ((xlu a0 (1 : Int32)) &&& (6148914691236517205 : Int64))) (2 : Int32)) &&& (3689348814741910323 : Int64))) (4 : Int32))) &&& (1085102592571150095 : Int64)) + (xlu (((((a0 - ((xlu a0 (1 : Int32)) &&& (6148914691236517205 : Int64))) &&& (3689348814741910323 : Int64)) + ((xlu (a0 - ((xlu a0 (1 : Int32)) &&& (6148914691236517205 : Int64))) (2 : Int32)) &&& (3689348814741910323 : Int64))) + (xlu (((a0 - ((xlu a0 (1 : Int32)) &&& (6148914691236517205 : Int64))) &&& (3689348814741910323 : Int64)) + ((xlu (a0 - ((xlu a0 (1 : Int32)) &&& (6148914691236517205 : Int64))) (2 : Int32)) &&& (3689348814741910323 : Int64))) (4 : Int32))) &&& (1085102592571150095 : Int64)) (8 : Int32))) + (xlu ((((((a0 - ((xlu a0 (1 : Int32)) &&& (6148914691236517205 : Int64))) &&& (3689348814741910323 : Int64)) + ((xlu (a0 - ((xlu a0 (1 : Int32)) &&& (6148914691236517205 : Int64))) (2 : Int32)) &&& (3689348814741910323 : Int64))) + (xlu (((a0 - ((xlu a0 (1 : Int32)) &&& (6148914691236517205 : Int64))) &&& (3689348814741910323 : Int64)) + ((xlu (a0 - ((xlu a0 (1 : Int32)) &&& (6148914691236517205 : Int64))) (2 : Int32)) &&& (3689348814741910323 : Int64))) (4 : Int32))) &&& (1085102592571150095 : Int64)) + (xlu (((((a0 - ((xlu a0 (1 : Int32)) &&& (6148914691236517205 : Int64))) &&& (3689348814741910323 : Int64)) + ((xlu (a0 - ((xlu a0 (1 : Int32)) &&& (6148914691236517205 : Int64))) (2 : Int32)) &&& (3689348814741910323 : Int64))) + (xlu (((a0 - ((xlu a0 (1 : Int32)) &&& (6148914691236517205 : Int64))) &&& (3689348814741910323 : Int64)) + ((xlu (a0 - ((xlu a0 (1 : Int32)) &&& (6148914691236517205 : Int64))) (2 : Int32)) &&& (3689348814741910323 : Int64))) (4 : Int32))) &&& (1085102592571150095 : Int64)) (8 : Int32))) (16 : Int32))) + (xlu (((((((a0 - ((xlu a0 (1 : Int32)) &&& (6148914691236517205 : Int64))) &&& (3689348814741910323 : Int64)) + ((xlu (a0 - ((xlu a0 (1 : Int32)) &&& (6148914691236517205 : Int64))) (2 : Int32)) &&& (3689348814741910323 : Int64))) + (xlu (((a0 - ((xlu a0 (1 : Int32)) &&& (6148914691236517205 : Int64))) &&& (3689348814741910323 : Int64)) + ((xlu (a0 - ((xlu a0 (1 : Int32)) &&& (6148914691236517205 : Int64))) (2 : Int32)) &&& (3689348814741910323 : Int64))) (4 : Int32))) &&& (1085102592571150095 : Int64)) + (xlu (((((a0 - ((xlu a0 (1 : Int32)) &&& (6148914691236517205 : Int64))) &&& (3689348814741910323 : Int64)) + ((xlu (a0 - ((xlu a0 (1 : Int32)) &&& (6148914691236517205 : Int64))) (2 : Int32)) &&& (3689348814741910323 : Int64))) + (xlu (((a0 - ((xlu a0 (1 : Int32)) &&& (6148914691236517205 : Int64))) &&& (3689348814741910323 : Int64)) + ((xlu (a0 - ((xlu a0 (1 : Int32)) &&& (6148914691236517205 : Int64))) (2 : Int32)) &&& (3689348814741910323 : Int64))) (4 : Int32))) &&& (1085102592571150095 : Int64)) (8 : Int32))) + (xlu ((((((a0 - ((xlu a0 (1 : Int32)) &&& (6148914691236517205 : Int64))) &&& (3689348814741910323 : Int64)) + ((xlu (a0 - ((xlu a0 (1 : Int32)) &&& (6148914691236517205 : Int64))) (2 : Int32)) &&& (3689348814741910323 : Int64))) + (xlu (((a0 - ((xlu a0 (1 : Int32)) &&& (6148914691236517205 : Int64))) &&& (3689348814741910323 : Int64)) + ((xlu (a0 - ((xlu a0 (1 : Int32)) &&& (6148914691236517205 : Int64))) (2 : Int32)) &&& (3689348814741910323 : Int64))) (4 : Int32))) &&& (1085102592571150095 : Int64)) + (xlu (((((a0 - ((xlu a0 (1 : Int32)) &&& (6148914691236517205 : Int64))) &&& (3689348814741910323 : Int64)) + ((xlu (a0 - ((xlu a0 (1 : Int32)) &&& (6148914691236517205 : Int64))) (2 : Int32)) &&& (3689348814741910323 : Int64))) + (xlu (((a0 - ((xlu a0 (1 : Int32)) &&& (6148914691236517205 : Int64))) &&& (3689348814741910323 : Int64)) + ((xlu (a0 - ((xlu a0 (1 : Int32)) &&& (6148914691236517205 : Int64))) (2 : Int32)) &&& (3689348814741910323 : Int64))) (4 : Int32))) &&& (1085102592571150095 : Int64)) (8 : Int32))) (16 : Int32))) (32 : Int32))).toInt32) &&& (127 : Int32))
def J_J7_fill_53178_5 : Nat → Nat → Int32 → Int32 → Int32 → xS2 → Option xS2
  | 0 => fun _ _ _ _ _ => none
  | f + 1 => fun l0 l1 l2 l3 σ =>
    if l3 ≤ l2 then
      some σ
    else
      xgd (xin l2 (xSH l0).2) <|
      J_J7_fill_53178_5 f l0 l1 (l2 + (1 : Int32)) l3 (yI σ l0 l2.toNatClampNeg l1)
def J_J7_fill_53178 (a0 : Nat) (a1 : Int32) (σ : xS2) : Option xS2 :=
  J_J7_fill_53178_5 xFU a0 a1 (0 : Int32) (Int32.ofNat (xSH a0).2) σ
def J_J7_fill_d0a16_6 : Nat → Nat → Int64 → Int32 → Int32 → xS2 → Option xS2
  | 0 => fun _ _ _ _ _ => none
  | f + 1 => fun l0 l1 l3 l4 σ =>
    if l4 ≤ l3 then
      some σ
    else
      xgd (xin l3 (xSH l0).2) <|
      J_J7_fill_d0a16_6 f l0 l1 (l3 + (1 : Int32)) l4 (yL σ l0 l3.toNatClampNeg l1)
def J_J7_fill_d0a16 (a0 : Nat) (a1 : Int64) (σ : xS2) : Option xS2 :=
  J_J7_fill_d0a16_6 xFU a0 a1 (0 : Int32) (Int32.ofNat (xSH a0).2) σ
def J_X0_place (a0 : Nat) (a1 : Int32) (a2 : Int32) (a3 : Int32) (σ : xS2) : Option xS2 :=
  some (yI (yI (yI σ a0 0 a1) a0 1 a2) a0 2 a3)
def J_X0_become (a0 : Nat) (a1 : Nat) (σ : xS2) : Option xS2 :=
  (J_X0_place a0 (σ.1 a1 0) (σ.1 a1 1) (σ.1 a1 2) σ).bind fun x1 =>
  some (yL x1 a0 3 (x1.2 a1 3))
def J_X0_hasLookedAt (a0 : Nat) (a1 : Int32) (σ : xS2) : Bool :=
  if (lg_cmp ((xlu (σ.2 a0 3) a1) &&& (1 : Int64)) (0 : Int64)) = 0 then
    false
  else
    true
def J_X3_isStone (a1 : Int32) (σ : xS2) : Option Bool :=
  if a1 < 0 then
    some false
  else
    if (36 : Int32) ≤ a1 then
      some false
    else
      xgd (xin ((36 : Int32) + a1) 194) <|
      if (σ.1 2 ((36 : Int32) + a1).toNatClampNeg) = (1 : Int32) then
        some true
      else
        some false
def J_X0_isOnNewStone (a0 : Nat) (σ : xS2) : Option Bool :=
  (J_X3_isStone (σ.1 a0 0) σ).bind fun x1 =>
  if (xb x1) = 0 then
    some false
  else
    if (xb (J_X0_hasLookedAt a0 (σ.1 a0 0) σ)) = 0 then
      some true
    else
      some false
def J_X0_lookAround (a0 : Nat) (σ : xS2) : Option (Bool × xS2) :=
  if (σ.1 a0 1) < (2 : Int32) then
    some (false, σ)
  else
    (J_X0_isOnNewStone a0 σ).bind fun x2 =>
    if (xb x2) = 0 then
      some (false, σ)
    else
      some (true, (yL (yI σ a0 1 ((σ.1 a0 1) - (2 : Int32))) a0 3 ((σ.2 a0 3) ||| (xls (1 : Int64) ((yI σ a0 1 ((σ.1 a0 1) - (2 : Int32))).1 a0 0)))))
def J_X3_neighbour (a0 : Int32) (a1 : Int32) : Int32 :=
  if a1 = (1 : Int32) then
    if a0 < (6 : Int32) then
      (-1 : Int32)
    else
      (a0 - (6 : Int32))
  else
  if a1 = (2 : Int32) then
    if (5 : Int32) ≤ (xrm a0 (6 : Int32)) then
      (-1 : Int32)
    else
      (a0 + (1 : Int32))
  else
  if a1 = (3 : Int32) then
    if (30 : Int32) ≤ a0 then
      (-1 : Int32)
    else
      (a0 + (6 : Int32))
  else
  if a1 = (4 : Int32) then
    if (xrm a0 (6 : Int32)) ≤ 0 then
      (-1 : Int32)
    else
      (a0 - (1 : Int32))
  else
  (-1 : Int32)
def J_X3_high (a1 : Int32) (σ : xS2) : Option Int32 :=
  if a1 < 0 then
    some (0 : Int32)
  else
    if (36 : Int32) ≤ a1 then
      some (0 : Int32)
    else
      xgd (xin a1 194) <|
      some (σ.1 2 a1.toNatClampNeg)
def J_X3_price (a1 : Int32) (a2 : Int32) (σ : xS2) : Option Int32 :=
  (J_X3_high a2 σ).bind fun x1 =>
  (J_X3_high a1 σ).bind fun x2 =>
  some ((((3 : Int32) + ((2 : Int32) * (xmax (0 : Int32) (x1 - x2)))) + (6 : Int32)) - (σ.1 2 192))
def J_X0_move (a0 : Nat) (a2 : Int32) (σ : xS2) : Option (Bool × xS2) :=
  if 0 ≤ (J_X3_neighbour (σ.1 a0 0) a2) then
    (J_X3_price (σ.1 a0 0) (J_X3_neighbour (σ.1 a0 0) a2) σ).bind fun x3 =>
    if x3 ≤ (σ.1 a0 1) then
      some (true, (yI (yI σ a0 1 ((σ.1 a0 1) - x3)) a0 0 (J_X3_neighbour (σ.1 a0 0) a2)))
    else
      some (false, σ)
  else
    some (false, σ)
def J_X3_isHollow_32 (k2 : Int32 → Int32 → xS2 → Option Bool) (l1 : Int32) (l2 : Int32) (σ : xS2) : Option Bool :=
  k2 l1 (l2 + (1 : Int32)) σ
def J_X3_isHollow_2 : Nat → Int32 → Int32 → xS2 → Option Bool
  | 0 => fun _ _ _ => none
  | f + 1 => fun l1 l2 σ =>
    if (4 : Int32) < l2 then
      some true
    else
      if (J_X3_neighbour l1 l2) < 0 then
        J_X3_isHollow_32 (J_X3_isHollow_2 f) l1 l2 σ
      else
        (J_X3_high (J_X3_neighbour l1 l2) σ).bind fun x4 =>
        (J_X3_high l1 σ).bind fun x5 =>
        if x5 < x4 then
          J_X3_isHollow_32 (J_X3_isHollow_2 f) l1 l2 σ
        else
          some false
def J_X3_isHollow (a1 : Int32) (σ : xS2) : Option Bool :=
  J_X3_isHollow_2 xFU a1 (1 : Int32) σ
def J_X0_liveUnder_122 (l0 : Nat) (l5 : Int32) (l6 : Bool) (l7 : Bool) (σ : xS2) : Option (Bool × xS2) :=
  if l5 < (7 : Int32) then
    some (l6, σ)
  else
    if (xb l7) = 0 then
      some (l6, (yI σ l0 2 (0 : Int32)))
    else
      some (l6, σ)
def J_X0_liveUnder_80 (l0 : Nat) (l2 : Int32) (l5 : Int32) (l6 : Bool) (l7 : Bool) (s0 : Nat) (s1 : Int32) (s2 : Int32) (σ : xS2) : Option (Bool × xS2) :=
  if (xrm l2 (3 : Int32)) = 0 then
    J_X0_liveUnder_122 l0 l5 l6 l7 (yI (yI (yI σ s0 1 (s1 - s2)) l0 1 (xmin (99 : Int32) (xmax (0 : Int32) ((yI σ s0 1 (s1 - s2)).1 l0 1)))) l0 2 (xmin (9 : Int32) (((yI (yI σ s0 1 (s1 - s2)) l0 1 (xmin (99 : Int32) (xmax (0 : Int32) ((yI σ s0 1 (s1 - s2)).1 l0 1)))).1 l0 2) + (1 : Int32))))
  else
    J_X0_liveUnder_122 l0 l5 l6 l7 (yI (yI σ s0 1 (s1 - s2)) l0 1 (xmin (99 : Int32) (xmax (0 : Int32) ((yI σ s0 1 (s1 - s2)).1 l0 1))))
def J_X0_liveUnder_31 (l0 : Nat) (l2 : Int32) (l4 : Int32) (l5 : Int32) (s0 : Bool) (σ : xS2) : Option (Bool × xS2) :=
  (J_X3_isHollow (σ.1 l0 0) σ).bind fun x3 =>
  if (xb x3) = 0 then
    J_X0_liveUnder_80 l0 l2 l5 s0 x3 l0 ((yI σ l0 1 ((σ.1 l0 1) + (xmax (0 : Int32) (l4 - ((σ.1 l0 2) / (2 : Int32)))))).1 l0 1) (4 : Int32) (yI σ l0 1 ((σ.1 l0 1) + (xmax (0 : Int32) (l4 - ((σ.1 l0 2) / (2 : Int32))))))
  else
    J_X0_liveUnder_80 l0 l2 l5 s0 x3 l0 ((yI σ l0 1 ((σ.1 l0 1) + (xmax (0 : Int32) (l4 - ((σ.1 l0 2) / (2 : Int32)))))).1 l0 1) (2 : Int32) (yI σ l0 1 ((σ.1 l0 1) + (xmax (0 : Int32) (l4 - ((σ.1 l0 2) / (2 : Int32))))))
def J_X0_liveUnder_26 (l0 : Nat) (l2 : Int32) (l4 : Int32) (l5 : Int32) (σ : xS2) : Option (Bool × xS2) :=
  J_X0_liveUnder_31 l0 l2 l4 l5 true σ
def J_X0_liveUnder (a0 : Nat) (a2 : Int32) (a3 : Int32) (a4 : Int32) (a5 : Int32) (σ : xS2) : Option (Bool × xS2) :=
  if a3 = (5 : Int32) then
    (J_X0_lookAround a0 σ).bind fun x10 =>
    J_X0_liveUnder_31 a0 a2 a4 a5 x10.1 x10.2
  else
    if a3 = 0 then
      J_X0_liveUnder_26 a0 a2 a4 a5 σ
    else
      (J_X0_move a0 a3 σ).bind fun x8 =>
      if (xb x8.1) = 0 then
        J_X0_liveUnder_31 a0 a2 a4 a5 false x8.2
      else
        J_X0_liveUnder_26 a0 a2 a4 a5 x8.2
def J_X3_sun (a1 : Int32) (σ : xS2) : Option Int32 :=
  if a1 < 0 then
    some (0 : Int32)
  else
    if (60 : Int32) ≤ a1 then
      some (0 : Int32)
    else
      xgd (xin ((72 : Int32) + a1) 194) <|
      some (σ.1 2 ((72 : Int32) + a1).toNatClampNeg)
def J_X3_wind (a1 : Int32) (σ : xS2) : Option Int32 :=
  if a1 < 0 then
    some (0 : Int32)
  else
    if (60 : Int32) ≤ a1 then
      some (0 : Int32)
    else
      xgd (xin ((132 : Int32) + a1) 194) <|
      some (σ.1 2 ((132 : Int32) + a1).toNatClampNeg)
def J_X0_live (a0 : Nat) (a2 : Int32) (a3 : Int32) (σ : xS2) : Option (Bool × xS2) :=
  (J_X3_sun a2 σ).bind fun x1 =>
  (J_X3_wind a2 σ).bind fun x2 =>
  (J_X0_liveUnder a0 a2 a3 x1 x2 σ).bind fun x3 =>
  some (x3.1, x3.2)
def J_X3_tell (a1 : Int32) (a2 : Int32) (σ : xS2) : Option xS2 :=
  if a1 < 0 then
    some σ
  else
    if (194 : Int32) ≤ a1 then
      some σ
    else
      xgd (xin a1 194) <|
      some (yI σ 2 a1.toNatClampNeg a2)
def J_X1_bringBack (σ : xS2) : Option (Bool × xS2) :=
  if (σ.1 23 3) < (σ.1 23 4) then
    xgd (xin (σ.1 23 3) 40) <|
    xgd (xin (σ.1 23 3) 40) <|
    (J_X3_tell (σ.1 24 (σ.1 23 3).toNatClampNeg) (σ.1 26 (σ.1 23 3).toNatClampNeg) σ).bind fun x4 =>
    some (true, (yI x4 23 3 ((x4.1 23 3) + (1 : Int32))))
  else
    some (false, σ)
def J_X1_dropOldest (σ : xS2) : Option xS2 :=
  xgd (xcg (1 : Int32) (0 : Int32) (39 : Int32) 40 40) <|
  xgd (xcg (1 : Int32) (0 : Int32) ((yCI (yI σ 23 3 (39 : Int32)) 24 (1 : Int32).toNatClampNeg 24 (0 : Int32).toNatClampNeg (39 : Int32).toNatClampNeg).1 23 3) 40 40) <|
  xgd (xcg (1 : Int32) (0 : Int32) ((yCI (yCI (yI σ 23 3 (39 : Int32)) 24 (1 : Int32).toNatClampNeg 24 (0 : Int32).toNatClampNeg (39 : Int32).toNatClampNeg) 25 (1 : Int32).toNatClampNeg 25 (0 : Int32).toNatClampNeg ((yCI (yI σ 23 3 (39 : Int32)) 24 (1 : Int32).toNatClampNeg 24 (0 : Int32).toNatClampNeg (39 : Int32).toNatClampNeg).1 23 3).toNatClampNeg).1 23 3) 40 40) <|
  some (yCI (yCI (yCI (yI σ 23 3 (39 : Int32)) 24 (1 : Int32).toNatClampNeg 24 (0 : Int32).toNatClampNeg (39 : Int32).toNatClampNeg) 25 (1 : Int32).toNatClampNeg 25 (0 : Int32).toNatClampNeg ((yCI (yI σ 23 3 (39 : Int32)) 24 (1 : Int32).toNatClampNeg 24 (0 : Int32).toNatClampNeg (39 : Int32).toNatClampNeg).1 23 3).toNatClampNeg) 26 (1 : Int32).toNatClampNeg 26 (0 : Int32).toNatClampNeg ((yCI (yCI (yI σ 23 3 (39 : Int32)) 24 (1 : Int32).toNatClampNeg 24 (0 : Int32).toNatClampNeg (39 : Int32).toNatClampNeg) 25 (1 : Int32).toNatClampNeg 25 (0 : Int32).toNatClampNeg ((yCI (yI σ 23 3 (39 : Int32)) 24 (1 : Int32).toNatClampNeg 24 (0 : Int32).toNatClampNeg (39 : Int32).toNatClampNeg).1 23 3).toNatClampNeg).1 23 3).toNatClampNeg)
def J_X1_note_13 (l1 : Int32) (l2 : Int32) (l3 : Int32) (σ : xS2) : Option xS2 :=
  xgd (xin (σ.1 23 3) 40) <|
  xgd (xin (σ.1 23 3) 40) <|
  xgd (xin (σ.1 23 3) 40) <|
  some (yI (yI (yI (yI (yI σ 24 (σ.1 23 3).toNatClampNeg l1) 25 (σ.1 23 3).toNatClampNeg l2) 26 (σ.1 23 3).toNatClampNeg l3) 23 3 ((σ.1 23 3) + (1 : Int32))) 23 4 ((σ.1 23 3) + (1 : Int32)))
def J_X1_note (a1 : Int32) (a2 : Int32) (a3 : Int32) (σ : xS2) : Option xS2 :=
  if (σ.1 23 3) < (40 : Int32) then
    J_X1_note_13 a1 a2 a3 σ
  else
    (J_X1_dropOldest σ).bind fun x5 =>
    J_X1_note_13 a1 a2 a3 x5
def J_X1_takeBack (σ : xS2) : Option (Bool × xS2) :=
  if 0 < (σ.1 23 3) then
    xgd (xin ((σ.1 23 3) - (1 : Int32)) 40) <|
    xgd (xin ((σ.1 23 3) - (1 : Int32)) 40) <|
    (J_X3_tell (σ.1 24 ((σ.1 23 3) - (1 : Int32)).toNatClampNeg) (σ.1 25 ((σ.1 23 3) - (1 : Int32)).toNatClampNeg) (yI σ 23 3 ((σ.1 23 3) - (1 : Int32)))).bind fun x4 =>
    some (true, x4)
  else
    some (false, σ)
def J_X2_sign (σ : xS2) : Option Int32 :=
  if (σ.1 8 8) = (-1 : Int32) then
    if (σ.1 8 9) ≤ (σ.1 8 7) then
      some (-1 : Int32)
    else
      xgd (xin (σ.1 8 7) 120) <|
      some (σ.1 9 (σ.1 8 7).toNatClampNeg)
  else
    some (-1 : Int32)
def J_X2_pass (a1 : Int32) (σ : xS2) : Option (Bool × xS2) :=
  (J_X2_sign σ).bind fun x1 =>
  if x1 = a1 then
    some (true, (yI σ 8 7 ((σ.1 8 7) + (1 : Int32))))
  else
    some (false, σ)
def J_X2_isDigit (a0 : Int32) : Bool :=
  if a0 < (48 : Int32) then
    false
  else
    if (57 : Int32) < a0 then
      false
    else
      true
def J_X2_isName (a0 : Int32) : Bool :=
  if a0 = (99 : Int32) then
    true
  else
  if a0 = (100 : Int32) then
    true
  else
  if a0 = (104 : Int32) then
    true
  else
  if a0 = (111 : Int32) then
    true
  else
  if a0 = (115 : Int32) then
    true
  else
  if a0 = (117 : Int32) then
    true
  else
  if a0 = (119 : Int32) then
    true
  else
  false
def J_X2_write (a1 : Int32) (σ : xS2) : Option xS2 :=
  if (121 : Int32) ≤ (σ.1 8 4) then
    some σ
  else
    xgd (xin (σ.1 8 4) 121) <|
    some (yI (yI σ 10 (σ.1 8 4).toNatClampNeg a1) 8 4 ((σ.1 8 4) + (1 : Int32)))
def J_X2_readNumber_48 (l1 : Int32) (σ : xS2) : Option xS2 :=
  (J_X2_write l1 σ).bind fun x2 =>
  some x2
def J_X2_readNumber_4 : Nat → Int32 → Int32 → xS2 → Option xS2
  | 0 => fun _ _ _ => none
  | f + 1 => fun l1 l2 σ =>
    if (4 : Int32) ≤ l2 then
      J_X2_readNumber_48 l1 σ
    else
      (J_X2_sign σ).bind fun x3 =>
      if (xb (J_X2_isDigit x3)) = 0 then
        J_X2_readNumber_48 l1 σ
      else
        (J_X2_sign σ).bind fun x6 =>
        J_X2_readNumber_4 f (((l1 * (10 : Int32)) + x6) - (48 : Int32)) (l2 + (1 : Int32)) (yI σ 8 7 ((σ.1 8 7) + (1 : Int32)))
def J_X2_readNumber (σ : xS2) : Option xS2 :=
  J_X2_readNumber_4 xFU (0 : Int32) (0 : Int32) σ
def J_X2_refuse (σ : xS2) : Option xS2 :=
  if (σ.1 8 8) = (-1 : Int32) then
    some (yI σ 8 8 (σ.1 8 7))
  else
    some σ
def J_X2_readAnd_7 (p_X2_readCompared : (Int32 → xS2 → Option xS2)) : Nat → Int32 → Int32 → xS2 → Option xS2
  | 0 => fun _ _ _ => none
  | f + 1 => fun l1 l2 σ =>
    if (120 : Int32) ≤ l2 then
      some σ
    else
      (J_X2_pass (38 : Int32) σ).bind fun x3 =>
      if (xb x3.1) = 0 then
        some x3.2
      else
        (p_X2_readCompared l1 x3.2).bind fun x5 =>
        (J_X2_write (-38 : Int32) x5).bind fun x6 =>
        J_X2_readAnd_7 p_X2_readCompared f l1 (l2 + (1 : Int32)) x6
def J_X2_readAnd_b (p_X2_readCompared : (Int32 → xS2 → Option xS2)) (a1 : Int32) (σ : xS2) : Option xS2 :=
  (p_X2_readCompared a1 σ).bind fun x1 =>
  J_X2_readAnd_7 p_X2_readCompared xFU a1 (0 : Int32) x1
def J_X2_readCompared_28 (p_X2_readSum : (Int32 → xS2 → Option xS2)) (l1 : Int32) (l2 : Int32) (σ : xS2) : Option xS2 :=
  (p_X2_readSum l1 (yI σ 8 7 ((σ.1 8 7) + (1 : Int32)))).bind fun x4 =>
  (J_X2_write (-l2) x4).bind fun x5 =>
  some x5
def J_X2_readCompared_b (p_X2_readSum : (Int32 → xS2 → Option xS2)) (a1 : Int32) (σ : xS2) : Option xS2 :=
  (p_X2_readSum a1 σ).bind fun x1 =>
  (J_X2_sign x1).bind fun x2 =>
  if x2 = (60 : Int32) then
    J_X2_readCompared_28 p_X2_readSum a1 x2 x1
  else
    if x2 = (61 : Int32) then
      J_X2_readCompared_28 p_X2_readSum a1 x2 x1
    else
      if x2 = (62 : Int32) then
        J_X2_readCompared_28 p_X2_readSum a1 x2 x1
      else
        some x1
def J_X2_readOpened_46 (p_X2_readOperand : (Int32 → xS2 → Option xS2)) (p_X2_readOr : (Int32 → xS2 → Option xS2)) (s1 : Int32) (σ : xS2) : Option xS2 :=
  (J_X2_write s1 σ).bind fun x4 =>
  some x4
def J_X2_readOpened_b (p_X2_readOperand : (Int32 → xS2 → Option xS2)) (p_X2_readOr : (Int32 → xS2 → Option xS2)) (a1 : Int32) (a2 : Int32) (σ : xS2) : Option xS2 :=
  if a1 = (40 : Int32) then
    (p_X2_readOr a2 σ).bind fun x5 =>
    (J_X2_pass (41 : Int32) x5).bind fun x6 =>
    if (xb x6.1) = 0 then
      (J_X2_refuse x6.2).bind fun x8 =>
      some x8
    else
      some x6.2
  else
    (p_X2_readOperand a2 σ).bind fun x2 =>
    if a1 = (33 : Int32) then
      J_X2_readOpened_46 p_X2_readOperand p_X2_readOr (-33 : Int32) x2
    else
      J_X2_readOpened_46 p_X2_readOperand p_X2_readOr (-126 : Int32) x2
def J_X2_readOperand_90 (p_X2_readOpened : (Int32 → Int32 → xS2 → Option xS2)) (σ : xS2) : Option xS2 :=
  (J_X2_refuse σ).bind fun x7 =>
  some x7
def J_X2_readOperand_69 (p_X2_readOpened : (Int32 → Int32 → xS2 → Option xS2)) (l1 : Int32) (l2 : Int32) (σ : xS2) : Option xS2 :=
  (p_X2_readOpened l2 (l1 + (1 : Int32)) (yI σ 8 7 ((σ.1 8 7) + (1 : Int32)))).bind fun x9 =>
  some x9
def J_X2_readOperand_b (p_X2_readOpened : (Int32 → Int32 → xS2 → Option xS2)) (a1 : Int32) (σ : xS2) : Option xS2 :=
  (J_X2_sign σ).bind fun x1 =>
  if (xb (J_X2_isDigit x1)) = 0 then
    if (xb (J_X2_isName x1)) = 0 then
      if (6 : Int32) ≤ a1 then
        J_X2_readOperand_90 p_X2_readOpened σ
      else
        if x1 = (40 : Int32) then
          J_X2_readOperand_69 p_X2_readOpened a1 x1 σ
        else
          if x1 = (33 : Int32) then
            J_X2_readOperand_69 p_X2_readOpened a1 x1 σ
          else
            if x1 = (45 : Int32) then
              J_X2_readOperand_69 p_X2_readOpened a1 x1 σ
            else
              J_X2_readOperand_90 p_X2_readOpened σ
    else
      (J_X2_write (-x1) (yI σ 8 7 ((σ.1 8 7) + (1 : Int32)))).bind fun x12 =>
      some x12
  else
    (J_X2_readNumber σ).bind fun x13 =>
    some x13
def J_X2_readOr_7 (p_X2_readAnd : (Int32 → xS2 → Option xS2)) : Nat → Int32 → Int32 → xS2 → Option xS2
  | 0 => fun _ _ _ => none
  | f + 1 => fun l1 l2 σ =>
    if (120 : Int32) ≤ l2 then
      some σ
    else
      (J_X2_pass (124 : Int32) σ).bind fun x3 =>
      if (xb x3.1) = 0 then
        some x3.2
      else
        (p_X2_readAnd l1 x3.2).bind fun x5 =>
        (J_X2_write (-124 : Int32) x5).bind fun x6 =>
        J_X2_readOr_7 p_X2_readAnd f l1 (l2 + (1 : Int32)) x6
def J_X2_readOr_b (p_X2_readAnd : (Int32 → xS2 → Option xS2)) (a1 : Int32) (σ : xS2) : Option xS2 :=
  (p_X2_readAnd a1 σ).bind fun x1 =>
  J_X2_readOr_7 p_X2_readAnd xFU a1 (0 : Int32) x1
def J_X2_readProduct_39 (p_X2_readOperand : (Int32 → xS2 → Option xS2)) (k7 : Int32 → Int32 → xS2 → Option xS2) (l1 : Int32) (l2 : Int32) (l3 : Int32) (σ : xS2) : Option xS2 :=
  (p_X2_readOperand l1 (yI σ 8 7 ((σ.1 8 7) + (1 : Int32)))).bind fun x5 =>
  (J_X2_write (-l3) x5).bind fun x6 =>
  k7 l1 (l2 + (1 : Int32)) x6
def J_X2_readProduct_7 (p_X2_readOperand : (Int32 → xS2 → Option xS2)) : Nat → Int32 → Int32 → xS2 → Option xS2
  | 0 => fun _ _ _ => none
  | f + 1 => fun l1 l2 σ =>
    if (120 : Int32) ≤ l2 then
      some σ
    else
      (J_X2_sign σ).bind fun x3 =>
      if x3 = (42 : Int32) then
        J_X2_readProduct_39 p_X2_readOperand (J_X2_readProduct_7 p_X2_readOperand f) l1 l2 x3 σ
      else
        if x3 = (47 : Int32) then
          J_X2_readProduct_39 p_X2_readOperand (J_X2_readProduct_7 p_X2_readOperand f) l1 l2 x3 σ
        else
          if x3 = (37 : Int32) then
            J_X2_readProduct_39 p_X2_readOperand (J_X2_readProduct_7 p_X2_readOperand f) l1 l2 x3 σ
          else
            some σ
def J_X2_readProduct_b (p_X2_readOperand : (Int32 → xS2 → Option xS2)) (a1 : Int32) (σ : xS2) : Option xS2 :=
  (p_X2_readOperand a1 σ).bind fun x1 =>
  J_X2_readProduct_7 p_X2_readOperand xFU a1 (0 : Int32) x1
def J_X2_readSum_33 (p_X2_readProduct : (Int32 → xS2 → Option xS2)) (k7 : Int32 → Int32 → xS2 → Option xS2) (l1 : Int32) (l2 : Int32) (l3 : Int32) (σ : xS2) : Option xS2 :=
  (p_X2_readProduct l1 (yI σ 8 7 ((σ.1 8 7) + (1 : Int32)))).bind fun x5 =>
  (J_X2_write (-l3) x5).bind fun x6 =>
  k7 l1 (l2 + (1 : Int32)) x6
def J_X2_readSum_7 (p_X2_readProduct : (Int32 → xS2 → Option xS2)) : Nat → Int32 → Int32 → xS2 → Option xS2
  | 0 => fun _ _ _ => none
  | f + 1 => fun l1 l2 σ =>
    if (120 : Int32) ≤ l2 then
      some σ
    else
      (J_X2_sign σ).bind fun x3 =>
      if x3 = (43 : Int32) then
        J_X2_readSum_33 p_X2_readProduct (J_X2_readSum_7 p_X2_readProduct f) l1 l2 x3 σ
      else
        if x3 = (45 : Int32) then
          J_X2_readSum_33 p_X2_readProduct (J_X2_readSum_7 p_X2_readProduct f) l1 l2 x3 σ
        else
          some σ
def J_X2_readSum_b (p_X2_readProduct : (Int32 → xS2 → Option xS2)) (a1 : Int32) (σ : xS2) : Option xS2 :=
  (p_X2_readProduct a1 σ).bind fun x1 =>
  J_X2_readSum_7 p_X2_readProduct xFU a1 (0 : Int32) x1
def G_X2_readAnd : Nat → (Int32 → xS2 → Option xS2) × (Int32 → xS2 → Option xS2) × (Int32 → Int32 → xS2 → Option xS2) × (Int32 → xS2 → Option xS2) × (Int32 → xS2 → Option xS2) × (Int32 → xS2 → Option xS2) × (Int32 → xS2 → Option xS2)
  | 0 => (fun _ _ => none, fun _ _ => none, fun _ _ _ => none, fun _ _ => none, fun _ _ => none, fun _ _ => none, fun _ _ => none)
  | n + 1 => (J_X2_readAnd_b ((G_X2_readAnd n).2.1), J_X2_readCompared_b ((G_X2_readAnd n).2.2.2.2.2.2), J_X2_readOpened_b ((G_X2_readAnd n).2.2.2.1) ((G_X2_readAnd n).2.2.2.2.1), J_X2_readOperand_b ((G_X2_readAnd n).2.2.1), J_X2_readOr_b ((G_X2_readAnd n).1), J_X2_readProduct_b ((G_X2_readAnd n).2.2.2.1), J_X2_readSum_b ((G_X2_readAnd n).2.2.2.2.2.1))
def J_X2_readAnd : (Int32 → xS2 → Option xS2) := (G_X2_readAnd 100).1
def J_X2_readCompared : (Int32 → xS2 → Option xS2) := (G_X2_readAnd 100).2.1
def J_X2_readOpened : (Int32 → Int32 → xS2 → Option xS2) := (G_X2_readAnd 100).2.2.1
def J_X2_readOperand : (Int32 → xS2 → Option xS2) := (G_X2_readAnd 100).2.2.2.1
def J_X2_readOr : (Int32 → xS2 → Option xS2) := (G_X2_readAnd 100).2.2.2.2.1
def J_X2_readProduct : (Int32 → xS2 → Option xS2) := (G_X2_readAnd 100).2.2.2.2.2.1
def J_X2_readSum : (Int32 → xS2 → Option xS2) := (G_X2_readAnd 100).2.2.2.2.2.2
def J_X2_readLines_57 (σ : xS2) : Option xS2 :=
  if (σ.1 8 9) ≤ (σ.1 8 7) then
    some σ
  else
    (J_X2_refuse σ).bind fun x3 =>
    some x3
def J_X2_readLines_33 (k2 : Int32 → xS2 → Option xS2) (l1 : Int32) (σ : xS2) : Option xS2 :=
  (J_X2_write (-59 : Int32) σ).bind fun x7 =>
  (J_X2_pass (59 : Int32) x7).bind fun x8 =>
  if (xb x8.1) = 0 then
    J_X2_readLines_57 x8.2
  else
    k2 (l1 + (1 : Int32)) x8.2
def J_X2_readLines_2 : Nat → Int32 → xS2 → Option xS2
  | 0 => fun _ _ => none
  | f + 1 => fun l1 σ =>
    if (120 : Int32) < l1 then
      J_X2_readLines_57 σ
    else
      (J_X2_readOr (0 : Int32) σ).bind fun x4 =>
      (J_X2_pass (63 : Int32) x4).bind fun x5 =>
      if (xb x5.1) = 0 then
        J_X2_readLines_33 (J_X2_readLines_2 f) l1 x5.2
      else
        (J_X2_write (-63 : Int32) x5.2).bind fun x10 =>
        (J_X2_readOr (0 : Int32) x10).bind fun x11 =>
        J_X2_readLines_33 (J_X2_readLines_2 f) l1 x11
def J_X2_readLines (σ : xS2) : Option xS2 :=
  J_X2_readLines_2 xFU (0 : Int32) σ
def J_X2_become_52 (σ : xS2) : Option (Int32 × xS2) :=
  some ((σ.1 8 8), (yI σ 8 9 (0 : Int32)))
def J_X2_become (σ : xS2) : Option (Int32 × xS2) :=
  (J_X2_readLines (yI (yI (yI σ 8 4 (0 : Int32)) 8 7 (0 : Int32)) 8 8 (-1 : Int32))).bind fun x1 =>
  if (x1.1 8 8) = (-1 : Int32) then
    xgd (xcg (0 : Int32) (0 : Int32) (x1.1 8 4) 121 121) <|
    J_X2_become_52 (yI (yCI x1 10 (0 : Int32).toNatClampNeg 11 (0 : Int32).toNatClampNeg (x1.1 8 4).toNatClampNeg) 8 5 ((yCI x1 10 (0 : Int32).toNatClampNeg 11 (0 : Int32).toNatClampNeg (x1.1 8 4).toNatClampNeg).1 8 4))
  else
    J_X2_become_52 x1
def J_X2_joined_211 : Option Int32 :=
  some (1 : Int32)
def J_X2_joined_203 (l1 : Int32) (l2 : Int32) : Option Int32 :=
  if l1 = 0 then
    if l2 = 0 then
      some (0 : Int32)
    else
      J_X2_joined_211
  else
    J_X2_joined_211
def J_X2_joined (a0 : Int32) (a1 : Int32) (a2 : Int32) : Option Int32 :=
  if a0 = (37 : Int32) then
    if a2 = 0 then
      some (0 : Int32)
    else
      xgd (xnz a2) <|
      some (xrm a1 a2)
  else
  if a0 = (38 : Int32) then
    if a1 = 0 then
      some (0 : Int32)
    else
      if a2 = 0 then
        some (0 : Int32)
      else
        some (1 : Int32)
  else
  if a0 = (42 : Int32) then
    some (a1 * a2)
  else
  if a0 = (43 : Int32) then
    some (a1 + a2)
  else
  if a0 = (45 : Int32) then
    some (a1 - a2)
  else
  if a0 = (47 : Int32) then
    if a2 = 0 then
      some (0 : Int32)
    else
      xgd (xnz a2) <|
      some (a1 / a2)
  else
  if a0 = (60 : Int32) then
    if a2 ≤ a1 then
      some (0 : Int32)
    else
      some (1 : Int32)
  else
  if a0 = (61 : Int32) then
    if a1 = a2 then
      some (1 : Int32)
    else
      some (0 : Int32)
  else
  if a0 = (62 : Int32) then
    if a1 ≤ a2 then
      some (0 : Int32)
    else
      some (1 : Int32)
  else
  J_X2_joined_203 a1 a2
def J_X2_named (a0 : Int32) (a2 : Nat) (a3 : Int32) (σ : xS2) : Option Int32 :=
  if a0 = (100 : Int32) then
    some a3
  else
  if a0 = (104 : Int32) then
    (J_X3_high (σ.1 a2 0) σ).bind fun x3 =>
    some x3
  else
  if a0 = (111 : Int32) then
    (J_X0_isOnNewStone a2 σ).bind fun x5 =>
    if (xb x5) = 0 then
      some (0 : Int32)
    else
      some (1 : Int32)
  else
  if a0 = (115 : Int32) then
    some (σ.1 a2 1)
  else
  if a0 = (117 : Int32) then
    some (σ.1 a2 2)
  else
  if a0 = (119 : Int32) then
    (J_X3_wind a3 σ).bind fun x10 =>
    some x10
  else
  some (σ.1 a2 0)
def J_X2_pop (σ : xS2) : Option (Int32 × xS2) :=
  if 0 < (σ.1 8 6) then
    xgd (xin ((σ.1 8 6) - (1 : Int32)) 121) <|
    some ((σ.1 12 ((σ.1 8 6) - (1 : Int32)).toNatClampNeg), (yI σ 8 6 ((σ.1 8 6) - (1 : Int32))))
  else
    some ((0 : Int32), σ)
def J_X2_push (a1 : Int32) (σ : xS2) : Option xS2 :=
  if (121 : Int32) ≤ (σ.1 8 6) then
    some σ
  else
    xgd (xin (σ.1 8 6) 121) <|
    some (yI (yI σ 12 (σ.1 8 6).toNatClampNeg a1) 8 6 ((σ.1 8 6) + (1 : Int32)))
def J_X2_step_73 (s1 : Bool) (σ : xS2) : Option xS2 :=
  (J_X2_push (xb s1) σ).bind fun x12 =>
  some x12
def J_X2_step (a1 : Int32) (a3 : Nat) (a4 : Int32) (σ : xS2) : Option xS2 :=
  if a1 < 0 then
    if (xb (J_X2_isName (-a1))) = 0 then
      if a1 = (-126 : Int32) then
        (J_X2_pop σ).bind fun x13 =>
        (J_X2_push (-x13.1) x13.2).bind fun x14 =>
        some x14
      else
        if a1 = (-33 : Int32) then
          (J_X2_pop σ).bind fun x10 =>
          if x10.1 = 0 then
            J_X2_step_73 true x10.2
          else
            J_X2_step_73 false x10.2
        else
          (J_X2_pop σ).bind fun x6 =>
          (J_X2_pop x6.2).bind fun x7 =>
          (J_X2_joined (-a1) x7.1 x6.1).bind fun x8 =>
          (J_X2_push x8 x7.2).bind fun x9 =>
          some x9
    else
      (J_X2_named (-a1) a3 a4 σ).bind fun x15 =>
      (J_X2_push x15 σ).bind fun x16 =>
      some x16
  else
    (J_X2_push a1 σ).bind fun x17 =>
    some x17
def J_X2_workOut_90 (k11 : Nat → Int32 → Bool → Int32 → xS2 → Option (Int32 × xS2)) (l2 : Nat) (l3 : Int32) (l4 : Bool) (l5 : Int32) (σ : xS2) : Option (Int32 × xS2) :=
  k11 l2 l3 l4 (l5 + (1 : Int32)) σ
def J_X2_workOut_76 (k11 : Nat → Int32 → Bool → Int32 → xS2 → Option (Int32 × xS2)) (l2 : Nat) (l3 : Int32) (l5 : Int32) (s0 : Bool) (σ : xS2) : Option (Int32 × xS2) :=
  J_X2_workOut_90 k11 l2 l3 s0 l5 σ
def J_X2_workOut_11 : Nat → Nat → Int32 → Bool → Int32 → xS2 → Option (Int32 × xS2)
  | 0 => fun _ _ _ _ _ => none
  | f + 1 => fun l2 l3 l4 l5 σ =>
    if (σ.1 8 5) ≤ l5 then
      some ((0 : Int32), σ)
    else
      xgd (xin l5 121) <|
      if (σ.1 11 l5.toNatClampNeg) = (-59 : Int32) then
        if (xb l4) = 0 then
          (J_X2_pop σ).bind fun x10 =>
          some (x10.1, x10.2)
        else
          J_X2_workOut_90 (J_X2_workOut_11 f) l2 l3 false l5 σ
      else
        if (xb l4) = 0 then
          if (σ.1 11 l5.toNatClampNeg) = (-63 : Int32) then
            (J_X2_pop σ).bind fun x7 =>
            if x7.1 = 0 then
              J_X2_workOut_76 (J_X2_workOut_11 f) l2 l3 l5 true x7.2
            else
              J_X2_workOut_76 (J_X2_workOut_11 f) l2 l3 l5 false x7.2
          else
            (J_X2_step (σ.1 11 l5.toNatClampNeg) l2 l3 σ).bind fun x6 =>
            J_X2_workOut_90 (J_X2_workOut_11 f) l2 l3 l4 l5 x6
        else
          J_X2_workOut_90 (J_X2_workOut_11 f) l2 l3 l4 l5 σ
def J_X2_workOut (a2 : Nat) (a3 : Int32) (σ : xS2) : Option (Int32 × xS2) :=
  J_X2_workOut_11 xFU a2 a3 false (0 : Int32) (yI σ 8 6 (0 : Int32))
def J_X2_orderFor (a2 : Nat) (a3 : Int32) (σ : xS2) : Option (Int32 × xS2) :=
  if (σ.1 8 5) = 0 then
    (J_X0_isOnNewStone a2 σ).bind fun x4 =>
    if (xb x4) = 0 then
      some ((0 : Int32), σ)
    else
      some ((5 : Int32), σ)
  else
    (J_X2_workOut a2 a3 σ).bind fun x2 =>
    if 0 ≤ x2.1 then
      some ((xrm x2.1 (6 : Int32)), x2.2)
    else
      some ((0 : Int32), x2.2)
def J_X2_take (a1 : Int32) (σ : xS2) : Option (Bool × xS2) :=
  if (σ.1 8 9) < (120 : Int32) then
    xgd (xin (σ.1 8 9) 120) <|
    some (true, (yI (yI σ 9 (σ.1 8 9).toNatClampNeg a1) 8 9 ((σ.1 8 9) + (1 : Int32))))
  else
    some (false, σ)
def J_X3_hollows_21 (k4 : Int32 → Int32 → xS2 → Option Int32) (l1 : Int32) (l2 : Int32) (σ : xS2) : Option Int32 :=
  k4 l1 (l2 + (1 : Int32)) σ
def J_X3_hollows_4 : Nat → Int32 → Int32 → xS2 → Option Int32
  | 0 => fun _ _ _ => none
  | f + 1 => fun l1 l2 σ =>
    if (36 : Int32) ≤ l2 then
      some l1
    else
      (J_X3_isHollow l2 σ).bind fun x2 =>
      if (xb x2) = 0 then
        J_X3_hollows_21 (J_X3_hollows_4 f) l1 l2 σ
      else
        J_X3_hollows_21 (J_X3_hollows_4 f) (l1 + (1 : Int32)) l2 σ
def J_X3_hollows (σ : xS2) : Option Int32 :=
  J_X3_hollows_4 xFU (0 : Int32) (0 : Int32) σ
def J_X3_isCell (a0 : Int32) : Bool :=
  if a0 < 0 then
    false
  else
    if (36 : Int32) ≤ a0 then
      false
    else
      true
def J_X3_mayBe (a0 : Int32) (a1 : Int32) (σ : xS2) : Option Bool :=
  if a0 < 0 then
    some false
  else
    if (6 : Int32) ≤ a0 then
      some false
    else
      xgd (xin a0 6) <|
      if a1 < (xsv 2 a0) then
        some false
      else
        xgd (xin a0 6) <|
        if (xsv 3 a0) < a1 then
          some false
        else
          some true
def J_X3_odds (σ : xS2) : Int32 :=
  (σ.1 2 193)
def J_X3_place (a0 : Int32) (a1 : Int32) (σ : xS2) : Option Int32 :=
  if a1 < 0 then
    some (-1 : Int32)
  else
    if (6 : Int32) ≤ a1 then
      some (-1 : Int32)
    else
      if a0 < 0 then
        some (-1 : Int32)
      else
        xgd (xin a1 6) <|
        if a0 < (xsv 0 a1) then
          xgd (xin a1 6) <|
          some ((xsv 1 a1) + a0)
        else
          some (-1 : Int32)
def J_X3_stones_21 (k4 : Int32 → Int32 → xS2 → Option Int32) (l1 : Int32) (l2 : Int32) (σ : xS2) : Option Int32 :=
  k4 l1 (l2 + (1 : Int32)) σ
def J_X3_stones_4 : Nat → Int32 → Int32 → xS2 → Option Int32
  | 0 => fun _ _ _ => none
  | f + 1 => fun l1 l2 σ =>
    if (36 : Int32) ≤ l2 then
      some l1
    else
      (J_X3_isStone l2 σ).bind fun x2 =>
      if (xb x2) = 0 then
        J_X3_stones_21 (J_X3_stones_4 f) l1 l2 σ
      else
        J_X3_stones_21 (J_X3_stones_4 f) (l1 + (1 : Int32)) l2 σ
def J_X3_stones (σ : xS2) : Option Int32 :=
  J_X3_stones_4 xFU (0 : Int32) (0 : Int32) σ
def J_X3_told (a1 : Int32) (σ : xS2) : Option Int32 :=
  if a1 < 0 then
    some (0 : Int32)
  else
    if (194 : Int32) ≤ a1 then
      some (0 : Int32)
    else
      xgd (xin a1 194) <|
      some (σ.1 2 a1.toNatClampNeg)
def J_X4_arrive (a0 : Nat) (a1 : Nat) (σ : xS2) : Option xS2 :=
  if (((σ.1 a1 0) * (10 : Int32)) + (σ.1 a1 2)) < 0 then
    some σ
  else
    if (Int32.ofNat (xSH a0).2) ≤ (((σ.1 a1 0) * (10 : Int32)) + (σ.1 a1 2)) then
      some σ
    else
      xgd (xin (((σ.1 a1 0) * (10 : Int32)) + (σ.1 a1 2)) (xSH a0).2) <|
      xgd (xin (((σ.1 a1 0) * (10 : Int32)) + (σ.1 a1 2)) (xSH a0).2) <|
      some (yI σ a0 (((σ.1 a1 0) * (10 : Int32)) + (σ.1 a1 2)).toNatClampNeg (xmax (σ.1 a0 (((σ.1 a1 0) * (10 : Int32)) + (σ.1 a1 2)).toNatClampNeg) (σ.1 a1 1)))
def J_X4_goOn_114 (k24 : Int32 → Int32 → Int32 → Int32 → xS2 → Option xS2) (l2 : Int32) (l3 : Int32) (l4 : Int32) (l5 : Int32) (σ : xS2) : Option xS2 :=
  k24 l2 l3 l4 (l5 + (1 : Int32)) σ
def J_X4_goOn_108 (k24 : Int32 → Int32 → Int32 → Int32 → xS2 → Option xS2) (k50 : Int32 → Int32 → Int32 → Int32 → Int32 → xS2 → Option xS2) (l2 : Int32) (l3 : Int32) (l4 : Int32) (l5 : Int32) (l6 : Int32) (σ : xS2) : Option xS2 :=
  k50 l2 l3 l4 l5 (l6 + (1 : Int32)) σ
def J_X4_goOn_50 (k24 : Int32 → Int32 → Int32 → Int32 → xS2 → Option xS2) : Nat → Int32 → Int32 → Int32 → Int32 → Int32 → xS2 → Option xS2
  | 0 => fun _ _ _ _ _ _ => none
  | f + 1 => fun l2 l3 l4 l5 l6 σ =>
    if (4 : Int32) < l6 then
      J_X4_goOn_114 k24 l2 l3 l4 l5 σ
    else
      xgd (xin l5 360) <|
      (J_X0_place 22 (l5 / (10 : Int32)) (σ.1 20 l5.toNatClampNeg) (xrm l5 (10 : Int32)) σ).bind fun x10 =>
      (J_X0_liveUnder 22 l2 l6 l3 l4 x10).bind fun x11 =>
      if (xb x11.1) = 0 then
        J_X4_goOn_108 k24 (J_X4_goOn_50 k24 f) l2 l3 l4 l5 l6 x11.2
      else
        (J_X4_arrive 21 22 x11.2).bind fun x13 =>
        J_X4_goOn_108 k24 (J_X4_goOn_50 k24 f) l2 l3 l4 l5 l6 x13
def J_X4_goOn_24 : Nat → Int32 → Int32 → Int32 → Int32 → xS2 → Option xS2
  | 0 => fun _ _ _ _ _ => none
  | f + 1 => fun l2 l3 l4 l5 σ =>
    if (360 : Int32) ≤ l5 then
      xgd (xcg (0 : Int32) (0 : Int32) (360 : Int32) 360 360) <|
      some (yCI σ 21 (0 : Int32).toNatClampNeg 20 (0 : Int32).toNatClampNeg (360 : Int32).toNatClampNeg)
    else
      xgd (xin l5 360) <|
      if 0 ≤ (σ.1 20 l5.toNatClampNeg) then
        J_X4_goOn_50 (J_X4_goOn_24 f) xFU l2 l3 l4 l5 (0 : Int32) σ
      else
        J_X4_goOn_114 (J_X4_goOn_24 f) l2 l3 l4 l5 σ
def J_X4_goOn (a2 : Int32) (σ : xS2) : Option xS2 :=
  (J_J7_fill_53178 21 (-1 : Int32) σ).bind fun x1 =>
  (J_X3_sun a2 x1).bind fun x2 =>
  (J_X3_wind a2 x1).bind fun x3 =>
  J_X4_goOn_24 xFU a2 x2 x3 (0 : Int32) x1
def J_X4_mostIn_4 : Nat → Int32 → Int32 → Int32 → xS2 → Option Int32
  | 0 => fun _ _ _ _ => none
  | f + 1 => fun l1 l2 l3 σ =>
    if (10 : Int32) ≤ l3 then
      some l2
    else
      xgd (xin ((l1 * (10 : Int32)) + l3) 360) <|
      J_X4_mostIn_4 f l1 (xmax l2 (σ.1 20 ((l1 * (10 : Int32)) + l3).toNatClampNeg)) (l3 + (1 : Int32)) σ
def J_X4_mostIn (a1 : Int32) (σ : xS2) : Option Int32 :=
  J_X4_mostIn_4 xFU a1 (-1 : Int32) (0 : Int32) σ
def J_X4_find_78 (k30 : Int32 → Int32 → Int32 → Int32 → xS2 → Option (Bool × xS2)) (l3 : Int32) (l4 : Int32) (l5 : Int32) (l6 : Int32) (σ : xS2) : Option (Bool × xS2) :=
  k30 l3 l4 l5 (l6 + (1 : Int32)) σ
def J_X4_find_30 : Nat → Int32 → Int32 → Int32 → Int32 → xS2 → Option (Bool × xS2)
  | 0 => fun _ _ _ _ _ => none
  | f + 1 => fun l3 l4 l5 l6 σ =>
    if l5 < l6 then
      some (false, σ)
    else
      (J_X4_mostIn l4 σ).bind fun x4 =>
      if x4 < 0 then
        if l5 ≤ l6 then
          J_X4_find_78 (J_X4_find_30 f) l3 l4 l5 l6 (yI (yI σ 19 4 x4) 19 3 l6)
        else
          (J_X4_goOn (l3 + l6) (yI (yI σ 19 4 x4) 19 3 l6)).bind fun x7 =>
          J_X4_find_78 (J_X4_find_30 f) l3 l4 l5 l6 x7
      else
        some (true, (yI (yI σ 19 4 x4) 19 3 l6))
def J_X4_find (a2 : Nat) (a3 : Int32) (a4 : Int32) (σ : xS2) : Option (Bool × xS2) :=
  (J_J7_fill_53178 20 (-1 : Int32) σ).bind fun x1 =>
  (J_X4_arrive 20 a2 x1).bind fun x2 =>
  J_X4_find_30 xFU a3 a4 (xmin (20 : Int32) ((60 : Int32) - a3)) (0 : Int32) x2
def J_X5_hasPlaces (a0 : Nat) (a1 : Int32) (a2 : Int32) (σ : xS2) : Bool :=
  if a1 < 0 then
    false
  else
    if a2 < 0 then
      false
    else
      if (σ.1 a0 4) < a1 then
        false
      else
        if ((σ.1 a0 4) - a1) < a2 then
          false
        else
          true
def J_X5_at (a0 : Nat) (a1 : Int32) (σ : xS2) : Option Int64 :=
  if (xb (J_X5_hasPlaces a0 a1 (1 : Int32) σ)) = 0 then
    some (0 : Int64)
  else
    xgd (xin a1 60) <|
    some (σ.2 (a0 + 1) a1.toNatClampNeg)
def J_X5_holdBody (a0 : Nat) (a1 : Int32) (σ : xS2) : Option xS2 :=
  some (yI (yI σ a0 1 (1 : Int32)) a0 2 a1)
def J_X5_holdNothing (a0 : Nat) (σ : xS2) : Option xS2 :=
  some (yI σ a0 1 (0 : Int32))
def J_X5_holdRow (a0 : Nat) (a1 : Int32) (a2 : Int32) (σ : xS2) : Option xS2 :=
  (J_J7_fill_d0a16 (a0 + 1) (0 : Int64) (yI (yI (yI σ a0 1 (2 : Int32)) a0 3 a1) a0 4 (xmin (60 : Int32) (xmax (0 : Int32) a2)))).bind fun x1 =>
  some x1
def J_X5_isBytes (a0 : Nat) (σ : xS2) : Bool :=
  if (σ.1 a0 1) = (2 : Int32) then
    if (σ.1 a0 3) = 0 then
      true
    else
      false
  else
    false
def J_X5_isEmpty (a0 : Nat) (σ : xS2) : Bool :=
  if (σ.1 a0 1) = 0 then
    true
  else
    false
def J_X5_isRow (a0 : Nat) (σ : xS2) : Bool :=
  if (σ.1 a0 1) = (2 : Int32) then
    true
  else
    false
def J_X5_narrowed (a0 : Nat) (a1 : Int64) (σ : xS2) : Int64 :=
  if (σ.1 a0 3) = (0 : Int32) then
    (((a1.toInt32).toInt8.toInt32).toInt64)
  else
  if (σ.1 a0 3) = (1 : Int32) then
    (((a1.toInt32).toInt16.toInt32).toInt64)
  else
  if (σ.1 a0 3) = (2 : Int32) then
    ((a1.toInt32).toInt64)
  else
  if (σ.1 a0 3) = (3 : Int32) then
    a1
  else
  if (lg_cmp a1 (0 : Int64)) = 0 then
    (0 : Int64)
  else
    (1 : Int64)
def J_X5_set (a0 : Nat) (a1 : Int32) (a2 : Int64) (σ : xS2) : Option xS2 :=
  if (xb (J_X5_hasPlaces a0 a1 (1 : Int32) σ)) = 0 then
    some σ
  else
    xgd (xin a1 60) <|
    some (yL σ (a0 + 1) a1.toNatClampNeg (J_X5_narrowed a0 a2 σ))
def J_X6_chooseFirst_89 (k33 : Int32 → Int32 → xS2 → Option xS2) (l2 : Int32) (l3 : Int32) (σ : xS2) : Option xS2 :=
  k33 l2 (l3 + (1 : Int32)) σ
def J_X6_chooseFirst_33 : Nat → Int32 → Int32 → xS2 → Option xS2
  | 0 => fun _ _ _ => none
  | f + 1 => fun l2 l3 σ =>
    if (σ.1 13 5) ≤ l3 then
      some σ
    else
      xgd (xin l3 5) <|
      xgd (xin (((l2 ^^^ ((1 : Int32) <<< (l3 &&& 31))) * (5 : Int32)) + l3) 160) <|
      if (σ.1 13 6) ≤ ((σ.1 16 l3.toNatClampNeg) + (σ.1 18 (((l2 ^^^ ((1 : Int32) <<< (l3 &&& 31))) * (5 : Int32)) + l3).toNatClampNeg)) then
        J_X6_chooseFirst_89 (J_X6_chooseFirst_33 f) l2 l3 σ
      else
        xgd (xin l3 5) <|
        J_X6_chooseFirst_89 (J_X6_chooseFirst_33 f) l2 l3 (yI (yI σ 13 6 ((σ.1 16 l3.toNatClampNeg) + (σ.1 18 (((l2 ^^^ ((1 : Int32) <<< (l3 &&& 31))) * (5 : Int32)) + l3).toNatClampNeg))) 13 7 (σ.1 15 l3.toNatClampNeg))
def J_X6_chooseFirst_14 (s1 : Int32) (σ : xS2) : Option xS2 :=
  J_X6_chooseFirst_33 xFU (((1 : Int32) <<< ((σ.1 13 5) &&& 31)) - (1 : Int32)) (0 : Int32) (yI (yI σ 13 6 s1) 13 7 (-1 : Int32))
def J_X6_chooseFirst (a1 : Int32) (σ : xS2) : Option xS2 :=
  if (σ.1 13 5) = 0 then
    J_X6_chooseFirst_14 a1 σ
  else
    J_X6_chooseFirst_14 (1000000 : Int32) σ
def J_X6_costFrom (a1 : Int32) (σ : xS2) : Option Int32 :=
  if (xb (J_X3_isCell a1)) = 0 then
    some (1000000 : Int32)
  else
    xgd (xin a1 36) <|
    some (σ.1 14 a1.toNatClampNeg)
def J_X6_firstFrom_44 (k2 : Int32 → Int32 → xS2 → Option Int32) (l2 : Int32) (l3 : Int32) (σ : xS2) : Option Int32 :=
  k2 l2 (l3 + (1 : Int32)) σ
def J_X6_firstFrom_2 : Nat → Int32 → Int32 → xS2 → Option Int32
  | 0 => fun _ _ _ => none
  | f + 1 => fun l2 l3 σ =>
    if (4 : Int32) < l3 then
      some (-1 : Int32)
    else
      if (J_X3_neighbour l2 l3) < 0 then
        J_X6_firstFrom_44 (J_X6_firstFrom_2 f) l2 l3 σ
      else
        (J_X3_price l2 (J_X3_neighbour l2 l3) σ).bind fun x4 =>
        (J_X6_costFrom (J_X3_neighbour l2 l3) σ).bind fun x5 =>
        (J_X6_costFrom l2 σ).bind fun x6 =>
        if (x4 + x5) = x6 then
          some (J_X3_neighbour l2 l3)
        else
          J_X6_firstFrom_44 (J_X6_firstFrom_2 f) l2 l3 σ
def J_X6_firstFrom (a2 : Int32) (σ : xS2) : Option Int32 :=
  J_X6_firstFrom_2 xFU a2 (1 : Int32) σ
def J_X6_leastRest_76 (k21 : Int32 → Int32 → Int32 → Int32 → xS2 → Option Int32) (l1 : Int32) (l2 : Int32) (l3 : Int32) (l4 : Int32) (σ : xS2) : Option Int32 :=
  k21 l1 l2 l3 (l4 + (1 : Int32)) σ
def J_X6_leastRest_21 : Nat → Int32 → Int32 → Int32 → Int32 → xS2 → Option Int32
  | 0 => fun _ _ _ _ _ => none
  | f + 1 => fun l1 l2 l3 l4 σ =>
    if (σ.1 13 5) ≤ l4 then
      some l3
    else
      if ((xus l1 l4) &&& (1 : Int32)) = 0 then
        J_X6_leastRest_76 (J_X6_leastRest_21 f) l1 l2 l3 l4 σ
      else
        xgd (xin (((l1 ^^^ ((1 : Int32) <<< (l4 &&& 31))) * (5 : Int32)) + l4) 160) <|
        xgd (xin ((l2 * (5 : Int32)) + l4) 25) <|
        J_X6_leastRest_76 (J_X6_leastRest_21 f) l1 l2 (xmin l3 ((σ.1 17 ((l2 * (5 : Int32)) + l4).toNatClampNeg) + (σ.1 18 (((l1 ^^^ ((1 : Int32) <<< (l4 &&& 31))) * (5 : Int32)) + l4).toNatClampNeg))) l4 σ
def J_X6_leastRest (a1 : Int32) (a2 : Int32) (σ : xS2) : Option Int32 :=
  if a1 = 0 then
    xgd (xin a2 5) <|
    (J_X6_costFrom (σ.1 15 a2.toNatClampNeg) σ).bind fun x7 =>
    some x7
  else
    J_X6_leastRest_21 xFU a1 a2 (1000000 : Int32) (0 : Int32) σ
def J_X6_listStones_62 (k7 : Nat → Int32 → xS2 → Option (Bool × xS2)) (l2 : Nat) (l3 : Int32) (σ : xS2) : Option (Bool × xS2) :=
  k7 l2 (l3 + (1 : Int32)) σ
def J_X6_listStones_7 : Nat → Nat → Int32 → xS2 → Option (Bool × xS2)
  | 0 => fun _ _ _ => none
  | f + 1 => fun l2 l3 σ =>
    if (36 : Int32) ≤ l3 then
      some (true, σ)
    else
      (J_X3_isStone l3 σ).bind fun x2 =>
      if (xb x2) = 0 then
        J_X6_listStones_62 (J_X6_listStones_7 f) l2 l3 σ
      else
        if (xb (J_X0_hasLookedAt l2 l3 σ)) = 0 then
          if (σ.1 13 5) < (5 : Int32) then
            xgd (xin (σ.1 13 5) 5) <|
            J_X6_listStones_62 (J_X6_listStones_7 f) l2 l3 (yI (yI σ 15 (σ.1 13 5).toNatClampNeg l3) 13 5 ((σ.1 13 5) + (1 : Int32)))
          else
            some (false, σ)
        else
          J_X6_listStones_62 (J_X6_listStones_7 f) l2 l3 σ
def J_X6_listStones (a2 : Nat) (σ : xS2) : Option (Bool × xS2) :=
  J_X6_listStones_7 xFU a2 (0 : Int32) (yI σ 13 5 (0 : Int32))
def J_X6_nearest_46 (k5 : Int64 → Int32 → Int32 → xS2 → Option Int32) (l1 : Int64) (l3 : Int32) (l4 : Int32) (σ : xS2) : Option Int32 :=
  k5 l1 l3 (l4 + (1 : Int32)) σ
def J_X6_nearest_43 (k5 : Int64 → Int32 → Int32 → xS2 → Option Int32) (l1 : Int64) (l4 : Int32) (σ : xS2) : Option Int32 :=
  J_X6_nearest_46 k5 l1 l4 l4 σ
def J_X6_nearest_5 : Nat → Int64 → Int32 → Int32 → xS2 → Option Int32
  | 0 => fun _ _ _ _ => none
  | f + 1 => fun l1 l3 l4 σ =>
    if (36 : Int32) ≤ l4 then
      some l3
    else
      if (lg_cmp ((xlu l1 l4) &&& (1 : Int64)) (0 : Int64)) = 0 then
        if l3 < 0 then
          J_X6_nearest_43 (J_X6_nearest_5 f) l1 l4 σ
        else
          xgd (xin l4 36) <|
          xgd (xin l3 36) <|
          if (σ.1 14 l3.toNatClampNeg) ≤ (σ.1 14 l4.toNatClampNeg) then
            J_X6_nearest_46 (J_X6_nearest_5 f) l1 l3 l4 σ
          else
            J_X6_nearest_43 (J_X6_nearest_5 f) l1 l4 σ
      else
        J_X6_nearest_46 (J_X6_nearest_5 f) l1 l3 l4 σ
def J_X6_nearest (a1 : Int64) (σ : xS2) : Option Int32 :=
  J_X6_nearest_5 xFU a1 (-1 : Int32) (0 : Int32) σ
def J_X6_spreadFrom_50 (k2 : Int32 → Int32 → xS2 → Option xS2) (l2 : Int32) (l3 : Int32) (σ : xS2) : Option xS2 :=
  k2 l2 (l3 + (1 : Int32)) σ
def J_X6_spreadFrom_2 : Nat → Int32 → Int32 → xS2 → Option xS2
  | 0 => fun _ _ _ => none
  | f + 1 => fun l2 l3 σ =>
    if (4 : Int32) < l3 then
      some σ
    else
      if (J_X3_neighbour l2 l3) < 0 then
        J_X6_spreadFrom_50 (J_X6_spreadFrom_2 f) l2 l3 σ
      else
        xgd (xin (J_X3_neighbour l2 l3) 36) <|
        (J_X3_price (J_X3_neighbour l2 l3) l2 σ).bind fun x5 =>
        xgd (xin l2 36) <|
        xgd (xin (J_X3_neighbour l2 l3) 36) <|
        J_X6_spreadFrom_50 (J_X6_spreadFrom_2 f) l2 l3 (yI σ 14 (J_X3_neighbour l2 l3).toNatClampNeg (xmin (σ.1 14 (J_X3_neighbour l2 l3).toNatClampNeg) (x5 + (σ.1 14 l2.toNatClampNeg))))
def J_X6_spreadFrom (a2 : Int32) (σ : xS2) : Option xS2 :=
  J_X6_spreadFrom_2 xFU a2 (1 : Int32) σ
def J_X6_spreadTo_67 : Nat → Int64 → Int32 → xS2 → Option xS2
  | 0 => fun _ _ _ => none
  | f + 1 => fun l3 l5 σ =>
    if (36 : Int32) ≤ l5 then
      some σ
    else
      (J_X6_nearest l3 σ).bind fun x3 =>
      if 0 ≤ x3 then
        (J_X6_spreadFrom x3 σ).bind fun x5 =>
        J_X6_spreadTo_67 f (l3 ||| (xls (1 : Int64) x3)) (l5 + (1 : Int32)) x5
      else
        some σ
def J_X6_spreadTo_55 (k2 : Int32 → Int32 → xS2 → Option xS2) (l2 : Int32) (l3 : Int32) (s1 : Int32) (s2 : Int32) (σ : xS2) : Option xS2 :=
  xgd (xin s1 36) <|
  k2 l2 (l3 + (1 : Int32)) (yI σ 14 s1.toNatClampNeg s2)
def J_X6_spreadTo_37 (k2 : Int32 → Int32 → xS2 → Option xS2) (l2 : Int32) (l3 : Int32) (s0 : Bool) (σ : xS2) : Option xS2 :=
  if (xb s0) = 0 then
    J_X6_spreadTo_55 k2 l2 l3 l3 (1000000 : Int32) σ
  else
    J_X6_spreadTo_55 k2 l2 l3 l3 (0 : Int32) σ
def J_X6_spreadTo_2 : Nat → Int32 → Int32 → xS2 → Option xS2
  | 0 => fun _ _ _ => none
  | f + 1 => fun l2 l3 σ =>
    if (36 : Int32) ≤ l3 then
      J_X6_spreadTo_67 xFU (0 : Int64) (0 : Int32) σ
    else
      if l2 = (-1 : Int32) then
        if (6 : Int32) ≤ l3 then
          J_X6_spreadTo_37 (J_X6_spreadTo_2 f) l2 l3 false σ
        else
          J_X6_spreadTo_37 (J_X6_spreadTo_2 f) l2 l3 true σ
      else
        if l3 = l2 then
          J_X6_spreadTo_37 (J_X6_spreadTo_2 f) l2 l3 true σ
        else
          J_X6_spreadTo_37 (J_X6_spreadTo_2 f) l2 l3 false σ
def J_X6_spreadTo (a2 : Int32) (σ : xS2) : Option xS2 :=
  J_X6_spreadTo_2 xFU a2 (0 : Int32) σ
def J_X6_planRound_113 (k100 : Nat → Int32 → xS2 → Option (Bool × xS2)) : Nat → Nat → Int32 → Int32 → xS2 → Option (Bool × xS2)
  | 0 => fun _ _ _ _ => none
  | f + 1 => fun l2 l3 l4 σ =>
    if (σ.1 13 5) ≤ l4 then
      k100 l2 (l3 + (1 : Int32)) σ
    else
      (J_X6_leastRest l3 l4 σ).bind fun x9 =>
      xgd (xin ((l3 * (5 : Int32)) + l4) 160) <|
      J_X6_planRound_113 k100 f l2 l3 (l4 + (1 : Int32)) (yI σ 18 ((l3 * (5 : Int32)) + l4).toNatClampNeg x9)
def J_X6_planRound_100 : Nat → Nat → Int32 → xS2 → Option (Bool × xS2)
  | 0 => fun _ _ _ => none
  | f + 1 => fun l2 l3 σ =>
    if ((1 : Int32) <<< ((σ.1 13 5) &&& 31)) ≤ l3 then
      (J_X6_costFrom (σ.1 l2 0) σ).bind fun x6 =>
      (J_X6_chooseFirst x6 σ).bind fun x7 =>
      some (true, x7)
    else
      J_X6_planRound_113 (J_X6_planRound_100 f) xFU l2 l3 (0 : Int32) σ
def J_X6_planRound_49 (k13 : Nat → Int32 → xS2 → Option (Bool × xS2)) : Nat → Nat → Int32 → Int32 → xS2 → Option (Bool × xS2)
  | 0 => fun _ _ _ _ => none
  | f + 1 => fun l2 l3 l4 σ =>
    if (σ.1 13 5) ≤ l4 then
      k13 l2 (l3 + (1 : Int32)) σ
    else
      xgd (xin l4 5) <|
      (J_X6_costFrom (σ.1 15 l4.toNatClampNeg) σ).bind fun x17 =>
      xgd (xin ((l4 * (5 : Int32)) + l3) 25) <|
      J_X6_planRound_49 k13 f l2 l3 (l4 + (1 : Int32)) (yI σ 17 ((l4 * (5 : Int32)) + l3).toNatClampNeg x17)
def J_X6_planRound_13 : Nat → Nat → Int32 → xS2 → Option (Bool × xS2)
  | 0 => fun _ _ _ => none
  | f + 1 => fun l2 l3 σ =>
    if (σ.1 13 5) ≤ l3 then
      (J_X6_spreadTo (-1 : Int32) σ).bind fun x4 =>
      J_X6_planRound_100 xFU l2 (0 : Int32) x4
    else
      xgd (xin l3 5) <|
      (J_X6_spreadTo (σ.1 15 l3.toNatClampNeg) σ).bind fun x12 =>
      (J_X6_costFrom (x12.1 l2 0) x12).bind fun x13 =>
      xgd (xin l3 5) <|
      J_X6_planRound_49 (J_X6_planRound_13 f) xFU l2 l3 (0 : Int32) (yI x12 16 l3.toNatClampNeg x13)
def J_X6_planRound (a2 : Nat) (σ : xS2) : Option (Bool × xS2) :=
  (J_X6_listStones a2 σ).bind fun x1 =>
  if (xb x1.1) = 0 then
    some (false, x1.2)
  else
    J_X6_planRound_13 xFU a2 (0 : Int32) x1.2
def J_X7_add (a1 : Int32) (σ : xS2) : Option (Int32 × xS2) :=
  if (σ.1 40 3) < (50 : Int32) then
    xgd (xin (σ.1 40 3) 50) <|
    some ((((σ.1 40 3) + (1 : Int32)) - (1 : Int32)), (yI (yI σ 41 (σ.1 40 3).toNatClampNeg a1) 40 3 ((σ.1 40 3) + (1 : Int32))))
  else
    some ((-1 : Int32), σ)
def J_X7_isKind (a0 : Int32) : Bool :=
  if a0 < 0 then
    false
  else
    if (8 : Int32) ≤ a0 then
      false
    else
      true
def J_X7_has (a1 : Int32) (σ : xS2) : Bool :=
  if a1 < 0 then
    false
  else
    if (σ.1 40 3) ≤ a1 then
      false
    else
      if (50 : Int32) ≤ a1 then
        false
      else
        true
def J_X7_kindOf (a1 : Int32) (σ : xS2) : Option Int32 :=
  if (xb (J_X7_has a1 σ)) = 0 then
    some (-1 : Int32)
  else
    xgd (xin a1 50) <|
    some (σ.1 41 a1.toNatClampNeg)
def J_X7_answerOfWheel_b (p_X7_own : (Int32 → Int32 → Int32 → xS2 → Option (Int32 × xS2))) (a1 : Int32) (a2 : Int32) (a3 : Int32) (σ : xS2) : Option (Int32 × xS2) :=
  if a1 = (1 : Int32) then
    some ((a2 + (σ.1 40 2)), σ)
  else
  if a1 = (2 : Int32) then
    (p_X7_own (1 : Int32) a2 a3 σ).bind fun x3 =>
    (p_X7_own (2 : Int32) (1 : Int32) a3 x3.2).bind fun x4 =>
    some ((x3.1 - x4.1), x4.2)
  else
  if a1 = (10 : Int32) then
    (p_X7_own (0 : Int32) a2 a3 σ).bind fun x6 =>
    some ((x6.1 * (2 : Int32)), x6.2)
  else
  some ((a2 ^^^ (σ.1 40 2)), σ)
def J_X7_answerUnder_18 (p_X7_begin : (Int32 → Int32 → Int32 → Int32 → xS2 → Option (Int32 × xS2))) (p_X7_own : (Int32 → Int32 → Int32 → xS2 → Option (Int32 × xS2))) (l1 : Int32) (l5 : Int32) (s1 : Int32) (s2 : Int32) (s3 : Int32) (σ : xS2) : Option (Int32 × xS2) :=
  (p_X7_begin s1 s2 s3 (l5 + (1 : Int32)) σ).bind fun x2 =>
  if l1 = (20 : Int32) then
    some ((x2.1 + (3 : Int32)), x2.2)
  else
  if l1 = (30 : Int32) then
    some ((-x2.1), x2.2)
  else
  if l1 = (40 : Int32) then
    some ((x2.1 * (3 : Int32)), x2.2)
  else
  if l1 = (50 : Int32) then
    some ((x2.1 ^^^ (5 : Int32)), x2.2)
  else
  if l1 = (60 : Int32) then
    (p_X7_own (0 : Int32) (2 : Int32) l5 x2.2).bind fun x8 =>
    some ((x2.1 - x8.1), x8.2)
  else
  if l1 = (61 : Int32) then
    some ((x2.1 + (1 : Int32)), x2.2)
  else
  if l1 = (70 : Int32) then
    some ((x2.1 * (2 : Int32)), x2.2)
  else
  if l1 = (80 : Int32) then
    (p_X7_own (2 : Int32) (2 : Int32) l5 x2.2).bind fun x12 =>
    some ((x2.1 + x12.1), x12.2)
  else
  if l1 = (81 : Int32) then
    some ((x2.1 - (1 : Int32)), x2.2)
  else
  some (x2.1, x2.2)
def J_X7_answerUnder_b (p_X7_begin : (Int32 → Int32 → Int32 → Int32 → xS2 → Option (Int32 × xS2))) (p_X7_own : (Int32 → Int32 → Int32 → xS2 → Option (Int32 × xS2))) (a1 : Int32) (a2 : Int32) (a3 : Int32) (a4 : Int32) (a5 : Int32) (σ : xS2) : Option (Int32 × xS2) :=
  if a1 = (41 : Int32) then
    J_X7_answerUnder_18 p_X7_begin p_X7_own a1 a5 a2 a3 (a4 + (1 : Int32)) σ
  else
    J_X7_answerUnder_18 p_X7_begin p_X7_own a1 a5 a2 a3 a4 σ
def J_X7_begin_99 (p_X7_answerOfWheel : (Int32 → Int32 → Int32 → xS2 → Option (Int32 × xS2))) (p_X7_answerUnder : (Int32 → Int32 → Int32 → Int32 → Int32 → xS2 → Option (Int32 × xS2))) (l1 : Int32) (l3 : Int32) (l4 : Int32) (l5 : Int32) (l6 : Int32) (σ : xS2) : Option (Int32 × xS2) :=
  if (11 : Int32) < l6 then
    xgd (xin l5 8) <|
    (p_X7_answerUnder l6 l1 (xsv 5 l5) l3 l4 (yI σ 40 4 ((σ.1 40 4) + (1 : Int32)))).bind fun x9 =>
    some (x9.1, x9.2)
  else
    (p_X7_answerOfWheel l6 l3 l4 (yI σ 40 4 ((σ.1 40 4) + (1 : Int32)))).bind fun x10 =>
    some (x10.1, x10.2)
def J_X7_begin_49 (p_X7_answerOfWheel : (Int32 → Int32 → Int32 → xS2 → Option (Int32 × xS2))) (p_X7_answerUnder : (Int32 → Int32 → Int32 → Int32 → Int32 → xS2 → Option (Int32 × xS2))) (l1 : Int32) (l3 : Int32) (l4 : Int32) (l5 : Int32) (σ : xS2) : Option (Int32 × xS2) :=
  if (xb (J_X7_isKind l5)) = 0 then
    some ((0 : Int32), σ)
  else
    if l4 ≤ (20 : Int32) then
      xgd (xin ((l1 * (8 : Int32)) + l5) 32) <|
      if (24 : Int32) ≤ (σ.1 40 4) then
        J_X7_begin_99 p_X7_answerOfWheel p_X7_answerUnder l1 l3 l4 l5 (xsv 4 ((l1 * (8 : Int32)) + l5)) σ
      else
        xgd (xin (σ.1 40 4) 24) <|
        J_X7_begin_99 p_X7_answerOfWheel p_X7_answerUnder l1 l3 l4 l5 (xsv 4 ((l1 * (8 : Int32)) + l5)) (yI σ 42 (σ.1 40 4).toNatClampNeg (xsv 4 ((l1 * (8 : Int32)) + l5)))
    else
      some ((0 : Int32), σ)
def J_X7_begin_6 (p_X7_answerOfWheel : (Int32 → Int32 → Int32 → xS2 → Option (Int32 × xS2))) (p_X7_answerUnder : (Int32 → Int32 → Int32 → Int32 → Int32 → xS2 → Option (Int32 × xS2))) : Nat → Int32 → Int32 → Int32 → Int32 → Int32 → xS2 → Option (Int32 × xS2)
  | 0 => fun _ _ _ _ _ _ => none
  | f + 1 => fun l1 l3 l4 l5 l6 σ =>
    if (8 : Int32) ≤ l6 then
      J_X7_begin_49 p_X7_answerOfWheel p_X7_answerUnder l1 l3 l4 l5 σ
    else
      if (xb (J_X7_isKind l5)) = 0 then
        J_X7_begin_49 p_X7_answerOfWheel p_X7_answerUnder l1 l3 l4 l5 σ
      else
        xgd (xin ((l1 * (8 : Int32)) + l5) 32) <|
        if (xsv 4 ((l1 * (8 : Int32)) + l5)) = 0 then
          xgd (xin l5 8) <|
          J_X7_begin_6 p_X7_answerOfWheel p_X7_answerUnder f l1 l3 l4 (xsv 5 l5) (l6 + (1 : Int32)) σ
        else
          J_X7_begin_49 p_X7_answerOfWheel p_X7_answerUnder l1 l3 l4 l5 σ
def J_X7_begin_b (p_X7_answerOfWheel : (Int32 → Int32 → Int32 → xS2 → Option (Int32 × xS2))) (p_X7_answerUnder : (Int32 → Int32 → Int32 → Int32 → Int32 → xS2 → Option (Int32 × xS2))) (a1 : Int32) (a2 : Int32) (a3 : Int32) (a4 : Int32) (σ : xS2) : Option (Int32 × xS2) :=
  J_X7_begin_6 p_X7_answerOfWheel p_X7_answerUnder xFU a1 a3 a4 a2 (0 : Int32) σ
def J_X7_own_b (p_X7_begin : (Int32 → Int32 → Int32 → Int32 → xS2 → Option (Int32 × xS2))) (a1 : Int32) (a2 : Int32) (a3 : Int32) (σ : xS2) : Option (Int32 × xS2) :=
  (J_X7_kindOf (σ.1 40 2) σ).bind fun x1 =>
  (p_X7_begin a1 x1 a2 (a3 + (1 : Int32)) σ).bind fun x2 =>
  some (x2.1, x2.2)
def G_X7_answerOfWheel : Nat → (Int32 → Int32 → Int32 → xS2 → Option (Int32 × xS2)) × (Int32 → Int32 → Int32 → Int32 → Int32 → xS2 → Option (Int32 × xS2)) × (Int32 → Int32 → Int32 → Int32 → xS2 → Option (Int32 × xS2)) × (Int32 → Int32 → Int32 → xS2 → Option (Int32 × xS2))
  | 0 => (fun _ _ _ _ => none, fun _ _ _ _ _ _ => none, fun _ _ _ _ _ => none, fun _ _ _ _ => none)
  | n + 1 => (J_X7_answerOfWheel_b ((G_X7_answerOfWheel n).2.2.2), J_X7_answerUnder_b ((G_X7_answerOfWheel n).2.2.1) ((G_X7_answerOfWheel n).2.2.2), J_X7_begin_b ((G_X7_answerOfWheel n).1) ((G_X7_answerOfWheel n).2.1), J_X7_own_b ((G_X7_answerOfWheel n).2.2.1))
def J_X7_answerOfWheel : (Int32 → Int32 → Int32 → xS2 → Option (Int32 × xS2)) := (G_X7_answerOfWheel 100).1
def J_X7_answerUnder : (Int32 → Int32 → Int32 → Int32 → Int32 → xS2 → Option (Int32 × xS2)) := (G_X7_answerOfWheel 100).2.1
def J_X7_begin : (Int32 → Int32 → Int32 → Int32 → xS2 → Option (Int32 × xS2)) := (G_X7_answerOfWheel 100).2.2.1
def J_X7_own : (Int32 → Int32 → Int32 → xS2 → Option (Int32 × xS2)) := (G_X7_answerOfWheel 100).2.2.2
def J_X7_isUnder_4 : Nat → Int32 → Int32 → Int32 → xS2 → Option Bool
  | 0 => fun _ _ _ _ => none
  | f + 1 => fun l1 l2 l3 σ =>
    if (8 : Int32) ≤ l3 then
      some false
    else
      if (xb (J_X7_isKind l2)) = 0 then
        some false
      else
        if l2 = l1 then
          some true
        else
          xgd (xin l2 8) <|
          J_X7_isUnder_4 f l1 (xsv 5 l2) (l3 + (1 : Int32)) σ
def J_X7_isUnder (a0 : Int32) (a1 : Int32) (σ : xS2) : Option Bool :=
  J_X7_isUnder_4 xFU a1 a0 (0 : Int32) σ
def J_X7_perform (a1 : Int32) (a2 : Int32) (a3 : Int32) (σ : xS2) : Option (Int32 × xS2) :=
  if (xb (J_X7_has a1 (yI σ 40 4 (0 : Int32)))) = 0 then
    some ((0 : Int32), (yI σ 40 4 (0 : Int32)))
  else
    if a2 < 0 then
      some ((0 : Int32), (yI σ 40 4 (0 : Int32)))
    else
      if a2 < (4 : Int32) then
        (J_X7_kindOf a1 (yI (yI σ 40 4 (0 : Int32)) 40 2 a1)).bind fun x5 =>
        (J_X7_begin a2 x5 a3 (0 : Int32) (yI (yI σ 40 4 (0 : Int32)) 40 2 a1)).bind fun x6 =>
        some (x6.1, x6.2)
      else
        some ((0 : Int32), (yI σ 40 4 (0 : Int32)))
def J_X7_ranAt (a1 : Int32) (σ : xS2) : Option Int32 :=
  if a1 < 0 then
    some (-1 : Int32)
  else
    if (σ.1 40 4) ≤ a1 then
      some (-1 : Int32)
    else
      if (24 : Int32) ≤ a1 then
        some (-1 : Int32)
      else
        xgd (xin a1 24) <|
        some (σ.1 42 a1.toNatClampNeg)
def J_X8_act (a1 : Int32) (a2 : Int32) (a3 : Int32) (σ : xS2) : Option (Int32 × xS2) :=
  (J_X7_perform a1 a2 a3 σ).bind fun x1 =>
  some (x1.1, x1.2)
def J_X8_back (σ : xS2) : Option (Int32 × xS2) :=
  if 0 ≤ (σ.1 0 13) then
    (J_X0_become 3 5 σ).bind fun x2 =>
    some ((x2.1 0 13), (yI x2 0 12 (x2.1 0 13)))
  else
    some ((-5 : Int32), σ)
def J_X8_body (a1 : Int32) (σ : xS2) : Option (Int32 × xS2) :=
  if (xb (J_X7_isKind a1)) = 0 then
    some ((-1 : Int32), σ)
  else
    (J_X7_add a1 σ).bind fun x3 =>
    if 0 ≤ x3.1 then
      some (x3.1, x3.2)
    else
      some ((-3 : Int32), x3.2)
def J_X8_isOneOf (a0 : Int32) (a1 : Int32) : Bool :=
  if a0 < 0 then
    false
  else
    if a1 ≤ a0 then
      false
    else
      true
def J_X8_cheapest (a1 : Int32) (a2 : Int32) (σ : xS2) : Option (Int32 × xS2) :=
  if a1 < 0 then
    some ((-1 : Int32), σ)
  else
    if (xb (J_X3_isCell (a1 / (100 : Int32)))) = 0 then
      some ((-1 : Int32), σ)
    else
      if (xb (J_X3_isCell (xrm a1 (100 : Int32)))) = 0 then
        some ((-1 : Int32), σ)
      else
        if (xb (J_X8_isOneOf a2 (2 : Int32))) = 0 then
          some ((-1 : Int32), σ)
        else
          (J_X6_spreadTo (xrm a1 (100 : Int32)) σ).bind fun x8 =>
          if a2 = 0 then
            (J_X6_costFrom (a1 / (100 : Int32)) x8).bind fun x12 =>
            some (x12, x8)
          else
            (J_X6_firstFrom (a1 / (100 : Int32)) x8).bind fun x10 =>
            if 0 ≤ x10 then
              some (x10, x8)
            else
              some ((-2 : Int32), x8)
def J_X8_greatestCommon_9 : Nat → Int64 → Int64 → Int32 → Option Int64
  | 0 => fun _ _ _ => none
  | f + 1 => fun l4 l6 l8 =>
    if (200 : Int32) ≤ l8 then
      some l4
    else
      if (lg_cmp l6 (0 : Int64)) = 0 then
        some l4
      else
        xgd (xnzL l6) <|
        J_X8_greatestCommon_9 f l6 (xrmL l4 l6) (l8 + (1 : Int32))
def J_X8_greatestCommon (a0 : Int64) (a1 : Int64) : Option Int64 :=
  J_X8_greatestCommon_9 xFU a0 a1 (0 : Int32)
def J_X8_power_5 : Nat → Int64 → Int32 → Int64 → Int32 → Option Int64
  | 0 => fun _ _ _ _ => none
  | f + 1 => fun l0 l2 l3 l5 =>
    if l2 ≤ l5 then
      some l3
    else
      J_X8_power_5 f l0 l2 (l3 * l0) (l5 + (1 : Int32))
def J_X8_power (a0 : Int64) (a1 : Int32) : Option Int64 :=
  J_X8_power_5 xFU a0 a1 (1 : Int64) (0 : Int32)
def J_X8_clean_159 (l10 : Int64) (s0 : Int64) (σ : xS2) : Option Int64 :=
  xgd (xnzL l10) <|
  some (s0 / l10)
def J_X8_clean_128 (l3 : Int32) (l6 : Int64) (l8 : Int64) (σ : xS2) : Option Int64 :=
  (J_X8_greatestCommon l6 l8).bind fun x11 =>
  if (lg_cmp x11 (0 : Int64)) = 0 then
    some (-9223372036854775808 : Int64)
  else
    if l3 = 0 then
      J_X8_clean_159 x11 l6 σ
    else
      J_X8_clean_159 x11 l8 σ
def J_X8_clean_91 : Nat → Int32 → Int32 → Int64 → Int64 → Int64 → Int32 → xS2 → Option Int64
  | 0 => fun _ _ _ _ _ _ _ => none
  | f + 1 => fun l1 l3 l4 l6 l8 l10 σ =>
    if l1 ≤ l10 then
      J_X8_clean_128 l3 l6 l8 σ
    else
      (J_X8_power l4 l10).bind fun x15 =>
      (J_X8_power (12 : Int64) ((l1 - (1 : Int32)) - l10)).bind fun x16 =>
      J_X8_clean_91 f l1 l3 l4 (l6 + (x15 * x16)) l8 (l10 + (1 : Int32)) σ
def J_X8_clean (a1 : Int32) (a2 : Int32) (a3 : Int32) (σ : xS2) : Option Int64 :=
  if a1 < 0 then
    some (-9223372036854775808 : Int64)
  else
    if (8 : Int32) < a1 then
      some (-9223372036854775808 : Int64)
    else
      if (xb (J_X8_isOneOf a2 (2 : Int32))) = 0 then
        some (-9223372036854775808 : Int64)
      else
        if (xb (J_X8_isOneOf a3 (2 : Int32))) = 0 then
          some (-9223372036854775808 : Int64)
        else
          if a2 = 0 then
            (J_X8_power (12 : Int64) a1).bind fun x17 =>
            (J_X8_power (((12 : Int32) - (J_X3_odds σ)).toInt64) a1).bind fun x18 =>
            J_X8_clean_128 a3 (x17 - x18) x17 σ
          else
            (J_X8_power (12 : Int64) (xmax (0 : Int32) (a1 - (1 : Int32)))).bind fun x9 =>
            J_X8_clean_91 xFU a1 a3 (((12 : Int32) - (J_X3_odds σ)).toInt64) (0 : Int64) x9 (0 : Int32) σ
def J_X8_cost (a1 : Int32) (a2 : Int32) (σ : xS2) : Option Int32 :=
  if (xb (J_X3_isCell a1)) = 0 then
    some (-1 : Int32)
  else
    if a2 < (1 : Int32) then
      some (-1 : Int32)
    else
      if a2 ≤ (4 : Int32) then
        if 0 ≤ (J_X3_neighbour a1 a2) then
          (J_X3_price a1 (J_X3_neighbour a1 a2) σ).bind fun x7 =>
          some x7
        else
          some (-2 : Int32)
      else
        some (-1 : Int32)
def J_X8_count (a1 : Int32) (σ : xS2) : Option Int32 :=
  if a1 = (0 : Int32) then
    (J_X3_stones σ).bind fun x2 =>
    some x2
  else
  if a1 = (1 : Int32) then
    (J_X3_hollows σ).bind fun x4 =>
    some x4
  else
  if a1 = (2 : Int32) then
    some (σ.1 8 9)
  else
  if a1 = (3 : Int32) then
    some (σ.1 23 3)
  else
  if a1 = (4 : Int32) then
    some (σ.1 40 3)
  else
  if a1 = (5 : Int32) then
    some (σ.1 40 4)
  else
  some (-1 : Int32)
def J_X8_live (a1 : Int32) (σ : xS2) : Option (Bool × xS2) :=
  if (σ.1 0 12) < (60 : Int32) then
    (J_X0_live 3 (σ.1 0 12) a1 σ).bind fun x2 =>
    xgd (xin (x2.2.1 0 12) 60) <|
    xgd (xin (x2.2.1 0 12) 60) <|
    some (x2.1, (yI (yI (yI x2.2 6 (x2.2.1 0 12).toNatClampNeg a1) 7 (x2.2.1 0 12).toNatClampNeg (vp_nar .boolean (xb x2.1))) 0 12 ((x2.2.1 0 12) + (1 : Int32))))
  else
    some (false, σ)
def J_X8_day (a1 : Int32) (σ : xS2) : Option (Int32 × xS2) :=
  if a1 < 0 then
    some ((-1 : Int32), σ)
  else
    if a1 ≤ (5 : Int32) then
      if (σ.1 0 12) < (60 : Int32) then
        (J_X8_live a1 σ).bind fun x4 =>
        if (xb x4.1) = 0 then
          some ((0 : Int32), x4.2)
        else
          some ((1 : Int32), x4.2)
      else
        some ((-5 : Int32), σ)
    else
      some ((-1 : Int32), σ)
def J_X8_days_65 (k31 : Int32 → Int32 → Int32 → xS2 → Option (Int32 × xS2)) (l1 : Int32) (l2 : Int32) (l3 : Int32) (σ : xS2) : Option (Int32 × xS2) :=
  k31 l1 l2 (l3 + (1 : Int32)) σ
def J_X8_days_31 : Nat → Int32 → Int32 → Int32 → xS2 → Option (Int32 × xS2)
  | 0 => fun _ _ _ _ => none
  | f + 1 => fun l1 l2 l3 σ =>
    if l1 ≤ l3 then
      some (l2, σ)
    else
      (J_X2_orderFor 3 (σ.1 0 12) σ).bind fun x5 =>
      (J_X8_live x5.1 x5.2).bind fun x6 =>
      if (xb x6.1) = 0 then
        J_X8_days_65 (J_X8_days_31 f) l1 l2 l3 x6.2
      else
        J_X8_days_65 (J_X8_days_31 f) l1 (l2 + (1 : Int32)) l3 x6.2
def J_X8_days (a1 : Int32) (σ : xS2) : Option (Int32 × xS2) :=
  if a1 < (1 : Int32) then
    some ((-1 : Int32), σ)
  else
    if a1 ≤ (60 : Int32) then
      if a1 ≤ ((60 : Int32) - (σ.1 0 12)) then
        J_X8_days_31 xFU a1 (0 : Int32) (0 : Int32) σ
      else
        some ((-5 : Int32), σ)
    else
      some ((-1 : Int32), σ)
def J_X8_drawn_157 (k33 : Int32 → Int32 → Int32 → Int32 → Int32 → Int32 → xS2 → Option (Int32 × xS2)) (l2 : Int32) (l3 : Int32) (l4 : Int32) (l5 : Int32) (l6 : Int32) (l7 : Int32) (σ : xS2) : Option (Int32 × xS2) :=
  k33 l2 l3 l4 l5 (l6 + (σ.1 4 1)) (l7 + (1 : Int32)) σ
def J_X8_drawn_143 (k33 : Int32 → Int32 → Int32 → Int32 → Int32 → Int32 → xS2 → Option (Int32 × xS2)) (k59 : Int32 → Int32 → Int32 → Int32 → Int32 → Int32 → Bool → Int32 → xS2 → Option (Int32 × xS2)) (l2 : Int32) (l3 : Int32) (l4 : Int32) (l5 : Int32) (l6 : Int32) (l7 : Int32) (l8 : Bool) (l9 : Int32) (σ : xS2) : Option (Int32 × xS2) :=
  k59 l2 l3 l4 l5 l6 l7 l8 (l9 + (1 : Int32)) σ
def J_X8_drawn_102 (k33 : Int32 → Int32 → Int32 → Int32 → Int32 → Int32 → xS2 → Option (Int32 × xS2)) (k59 : Int32 → Int32 → Int32 → Int32 → Int32 → Int32 → Bool → Int32 → xS2 → Option (Int32 × xS2)) (l2 : Int32) (l3 : Int32) (l4 : Int32) (l5 : Int32) (l6 : Int32) (l7 : Int32) (l8 : Bool) (l9 : Int32) (s0 : Int32) (σ : xS2) : Option (Int32 × xS2) :=
  (J_X3_sun l9 σ).bind fun x12 =>
  (J_X0_liveUnder 4 l9 (0 : Int32) x12 s0 σ).bind fun x13 =>
  if (x13.2.1 4 1) = 0 then
    J_X8_drawn_143 k33 k59 l2 l3 l4 l5 l6 l7 true l9 x13.2
  else
    J_X8_drawn_143 k33 k59 l2 l3 l4 l5 l6 l7 l8 l9 x13.2
def J_X8_drawn_59 (k33 : Int32 → Int32 → Int32 → Int32 → Int32 → Int32 → xS2 → Option (Int32 × xS2)) : Nat → Int32 → Int32 → Int32 → Int32 → Int32 → Int32 → Bool → Int32 → xS2 → Option (Int32 × xS2)
  | 0 => fun _ _ _ _ _ _ _ _ _ => none
  | f + 1 => fun l2 l3 l4 l5 l6 l7 l8 l9 σ =>
    if (60 : Int32) ≤ l9 then
      if (xb l8) = 0 then
        J_X8_drawn_157 k33 l2 l3 l4 l5 l6 l7 σ
      else
        J_X8_drawn_157 k33 l2 l3 l4 (l5 + (1 : Int32)) l6 l7 σ
    else
      if (J_X3_odds σ) ≤ (xrm (xus ((l4 * (1103515245 : Int32)) + (12345 : Int32)) (8 : Int32)) (12 : Int32)) then
        J_X8_drawn_102 k33 (J_X8_drawn_59 k33 f) l2 l3 ((l4 * (1103515245 : Int32)) + (12345 : Int32)) l5 l6 l7 l8 l9 (0 : Int32) σ
      else
        J_X8_drawn_102 k33 (J_X8_drawn_59 k33 f) l2 l3 ((l4 * (1103515245 : Int32)) + (12345 : Int32)) l5 l6 l7 l8 l9 (9 : Int32) σ
def J_X8_drawn_33 : Nat → Int32 → Int32 → Int32 → Int32 → Int32 → Int32 → xS2 → Option (Int32 × xS2)
  | 0 => fun _ _ _ _ _ _ _ => none
  | f + 1 => fun l2 l3 l4 l5 l6 l7 σ =>
    if l2 ≤ l7 then
      if l3 = 0 then
        some (l5, σ)
      else
        some (l6, σ)
    else
      (J_X0_become 4 3 σ).bind fun x7 =>
      J_X8_drawn_59 (J_X8_drawn_33 f) xFU l2 l3 l4 l5 l6 l7 false (x7.1 0 12) x7
def J_X8_drawn (a1 : Int32) (a2 : Int32) (a3 : Int32) (σ : xS2) : Option (Int32 × xS2) :=
  if a2 < (1 : Int32) then
    some ((-1 : Int32), σ)
  else
    if (30 : Int32) < a2 then
      some ((-1 : Int32), σ)
    else
      if (xb (J_X8_isOneOf a3 (2 : Int32))) = 0 then
        some ((-1 : Int32), σ)
      else
        J_X8_drawn_33 xFU a2 a3 a1 (0 : Int32) (0 : Int32) (0 : Int32) σ
def J_X8_isShelf (a0 : Int32) : Bool :=
  if a0 < 0 then
    false
  else
    if (6 : Int32) ≤ a0 then
      false
    else
      true
def J_X8_refusedPlace (a0 : Nat) (a1 : Int32) (σ : xS2) : Int32 :=
  if (xb (J_X5_isEmpty a0 σ)) = 0 then
    if (xb (J_X5_isRow a0 σ)) = 0 then
      (-12 : Int32)
    else
      if (xb (J_X5_hasPlaces a0 a1 (1 : Int32) σ)) = 0 then
        (-13 : Int32)
      else
        (0 : Int32)
  else
    (-11 : Int32)
def J_X8_element (a1 : Int32) (a2 : Int32) (σ : xS2) : Option Int64 :=
  if (xb (J_X8_isShelf a1)) = 0 then
    some (-9223372036854775808 : Int64)
  else
    xgd (xin a1 6) <|
    if (J_X8_refusedPlace (28 + 2 * a1.toNatClampNeg) a2 σ) = 0 then
      xgd (xin a1 6) <|
      (J_X5_at (28 + 2 * a1.toNatClampNeg) a2 σ).bind fun x7 =>
      some x7
    else
      some (-9223372036854775808 : Int64)
def J_X8_endOfLine_4 : Nat → Nat → Int32 → Int32 → xS2 → Option Int32
  | 0 => fun _ _ _ _ => none
  | f + 1 => fun l0 l2 l3 σ =>
    if (σ.1 l0 4) ≤ l3 then
      some l2
    else
      if l2 < 0 then
        some l2
      else
        (J_X5_at l0 l3 σ).bind fun x3 =>
        J_X8_endOfLine_4 f l0 (J_X3_neighbour l2 (x3.toInt32)) (l3 + (1 : Int32)) σ
def J_X8_endOfLine (a0 : Nat) (a1 : Int32) (σ : xS2) : Option Int32 :=
  J_X8_endOfLine_4 xFU a0 a1 (0 : Int32) σ
def J_X8_feed (a1 : Int32) (σ : xS2) : Option (Int32 × xS2) :=
  if a1 < 0 then
    some ((-1 : Int32), σ)
  else
    if a1 ≤ (255 : Int32) then
      (J_X2_take a1 σ).bind fun x3 =>
      if (xb x3.1) = 0 then
        some ((-3 : Int32), x3.2)
      else
        some ((x3.2.1 8 9), x3.2)
    else
      some ((-1 : Int32), σ)
def J_X8_orderOn_16 (σ : xS2) : Option Int32 :=
  some (0 : Int32)
def J_X8_orderOn (a0 : Nat) (a1 : Int32) (σ : xS2) : Option Int32 :=
  (J_X5_at a0 a1 σ).bind fun x1 =>
  if (x1.toInt32) < 0 then
    J_X8_orderOn_16 σ
  else
    if (x1.toInt32) ≤ (5 : Int32) then
      some (x1.toInt32)
    else
      J_X8_orderOn_16 σ
def J_X8_refusedBytes (a1 : Int32) (σ : xS2) : Option Int32 :=
  xgd (xin a1 6) <|
  if (xb (J_X5_isEmpty (28 + 2 * a1.toNatClampNeg) σ)) = 0 then
    xgd (xin a1 6) <|
    if (xb (J_X5_isBytes (28 + 2 * a1.toNatClampNeg) σ)) = 0 then
      some (-12 : Int32)
    else
      some (0 : Int32)
  else
    some (-11 : Int32)
def J_X8_first_55 : Nat → Int32 → Int32 → Int32 → xS2 → Option (Int32 × xS2)
  | 0 => fun _ _ _ _ => none
  | f + 1 => fun l1 l3 l4 σ =>
    if l3 ≤ l4 then
      some ((-2 : Int32), σ)
    else
      xgd (xin l1 6) <|
      (J_X8_orderOn (28 + 2 * l1.toNatClampNeg) l4 σ).bind fun x9 =>
      (J_X0_live 4 ((σ.1 0 12) + l4) x9 σ).bind fun x10 =>
      if (xb x10.1) = 0 then
        some (l4, x10.2)
      else
        J_X8_first_55 f l1 l3 (l4 + (1 : Int32)) x10.2
def J_X8_first (a1 : Int32) (σ : xS2) : Option (Int32 × xS2) :=
  if (xb (J_X8_isShelf a1)) = 0 then
    some ((-1 : Int32), σ)
  else
    (J_X8_refusedBytes a1 σ).bind fun x3 =>
    if x3 = 0 then
      xgd (xin a1 6) <|
      (J_X0_become 4 3 σ).bind fun x6 =>
      J_X8_first_55 xFU a1 (xmin (σ.1 (28 + 2 * a1.toNatClampNeg) 4) ((60 : Int32) - (σ.1 0 12))) (0 : Int32) x6
    else
      some (x3, σ)
def J_X8_heightsFrom_6 : Nat → Nat → Int32 → Int32 → Int32 → Int32 → Int32 → xS2 → Option (Int32 × xS2)
  | 0 => fun _ _ _ _ _ _ _ => none
  | f + 1 => fun l1 l2 l3 l4 l5 l6 σ =>
    if l4 ≤ l6 then
      some (l5, σ)
    else
      (J_X3_place (l3 + l6) (0 : Int32) σ).bind fun x2 =>
      if x2 < 0 then
        some (l5, σ)
      else
        if l2 < 0 then
          some (l5, σ)
        else
          if l2 < ((σ.1 l1 4) - l6) then
            (J_X5_at l1 (l2 + l6) σ).bind fun x6 =>
            (J_X3_mayBe (0 : Int32) (x6.toInt32) σ).bind fun x7 =>
            if (xb x7) = 0 then
              some (l5, σ)
            else
              (J_X3_tell x2 (x6.toInt32) σ).bind fun x9 =>
              J_X8_heightsFrom_6 f l1 l2 l3 l4 (l5 + (1 : Int32)) (l6 + (1 : Int32)) x9
          else
            some (l5, σ)
def J_X8_heightsFrom (a1 : Nat) (a2 : Int32) (a3 : Int32) (a4 : Int32) (σ : xS2) : Option (Int32 × xS2) :=
  J_X8_heightsFrom_6 xFU a1 a2 a3 a4 (0 : Int32) (0 : Int32) σ
def J_X8_heights (a1 : Int32) (a2 : Int32) (a3 : Int32) (σ : xS2) : Option (Int32 × xS2) :=
  if (xb (J_X8_isShelf a1)) = 0 then
    some ((-1 : Int32), σ)
  else
    if 0 ≤ a3 then
      if (xb (J_X3_isCell (a3 / (100 : Int32)))) = 0 then
        some ((-1 : Int32), σ)
      else
        if (xrm a3 (100 : Int32)) < (1 : Int32) then
          some ((-1 : Int32), σ)
        else
          if (xrm a3 (100 : Int32)) ≤ (36 : Int32) then
            xgd (xin a1 6) <|
            if (xb (J_X5_isEmpty (28 + 2 * a1.toNatClampNeg) σ)) = 0 then
              xgd (xin a1 6) <|
              if (xb (J_X5_isBytes (28 + 2 * a1.toNatClampNeg) σ)) = 0 then
                some ((-12 : Int32), σ)
              else
                xgd (xin a1 6) <|
                (J_X8_heightsFrom (28 + 2 * a1.toNatClampNeg) a2 (a3 / (100 : Int32)) (xrm a3 (100 : Int32)) σ).bind fun x15 =>
                some (x15.1, x15.2)
            else
              some ((0 : Int32), σ)
          else
            some ((-1 : Int32), σ)
    else
      some ((-1 : Int32), σ)
def J_X8_image (σ : xS2) : Option (Int32 × xS2) :=
  (J_X0_become 5 3 σ).bind fun x1 =>
  some ((x1.1 0 12), (yI x1 0 13 (x1.1 0 12)))
def J_X8_judge_55 : Nat → Int32 → Int32 → Int32 → xS2 → Option (Int32 × xS2)
  | 0 => fun _ _ _ _ => none
  | f + 1 => fun l1 l3 l4 σ =>
    if l3 ≤ l4 then
      some ((-2 : Int32), σ)
    else
      (J_X0_live 4 ((σ.1 0 12) + l4) (0 : Int32) σ).bind fun x8 =>
      xgd (xin l1 6) <|
      (J_X5_at (28 + 2 * l1.toNatClampNeg) l4 x8.2).bind fun x10 =>
      if (lg_cmp x10 ((x8.2.1 4 1).toInt64)) = 0 then
        J_X8_judge_55 f l1 l3 (l4 + (1 : Int32)) x8.2
      else
        some (l4, x8.2)
def J_X8_judge (a1 : Int32) (σ : xS2) : Option (Int32 × xS2) :=
  if (xb (J_X8_isShelf a1)) = 0 then
    some ((-1 : Int32), σ)
  else
    (J_X8_refusedBytes a1 σ).bind fun x3 =>
    if x3 = 0 then
      xgd (xin a1 6) <|
      (J_X0_become 4 3 σ).bind fun x6 =>
      J_X8_judge_55 xFU a1 (xmin (σ.1 (28 + 2 * a1.toNatClampNeg) 4) ((60 : Int32) - (σ.1 0 12))) (0 : Int32) x6
    else
      some (x3, σ)
def J_X8_keep_25 (l1 : Int32) (l2 : Int32) (σ : xS2) : Option (Int32 × xS2) :=
  if l2 = (-1 : Int32) then
    xgd (xin l1 6) <|
    (J_X5_holdNothing (28 + 2 * l1.toNatClampNeg) σ).bind fun x8 =>
    some ((1 : Int32), x8)
  else
    xgd (xin l1 6) <|
    (J_X5_holdBody (28 + 2 * l1.toNatClampNeg) l2 σ).bind fun x6 =>
    some ((1 : Int32), x6)
def J_X8_keep (a1 : Int32) (a2 : Int32) (σ : xS2) : Option (Int32 × xS2) :=
  if (xb (J_X8_isShelf a1)) = 0 then
    some ((-1 : Int32), σ)
  else
    if a2 = (-1 : Int32) then
      J_X8_keep_25 a1 a2 σ
    else
      if (xb (J_X7_has a2 σ)) = 0 then
        some ((-1 : Int32), σ)
      else
        J_X8_keep_25 a1 a2 σ
def J_X8_lasts_28 : Nat → Int32 → Int32 → xS2 → Option (Int32 × xS2)
  | 0 => fun _ _ _ => none
  | f + 1 => fun l1 l2 σ =>
    if (60 : Int32) ≤ l2 then
      some ((-2 : Int32), σ)
    else
      (J_X3_sun l2 σ).bind fun x5 =>
      (J_X3_wind l2 σ).bind fun x6 =>
      (J_X0_liveUnder 4 l2 (0 : Int32) (xmax (0 : Int32) (x5 - l1)) x6 σ).bind fun x7 =>
      if (x7.2.1 4 1) = 0 then
        some (l2, x7.2)
      else
        J_X8_lasts_28 f l1 (l2 + (1 : Int32)) x7.2
def J_X8_lasts (a1 : Int32) (σ : xS2) : Option (Int32 × xS2) :=
  if a1 < 0 then
    some ((-1 : Int32), σ)
  else
    if a1 ≤ (20 : Int32) then
      (J_X0_become 4 3 σ).bind fun x3 =>
      J_X8_lasts_28 xFU a1 (x3.1 0 12) x3
    else
      some ((-1 : Int32), σ)
def J_X8_law (σ : xS2) : Option (Int32 × xS2) :=
  (J_X2_become σ).bind fun x1 =>
  if 0 ≤ x1.1 then
    some (((-100 : Int32) - x1.1), x1.2)
  else
    some ((1 : Int32), x1.2)
def J_X8_thoughtOf (a1 : Int32) (σ : xS2) : Int32 :=
  if a1 = (0 : Int32) then
    (σ.1 4 0)
  else
  if a1 = (1 : Int32) then
    (σ.1 4 1)
  else
  if a1 = (2 : Int32) then
    (σ.1 4 2)
  else
  ((J_J13_bitCount_95d88 (σ.2 4 3)) - (J_J13_bitCount_95d88 (σ.2 3 3)))
def J_X8_lawful_47 : Nat → Int32 → Int32 → Int32 → xS2 → Option (Int32 × xS2)
  | 0 => fun _ _ _ _ => none
  | f + 1 => fun l1 l2 l3 σ =>
    if l1 ≤ l3 then
      some ((J_X8_thoughtOf l2 σ), σ)
    else
      (J_X2_orderFor 4 ((σ.1 0 12) + l3) σ).bind fun x9 =>
      (J_X0_live 4 ((σ.1 0 12) + l3) x9.1 x9.2).bind fun x10 =>
      J_X8_lawful_47 f l1 l2 (l3 + (1 : Int32)) x10.2
def J_X8_lawful (a1 : Int32) (a2 : Int32) (σ : xS2) : Option (Int32 × xS2) :=
  if a1 < 0 then
    some ((-1 : Int32), σ)
  else
    if (60 : Int32) < a1 then
      some ((-1 : Int32), σ)
    else
      if (xb (J_X8_isOneOf a2 (4 : Int32))) = 0 then
        some ((-1 : Int32), σ)
      else
        if a1 ≤ ((60 : Int32) - (σ.1 0 12)) then
          (J_X0_become 4 3 σ).bind fun x6 =>
          J_X8_lawful_47 xFU a1 a2 (0 : Int32) x6
        else
          some ((-5 : Int32), σ)
def J_X8_led (a1 : Int32) (a2 : Int32) (σ : xS2) : Option Int32 :=
  if a1 < 0 then
    some (-1 : Int32)
  else
    if (σ.1 0 12) ≤ a1 then
      some (-1 : Int32)
    else
      if (60 : Int32) ≤ a1 then
        some (-1 : Int32)
      else
        if (xb (J_X8_isOneOf a2 (2 : Int32))) = 0 then
          some (-1 : Int32)
        else
          if a2 = 0 then
            xgd (xin a1 60) <|
            some (σ.1 6 a1.toNatClampNeg)
          else
            xgd (xin a1 60) <|
            if (σ.1 7 a1.toNatClampNeg) = 0 then
              some (0 : Int32)
            else
              some (1 : Int32)
def J_X8_line_80 (k39 : Int32 → Int32 → Int64 → Int64 → Int32 → xS2 → Option Int64) (l1 : Int32) (l2 : Int32) (l3 : Int64) (l5 : Int64) (l7 : Int32) (σ : xS2) : Option Int64 :=
  k39 l1 l2 l3 l5 (l7 + (1 : Int32)) σ
def J_X8_line_39 : Nat → Int32 → Int32 → Int64 → Int64 → Int32 → xS2 → Option Int64
  | 0 => fun _ _ _ _ _ _ => none
  | f + 1 => fun l1 l2 l3 l5 l7 σ =>
    if (36 : Int32) ≤ l7 then
      if l2 = 0 then
        some l3
      else
        some l5
    else
      xgd (xin l1 6) <|
      (J_X8_endOfLine (28 + 2 * l1.toNatClampNeg) l7 σ).bind fun x11 =>
      if x11 < 0 then
        J_X8_line_80 (J_X8_line_39 f) l1 l2 l3 l5 l7 σ
      else
        J_X8_line_80 (J_X8_line_39 f) l1 l2 (l3 ||| (xls (1 : Int64) l7)) (l5 ||| (xls (1 : Int64) x11)) l7 σ
def J_X8_line (a1 : Int32) (a2 : Int32) (σ : xS2) : Option Int64 :=
  if (xb (J_X8_isShelf a1)) = 0 then
    some (-9223372036854775808 : Int64)
  else
    if (xb (J_X8_isOneOf a2 (2 : Int32))) = 0 then
      some (-9223372036854775808 : Int64)
    else
      xgd (xin a1 6) <|
      if (xb (J_X5_isBytes (28 + 2 * a1.toNatClampNeg) σ)) = 0 then
        some (-9223372036854775808 : Int64)
      else
        J_X8_line_39 xFU a1 a2 (0 : Int64) (0 : Int64) (0 : Int32) σ
def J_X8_mend (a1 : Int32) (a2 : Int32) (a3 : Int32) (σ : xS2) : Option (Int32 × xS2) :=
  (J_X3_place a1 a2 σ).bind fun x1 =>
  if x1 < 0 then
    some ((-1 : Int32), σ)
  else
    (J_X3_mayBe a2 a3 σ).bind fun x3 =>
    if (xb x3) = 0 then
      some ((-1 : Int32), σ)
    else
      (J_X3_told x1 σ).bind fun x5 =>
      if x5 = a3 then
        some (x5, σ)
      else
        (J_X3_tell x1 a3 σ).bind fun x7 =>
        (J_X1_note x1 x5 a3 x7).bind fun x8 =>
        some (x5, x8)
def J_X8_ofCart (a1 : Int32) (σ : xS2) : Int32 :=
  if a1 = (20 : Int32) then
    (σ.1 0 12)
  else
  if a1 = (21 : Int32) then
    (σ.1 3 0)
  else
  if a1 = (22 : Int32) then
    (σ.1 3 1)
  else
  if a1 = (23 : Int32) then
    (σ.1 3 2)
  else
  if a1 = (24 : Int32) then
    (J_J13_bitCount_95d88 (σ.2 3 3))
  else
  (-1 : Int32)
def J_X8_ofCell_34 (s0 : Bool) (σ : xS2) : Option Int32 :=
  if (xb s0) = 0 then
    some (0 : Int32)
  else
    some (1 : Int32)
def J_X8_ofCell (a1 : Int32) (a2 : Int32) (σ : xS2) : Option Int32 :=
  if (xb (J_X3_isCell a1)) = 0 then
    some (-1 : Int32)
  else
    if a2 = (10 : Int32) then
      (J_X3_isHollow a1 σ).bind fun x6 =>
      J_X8_ofCell_34 x6 σ
    else
      J_X8_ofCell_34 (J_X0_hasLookedAt 3 a1 σ) σ
def J_X8_of_31 (l1 : Int32) (l2 : Int32) (σ : xS2) : Option Int32 :=
  (J_X8_ofCell l1 l2 σ).bind fun x4 =>
  some x4
def J_X8_of (a1 : Int32) (a2 : Int32) (σ : xS2) : Option Int32 :=
  (J_X3_place a1 a2 σ).bind fun x1 =>
  if x1 < 0 then
    if a2 = (10 : Int32) then
      J_X8_of_31 a1 a2 σ
    else
      if a2 = (11 : Int32) then
        J_X8_of_31 a1 a2 σ
      else
        if a1 = 0 then
          some (J_X8_ofCart a2 σ)
        else
          some (-1 : Int32)
  else
    (J_X3_told x1 σ).bind fun x8 =>
    some x8
def J_X8_order (σ : xS2) : Option (Int32 × xS2) :=
  if (σ.1 0 12) < (60 : Int32) then
    (J_X2_orderFor 3 (σ.1 0 12) σ).bind fun x2 =>
    some (x2.1, x2.2)
  else
    some ((-5 : Int32), σ)
def J_X8_put (a1 : Int32) (a2 : Int32) (a3 : Int64) (σ : xS2) : Option (Int32 × xS2) :=
  if (xb (J_X8_isShelf a1)) = 0 then
    some ((-1 : Int32), σ)
  else
    xgd (xin a1 6) <|
    if (J_X8_refusedPlace (28 + 2 * a1.toNatClampNeg) a2 σ) = 0 then
      xgd (xin a1 6) <|
      (J_X5_set (28 + 2 * a1.toNatClampNeg) a2 a3 σ).bind fun x7 =>
      some ((1 : Int32), x7)
    else
      some ((J_X8_refusedPlace (28 + 2 * a1.toNatClampNeg) a2 σ), σ)
def J_X8_redo (σ : xS2) : Option (Int32 × xS2) :=
  (J_X1_bringBack σ).bind fun x1 =>
  if (xb x1.1) = 0 then
    some ((-5 : Int32), x1.2)
  else
    some (((x1.2.1 23 4) - (x1.2.1 23 3)), x1.2)
def J_X8_round (a1 : Int32) (σ : xS2) : Option (Int32 × xS2) :=
  if (xb (J_X8_isOneOf a1 (2 : Int32))) = 0 then
    some ((-1 : Int32), σ)
  else
    (J_X6_planRound 3 σ).bind fun x3 =>
    if (xb x3.1) = 0 then
      some ((-5 : Int32), x3.2)
    else
      if a1 = 0 then
        some ((x3.2.1 13 6), x3.2)
      else
        if 0 ≤ (x3.2.1 13 7) then
          some ((x3.2.1 13 7), x3.2)
        else
          some ((-2 : Int32), x3.2)
def J_X8_row (a1 : Int32) (a2 : Int32) (a3 : Int32) (σ : xS2) : Option (Int32 × xS2) :=
  if (xb (J_X8_isShelf a1)) = 0 then
    some ((-1 : Int32), σ)
  else
    if (xb (J_X8_isOneOf a2 (5 : Int32))) = 0 then
      some ((-1 : Int32), σ)
    else
      if a3 ≤ (60 : Int32) then
        if 0 ≤ a3 then
          xgd (xin a1 6) <|
          (J_X5_holdRow (28 + 2 * a1.toNatClampNeg) a2 a3 σ).bind fun x8 =>
          some ((1 : Int32), x8)
        else
          some ((-14 : Int32), σ)
      else
        some ((-1 : Int32), σ)
def J_X8_run_77 : Nat → Int32 → Int32 → Int32 → Int32 → xS2 → Option (Int32 × xS2)
  | 0 => fun _ _ _ _ _ => none
  | f + 1 => fun l1 l2 l3 l5 σ =>
    if l2 ≤ l5 then
      some ((J_X8_thoughtOf l3 σ), σ)
    else
      xgd (xin l1 6) <|
      (J_X8_orderOn (28 + 2 * l1.toNatClampNeg) l5 σ).bind fun x15 =>
      (J_X0_live 4 ((σ.1 0 12) + l5) x15 σ).bind fun x16 =>
      J_X8_run_77 f l1 l2 l3 (l5 + (1 : Int32)) x16.2
def J_X8_run (a1 : Int32) (a2 : Int32) (a3 : Int32) (σ : xS2) : Option (Int32 × xS2) :=
  if (xb (J_X8_isShelf a1)) = 0 then
    some ((-1 : Int32), σ)
  else
    if a2 < 0 then
      some ((-1 : Int32), σ)
    else
      if (xb (J_X8_isOneOf a3 (4 : Int32))) = 0 then
        some ((-1 : Int32), σ)
      else
        (J_X8_refusedBytes a1 σ).bind fun x6 =>
        if x6 = 0 then
          xgd (xin a1 6) <|
          if (σ.1 (28 + 2 * a1.toNatClampNeg) 4) < a2 then
            some ((-5 : Int32), σ)
          else
            if a2 ≤ ((60 : Int32) - (σ.1 0 12)) then
              (J_X0_become 4 3 σ).bind fun x11 =>
              J_X8_run_77 xFU a1 a2 a3 (0 : Int32) x11
            else
              some ((-5 : Int32), σ)
        else
          some (x6, σ)
def J_X8_shift (a1 : Int32) (a2 : Int32) (a3 : Int32) (a4 : Int32) (a5 : Int32) (σ : xS2) : Option (Int32 × xS2) :=
  if (xb (J_X8_isShelf a1)) = 0 then
    some ((-1 : Int32), σ)
  else
    if (xb (J_X8_isShelf a3)) = 0 then
      some ((-1 : Int32), σ)
    else
      xgd (xin a1 6) <|
      xgd (xin a3 6) <|
      if (xb (J_X5_isEmpty (28 + 2 * a1.toNatClampNeg) σ)) = 0 then
        if (xb (J_X5_isEmpty (28 + 2 * a3.toNatClampNeg) σ)) = 0 then
          if (xb (J_X5_isRow (28 + 2 * a1.toNatClampNeg) σ)) = 0 then
            some ((-12 : Int32), σ)
          else
            if (xb (J_X5_isRow (28 + 2 * a3.toNatClampNeg) σ)) = 0 then
              some ((-12 : Int32), σ)
            else
              if (σ.1 (28 + 2 * a1.toNatClampNeg) 3) = (σ.1 (28 + 2 * a3.toNatClampNeg) 3) then
                if (xb (J_X5_hasPlaces (28 + 2 * a1.toNatClampNeg) a2 a5 σ)) = 0 then
                  some ((-13 : Int32), σ)
                else
                  if (xb (J_X5_hasPlaces (28 + 2 * a3.toNatClampNeg) a4 a5 σ)) = 0 then
                    some ((-13 : Int32), σ)
                  else
                    xgd (xcg a2 a4 a5 60 60) <|
                    some (a5, (yCL σ ((28 + 2 * a1.toNatClampNeg) + 1) a2.toNatClampNeg ((28 + 2 * a3.toNatClampNeg) + 1) a4.toNatClampNeg a5.toNatClampNeg))
              else
                some ((-12 : Int32), σ)
        else
          some ((-11 : Int32), σ)
      else
        some ((-11 : Int32), σ)
def J_X8_soonest (a1 : Int32) (a2 : Int32) (σ : xS2) : Option (Int32 × xS2) :=
  if (xb (J_X3_isCell a1)) = 0 then
    some ((-1 : Int32), σ)
  else
    if (xb (J_X8_isOneOf a2 (2 : Int32))) = 0 then
      some ((-1 : Int32), σ)
    else
      (J_X4_find 3 (σ.1 0 12) a1 σ).bind fun x5 =>
      if (xb x5.1) = 0 then
        some ((-2 : Int32), x5.2)
      else
        if a2 = 0 then
          some ((x5.2.1 19 3), x5.2)
        else
          some ((x5.2.1 19 4), x5.2)
def J_X8_taken (a1 : Int32) (a2 : Int32) (σ : xS2) : Option Int32 :=
  if (xb (J_X8_isShelf a1)) = 0 then
    some (-1 : Int32)
  else
    if (xb (J_X7_isKind a2)) = 0 then
      some (-1 : Int32)
    else
      xgd (xin a1 6) <|
      if (xb (J_X5_isEmpty (28 + 2 * a1.toNatClampNeg) σ)) = 0 then
        xgd (xin a1 6) <|
        if (xb (J_X5_isRow (28 + 2 * a1.toNatClampNeg) σ)) = 0 then
          xgd (xin a1 6) <|
          (J_X7_kindOf (σ.1 (28 + 2 * a1.toNatClampNeg) 2) σ).bind fun x12 =>
          (J_X7_isUnder x12 a2 σ).bind fun x13 =>
          if (xb x13) = 0 then
            some (-12 : Int32)
          else
            some x12
        else
          some (-12 : Int32)
      else
        some (-11 : Int32)
def J_X8_trace (a1 : Int32) (σ : xS2) : Option Int32 :=
  (J_X7_ranAt a1 σ).bind fun x1 =>
  if 0 ≤ x1 then
    some x1
  else
    some (-1 : Int32)
def J_X8_undo (σ : xS2) : Option (Int32 × xS2) :=
  (J_X1_takeBack σ).bind fun x1 =>
  if (xb x1.1) = 0 then
    some ((-5 : Int32), x1.2)
  else
    some ((x1.2.1 23 3), x1.2)
def J_X9_in (a0 : Int32) (a1 : Int32) (a2 : Int32) : Bool :=
  if a0 < a1 then
    false
  else
    if a2 < a0 then
      false
    else
      true
def J_X9_isBody (a1 : Int32) (σ : xS2) : Bool :=
  (J_X9_in a1 (0 : Int32) ((σ.1 43 52) - (1 : Int32)))
def J_X9_ran_19 (σ : xS2) : Option xS2 :=
  some (yI σ 43 54 ((σ.1 43 54) + (1 : Int32)))
def J_X9_ran (a1 : Int32) (σ : xS2) : Option xS2 :=
  if (24 : Int32) ≤ (σ.1 43 54) then
    J_X9_ran_19 σ
  else
    xgd (xin (σ.1 43 54) 24) <|
    J_X9_ran_19 (yI σ 69 (σ.1 43 54).toNatClampNeg a1)
def J_X9_plainLooks (a1 : Int32) (a2 : Int32) (σ : xS2) : Option (Int32 × xS2) :=
  (J_X9_ran (11 : Int32) σ).bind fun x1 =>
  some ((a2 ^^^ a1), x1)
def J_X9_cleanLooks (a1 : Int32) (a2 : Int32) (σ : xS2) : Option (Int32 × xS2) :=
  (J_X9_ran (40 : Int32) σ).bind fun x1 =>
  (J_X9_plainLooks a1 a2 x1).bind fun x2 =>
  some ((x2.1 * (3 : Int32)), x2.2)
def J_X9_isUnder_56 : Bool :=
  true
def J_X9_isUnder_44 (l0 : Int32) (l1 : Int32) : Bool :=
  if l1 = (6 : Int32) then
    if l0 = (7 : Int32) then
      J_X9_isUnder_56
    else
      false
  else
    false
def J_X9_isUnder_34 (l0 : Int32) (l1 : Int32) : Bool :=
  if l1 = (3 : Int32) then
    if l0 = (5 : Int32) then
      J_X9_isUnder_56
    else
      J_X9_isUnder_44 l0 l1
  else
    J_X9_isUnder_44 l0 l1
def J_X9_isUnder_19 (l0 : Int32) (l1 : Int32) : Bool :=
  if l1 = (2 : Int32) then
    if l0 = (3 : Int32) then
      J_X9_isUnder_56
    else
      if l0 = (5 : Int32) then
        J_X9_isUnder_56
      else
        J_X9_isUnder_34 l0 l1
  else
    J_X9_isUnder_34 l0 l1
def J_X9_isUnder (a0 : Int32) (a1 : Int32) : Bool :=
  if a1 = 0 then
    J_X9_isUnder_56
  else
    if a0 = a1 then
      J_X9_isUnder_56
    else
      if a1 = (1 : Int32) then
        if a0 = (4 : Int32) then
          J_X9_isUnder_56
        else
          J_X9_isUnder_19 a0 a1
      else
        J_X9_isUnder_19 a0 a1
def J_X9_plainTurns (a1 : Int32) (a2 : Int32) (σ : xS2) : Option (Int32 × xS2) :=
  (J_X9_ran (1 : Int32) σ).bind fun x1 =>
  some ((a2 + a1), x1)
def J_X9_northTurns (a1 : Int32) (a2 : Int32) (σ : xS2) : Option (Int32 × xS2) :=
  (J_X9_ran (70 : Int32) σ).bind fun x1 =>
  (J_X9_plainTurns a1 a2 x1).bind fun x2 =>
  some ((x2.1 * (2 : Int32)), x2.2)
def J_X9_turning (a1 : Int32) (a2 : Int32) (σ : xS2) : Option (Int32 × xS2) :=
  xgd (xin a1 50) <|
  if (xb (J_X9_isUnder (σ.1 68 a1.toNatClampNeg) (1 : Int32))) = 0 then
    xgd (xin a1 50) <|
    if (σ.1 68 a1.toNatClampNeg) = (7 : Int32) then
      (J_X9_ran (81 : Int32) σ).bind fun x10 =>
      (J_X9_northTurns a1 a2 x10).bind fun x11 =>
      some ((x11.1 - (1 : Int32)), x11.2)
    else
      xgd (xin a1 50) <|
      if (σ.1 68 a1.toNatClampNeg) = (6 : Int32) then
        (J_X9_northTurns a1 a2 σ).bind fun x9 =>
        some (x9.1, x9.2)
      else
        (J_X9_plainTurns a1 a2 σ).bind fun x8 =>
        some (x8.1, x8.2)
  else
    (J_X9_ran (20 : Int32) σ).bind fun x12 =>
    (J_X9_plainTurns a1 a2 x12).bind fun x13 =>
    some ((x13.1 + (3 : Int32)), x13.2)
def J_X9_looking (a1 : Int32) (a2 : Int32) (σ : xS2) : Option (Int32 × xS2) :=
  xgd (xin a1 50) <|
  if (σ.1 68 a1.toNatClampNeg) = (5 : Int32) then
    (J_X9_ran (60 : Int32) σ).bind fun x7 =>
    (J_X9_cleanLooks a1 a2 x7).bind fun x8 =>
    (J_X9_turning a1 (2 : Int32) x8.2).bind fun x9 =>
    some ((x8.1 - x9.1), x9.2)
  else
    xgd (xin a1 50) <|
    if (σ.1 68 a1.toNatClampNeg) = (3 : Int32) then
      (J_X9_cleanLooks a1 a2 σ).bind fun x6 =>
      some (x6.1, x6.2)
    else
      (J_X9_plainLooks a1 a2 σ).bind fun x5 =>
      some (x5.1, x5.2)
def J_X9_plainMoves (a1 : Int32) (a2 : Int32) (σ : xS2) : Option (Int32 × xS2) :=
  (J_X9_ran (10 : Int32) σ).bind fun x1 =>
  (J_X9_turning a1 a2 x1).bind fun x2 =>
  some ((x2.1 * (2 : Int32)), x2.2)
def J_X9_dustyMoves (a1 : Int32) (a2 : Int32) (σ : xS2) : Option (Int32 × xS2) :=
  (J_X9_ran (30 : Int32) σ).bind fun x1 =>
  (J_X9_plainMoves a1 a2 x1).bind fun x2 =>
  some ((-x2.1), x2.2)
def J_X9_moving (a1 : Int32) (a2 : Int32) (σ : xS2) : Option (Int32 × xS2) :=
  xgd (xin a1 50) <|
  if (xb (J_X9_isUnder (σ.1 68 a1.toNatClampNeg) (3 : Int32))) = 0 then
    xgd (xin a1 50) <|
    if (σ.1 68 a1.toNatClampNeg) = (7 : Int32) then
      (J_X9_ran (80 : Int32) σ).bind fun x10 =>
      (J_X9_plainMoves a1 a2 x10).bind fun x11 =>
      (J_X9_looking a1 (2 : Int32) x11.2).bind fun x12 =>
      some ((x11.1 + x12.1), x12.2)
    else
      xgd (xin a1 50) <|
      if (σ.1 68 a1.toNatClampNeg) = (2 : Int32) then
        (J_X9_dustyMoves a1 a2 σ).bind fun x9 =>
        some (x9.1, x9.2)
      else
        (J_X9_plainMoves a1 a2 σ).bind fun x8 =>
        some (x8.1, x8.2)
  else
    (J_X9_ran (41 : Int32) σ).bind fun x13 =>
    (J_X9_dustyMoves a1 (a2 + (1 : Int32)) x13).bind fun x14 =>
    some (x14.1, x14.2)
def J_X9_plainTells (a1 : Int32) (a2 : Int32) (σ : xS2) : Option (Int32 × xS2) :=
  (J_X9_ran (2 : Int32) σ).bind fun x1 =>
  (J_X9_moving a1 a2 x1).bind fun x2 =>
  (J_X9_looking a1 (1 : Int32) x2.2).bind fun x3 =>
  some ((x2.1 - x3.1), x3.2)
def J_X9_telling (a1 : Int32) (a2 : Int32) (σ : xS2) : Option (Int32 × xS2) :=
  xgd (xin a1 50) <|
  if (σ.1 68 a1.toNatClampNeg) = (4 : Int32) then
    (J_X9_ran (50 : Int32) σ).bind fun x8 =>
    (J_X9_plainTells a1 a2 x8).bind fun x9 =>
    some ((x9.1 ^^^ (5 : Int32)), x9.2)
  else
    xgd (xin a1 50) <|
    if (σ.1 68 a1.toNatClampNeg) = (5 : Int32) then
      (J_X9_ran (61 : Int32) σ).bind fun x6 =>
      (J_X9_plainTells a1 a2 x6).bind fun x7 =>
      some ((x7.1 + (1 : Int32)), x7.2)
    else
      (J_X9_plainTells a1 a2 σ).bind fun x5 =>
      some (x5.1, x5.2)
def J_X9_act (a1 : Int32) (a2 : Int32) (a3 : Int32) (σ : xS2) : Option (Int32 × xS2) :=
  if (xb (J_X9_isBody a1 (yI σ 43 54 (0 : Int32)))) = 0 then
    some ((0 : Int32), (yI σ 43 54 (0 : Int32)))
  else
    if (xb (J_X9_in a2 (0 : Int32) (3 : Int32))) = 0 then
      some ((0 : Int32), (yI σ 43 54 (0 : Int32)))
    else
      if a2 = 0 then
        (J_X9_turning a1 a3 (yI σ 43 54 (0 : Int32))).bind fun x11 =>
        some (x11.1, x11.2)
      else
        if a2 = (1 : Int32) then
          (J_X9_moving a1 a3 (yI σ 43 54 (0 : Int32))).bind fun x10 =>
          some (x10.1, x10.2)
        else
          if a2 = (2 : Int32) then
            (J_X9_looking a1 a3 (yI σ 43 54 (0 : Int32))).bind fun x9 =>
            some (x9.1, x9.2)
          else
            (J_X9_telling a1 a3 (yI σ 43 54 (0 : Int32))).bind fun x8 =>
            some (x8.1, x8.2)
def J_X9_addStep (a1 : Int32) (a2 : Int32) (σ : xS2) : Option xS2 :=
  xgd (xin ((130 : Int32) + (σ.1 43 25)) 260) <|
  xgd (xin ((130 : Int32) + (σ.1 43 25)) 260) <|
  some (yI (yI (yI σ 55 ((130 : Int32) + (σ.1 43 25)).toNatClampNeg (vp_nar .byte (a1.toInt8.toInt32))) 56 ((130 : Int32) + (σ.1 43 25)).toNatClampNeg a2) 43 25 ((σ.1 43 25) + (1 : Int32)))
def J_X9_back (σ : xS2) : Option (Int32 × xS2) :=
  if (σ.1 43 46) = 0 then
    some ((-5 : Int32), σ)
  else
    some ((σ.1 43 47), (yL (yI (yI (yI (yI σ 43 7 (σ.1 43 47)) 43 8 (σ.1 43 48)) 43 9 (σ.1 43 49)) 43 10 (σ.1 43 50)) 43 11 (σ.2 43 51)))
def J_X9_beside (a0 : Int32) (a1 : Int32) : Int32 :=
  if a1 = (1 : Int32) then
    if (6 : Int32) ≤ a0 then
      (a0 - (6 : Int32))
    else
      (-1 : Int32)
  else
    if a1 = (2 : Int32) then
      if (xrm a0 (6 : Int32)) = (5 : Int32) then
        (-1 : Int32)
      else
        (a0 + (1 : Int32))
    else
      if a1 = (3 : Int32) then
        if (36 : Int32) ≤ (a0 + (6 : Int32)) then
          (-1 : Int32)
        else
          (a0 + (6 : Int32))
      else
        if (xrm a0 (6 : Int32)) = 0 then
          (-1 : Int32)
        else
          (a0 - (1 : Int32))
def J_X9_bitsIn_4 : Nat → Int32 → Int64 → Option Int32
  | 0 => fun _ _ => none
  | f + 1 => fun l2 l3 =>
    if (lg_cmp l3 (0 : Int64)) = 0 then
      some l2
    else
      J_X9_bitsIn_4 f (l2 + (1 : Int32)) (l3 &&& (l3 - (1 : Int64)))
def J_X9_bitsIn (a0 : Int64) : Option Int32 :=
  J_X9_bitsIn_4 xFU (0 : Int32) a0
def J_X9_body (a1 : Int32) (σ : xS2) : Option (Int32 × xS2) :=
  if (xb (J_X9_in a1 (0 : Int32) (7 : Int32))) = 0 then
    some ((-1 : Int32), σ)
  else
    if (σ.1 43 52) = (50 : Int32) then
      some ((-3 : Int32), σ)
    else
      xgd (xin (σ.1 43 52) 50) <|
      some ((((σ.1 43 52) + (1 : Int32)) - (1 : Int32)), (yI (yI σ 68 (σ.1 43 52).toNatClampNeg a1) 43 52 ((σ.1 43 52) + (1 : Int32))))
def J_X9_look (σ : xS2) : Option Int32 :=
  if (σ.1 43 21) ≤ (σ.1 43 22) then
    some (-1 : Int32)
  else
    xgd (xin (σ.1 43 22) 120) <|
    some (σ.1 54 (σ.1 43 22).toNatClampNeg)
def J_X9_faulty (σ : xS2) : Option xS2 :=
  if 0 ≤ (σ.1 43 23) then
    some σ
  else
    some (yI σ 43 23 (σ.1 43 22))
def J_X9_figure_74 (l1 : Int32) (σ : xS2) : Option xS2 :=
  (J_X9_addStep (1 : Int32) l1 σ).bind fun x4 =>
  some x4
def J_X9_figure_70 (l1 : Int32) (σ : xS2) : Option xS2 :=
  (J_X9_faulty σ).bind fun x3 =>
  J_X9_figure_74 l1 x3
def J_X9_figure_52 (l1 : Int32) (l2 : Int32) (σ : xS2) : Option xS2 :=
  if l2 = 0 then
    J_X9_figure_70 l1 σ
  else
    (J_X9_look σ).bind fun x5 =>
    if (xb (J_X9_in x5 (48 : Int32) (57 : Int32))) = 0 then
      J_X9_figure_74 l1 σ
    else
      J_X9_figure_70 l1 σ
def J_X9_figure_4 : Nat → Int32 → Int32 → xS2 → Option xS2
  | 0 => fun _ _ _ => none
  | f + 1 => fun l1 l2 σ =>
    if (4 : Int32) ≤ l2 then
      J_X9_figure_52 l1 l2 σ
    else
      (J_X9_look σ).bind fun x8 =>
      if (xb (J_X9_in x8 (48 : Int32) (57 : Int32))) = 0 then
        J_X9_figure_52 l1 l2 σ
      else
        (J_X9_look σ).bind fun x11 =>
        J_X9_figure_4 f ((((10 : Int32) * l1) + x11) - (48 : Int32)) (l2 + (1 : Int32)) (yI σ 43 22 ((σ.1 43 22) + (1 : Int32)))
def J_X9_figure (σ : xS2) : Option xS2 :=
  J_X9_figure_4 xFU (0 : Int32) (0 : Int32) σ
def J_X9_nameOf (a0 : Int32) : Int32 :=
  if a0 = (99 : Int32) then
    (6 : Int32)
  else
  if a0 = (100 : Int32) then
    (2 : Int32)
  else
  if a0 = (104 : Int32) then
    (3 : Int32)
  else
  if a0 = (111 : Int32) then
    (4 : Int32)
  else
  if a0 = (115 : Int32) then
    (0 : Int32)
  else
  if a0 = (117 : Int32) then
    (1 : Int32)
  else
  if a0 = (119 : Int32) then
    (5 : Int32)
  else
  (-1 : Int32)
def J_X9_opens (σ : xS2) : Option (Bool × xS2) :=
  if (σ.1 43 24) = (6 : Int32) then
    (J_X9_faulty σ).bind fun x2 =>
    some (false, x2)
  else
    some (true, (yI (yI σ 43 24 ((σ.1 43 24) + (1 : Int32))) 43 22 ((σ.1 43 22) + (1 : Int32))))
def J_X9_both_4 (p_X9_compared : (xS2 → Option xS2)) : Nat → xS2 → Option xS2
  | 0 => fun _ => none
  | f + 1 => fun σ =>
    if 0 ≤ (σ.1 43 23) then
      some σ
    else
      (J_X9_look σ).bind fun x3 =>
      if x3 = (38 : Int32) then
        (p_X9_compared (yI σ 43 22 ((σ.1 43 22) + (1 : Int32)))).bind fun x5 =>
        (J_X9_addStep (38 : Int32) (0 : Int32) x5).bind fun x6 =>
        J_X9_both_4 p_X9_compared f x6
      else
        some σ
def J_X9_both_b (p_X9_compared : (xS2 → Option xS2)) (σ : xS2) : Option xS2 :=
  (p_X9_compared σ).bind fun x1 =>
  J_X9_both_4 p_X9_compared xFU x1
def J_X9_compared_35 (p_X9_sum : (xS2 → Option xS2)) (l1 : Int32) (σ : xS2) : Option xS2 :=
  (p_X9_sum (yI σ 43 22 ((σ.1 43 22) + (1 : Int32)))).bind fun x5 =>
  (J_X9_addStep l1 (0 : Int32) x5).bind fun x6 =>
  some x6
def J_X9_compared_b (p_X9_sum : (xS2 → Option xS2)) (σ : xS2) : Option xS2 :=
  (p_X9_sum σ).bind fun x1 =>
  (J_X9_look x1).bind fun x2 =>
  if 0 ≤ (x1.1 43 23) then
    some x1
  else
    if x2 = (60 : Int32) then
      J_X9_compared_35 p_X9_sum x2 x1
    else
      if x2 = (61 : Int32) then
        J_X9_compared_35 p_X9_sum x2 x1
      else
        if x2 = (62 : Int32) then
          J_X9_compared_35 p_X9_sum x2 x1
        else
          some x1
def J_X9_either_4 (p_X9_both : (xS2 → Option xS2)) : Nat → xS2 → Option xS2
  | 0 => fun _ => none
  | f + 1 => fun σ =>
    if 0 ≤ (σ.1 43 23) then
      some σ
    else
      (J_X9_look σ).bind fun x3 =>
      if x3 = (124 : Int32) then
        (p_X9_both (yI σ 43 22 ((σ.1 43 22) + (1 : Int32)))).bind fun x5 =>
        (J_X9_addStep (124 : Int32) (0 : Int32) x5).bind fun x6 =>
        J_X9_either_4 p_X9_both f x6
      else
        some σ
def J_X9_either_b (p_X9_both : (xS2 → Option xS2)) (σ : xS2) : Option xS2 :=
  (p_X9_both σ).bind fun x1 =>
  J_X9_either_4 p_X9_both xFU x1
def J_X9_operand_80 (p_X9_either : (xS2 → Option xS2)) (p_X9_operand : (xS2 → Option xS2)) (s1 : Int32) (σ : xS2) : Option xS2 :=
  (J_X9_addStep s1 (0 : Int32) σ).bind fun x9 =>
  some x9
def J_X9_operand_46 (p_X9_either : (xS2 → Option xS2)) (p_X9_operand : (xS2 → Option xS2)) (l1 : Int32) (σ : xS2) : Option xS2 :=
  (J_X9_opens σ).bind fun x5 =>
  if (xb x5.1) = 0 then
    some x5.2
  else
    (p_X9_operand x5.2).bind fun x7 =>
    if l1 = (33 : Int32) then
      J_X9_operand_80 p_X9_either p_X9_operand (3 : Int32) (yI x7 43 24 ((x7.1 43 24) - (1 : Int32)))
    else
      J_X9_operand_80 p_X9_either p_X9_operand (4 : Int32) (yI x7 43 24 ((x7.1 43 24) - (1 : Int32)))
def J_X9_operand_b (p_X9_either : (xS2 → Option xS2)) (p_X9_operand : (xS2 → Option xS2)) (σ : xS2) : Option xS2 :=
  (J_X9_look σ).bind fun x1 =>
  if (J_X9_nameOf x1) < 0 then
    if x1 = (33 : Int32) then
      J_X9_operand_46 p_X9_either p_X9_operand x1 σ
    else
      if x1 = (45 : Int32) then
        J_X9_operand_46 p_X9_either p_X9_operand x1 σ
      else
        if x1 = (40 : Int32) then
          (J_X9_opens σ).bind fun x13 =>
          if (xb x13.1) = 0 then
            some x13.2
          else
            (p_X9_either x13.2).bind fun x15 =>
            if (x15.1 43 23) < 0 then
              (J_X9_look x15).bind fun x17 =>
              if x17 = (41 : Int32) then
                some (yI (yI x15 43 22 ((x15.1 43 22) + (1 : Int32))) 43 24 ((x15.1 43 24) - (1 : Int32)))
              else
                (J_X9_faulty x15).bind fun x19 =>
                some x19
            else
              some x15
        else
          (J_X9_figure σ).bind fun x12 =>
          some x12
  else
    (J_X9_addStep (2 : Int32) (J_X9_nameOf x1) σ).bind fun x21 =>
    some (yI x21 43 22 ((x21.1 43 22) + (1 : Int32)))
def J_X9_product_38 (p_X9_operand : (xS2 → Option xS2)) (k4 : xS2 → Option xS2) (σ : xS2) : Option xS2 :=
  (J_X9_look σ).bind fun x5 =>
  (p_X9_operand (yI σ 43 22 ((σ.1 43 22) + (1 : Int32)))).bind fun x6 =>
  (J_X9_addStep x5 (0 : Int32) x6).bind fun x7 =>
  k4 x7
def J_X9_product_4 (p_X9_operand : (xS2 → Option xS2)) : Nat → xS2 → Option xS2
  | 0 => fun _ => none
  | f + 1 => fun σ =>
    if 0 ≤ (σ.1 43 23) then
      some σ
    else
      (J_X9_look σ).bind fun x3 =>
      if x3 = (42 : Int32) then
        J_X9_product_38 p_X9_operand (J_X9_product_4 p_X9_operand f) σ
      else
        (J_X9_look σ).bind fun x8 =>
        if x8 = (47 : Int32) then
          J_X9_product_38 p_X9_operand (J_X9_product_4 p_X9_operand f) σ
        else
          (J_X9_look σ).bind fun x10 =>
          if x10 = (37 : Int32) then
            J_X9_product_38 p_X9_operand (J_X9_product_4 p_X9_operand f) σ
          else
            some σ
def J_X9_product_b (p_X9_operand : (xS2 → Option xS2)) (σ : xS2) : Option xS2 :=
  (p_X9_operand σ).bind fun x1 =>
  J_X9_product_4 p_X9_operand xFU x1
def J_X9_sum_29 (p_X9_product : (xS2 → Option xS2)) (k4 : xS2 → Option xS2) (σ : xS2) : Option xS2 :=
  (J_X9_look σ).bind fun x5 =>
  (p_X9_product (yI σ 43 22 ((σ.1 43 22) + (1 : Int32)))).bind fun x6 =>
  (J_X9_addStep x5 (0 : Int32) x6).bind fun x7 =>
  k4 x7
def J_X9_sum_4 (p_X9_product : (xS2 → Option xS2)) : Nat → xS2 → Option xS2
  | 0 => fun _ => none
  | f + 1 => fun σ =>
    if 0 ≤ (σ.1 43 23) then
      some σ
    else
      (J_X9_look σ).bind fun x3 =>
      if x3 = (43 : Int32) then
        J_X9_sum_29 p_X9_product (J_X9_sum_4 p_X9_product f) σ
      else
        (J_X9_look σ).bind fun x8 =>
        if x8 = (45 : Int32) then
          J_X9_sum_29 p_X9_product (J_X9_sum_4 p_X9_product f) σ
        else
          some σ
def J_X9_sum_b (p_X9_product : (xS2 → Option xS2)) (σ : xS2) : Option xS2 :=
  (p_X9_product σ).bind fun x1 =>
  J_X9_sum_4 p_X9_product xFU x1
def G_X9_both : Nat → (xS2 → Option xS2) × (xS2 → Option xS2) × (xS2 → Option xS2) × (xS2 → Option xS2) × (xS2 → Option xS2) × (xS2 → Option xS2)
  | 0 => (fun _ => none, fun _ => none, fun _ => none, fun _ => none, fun _ => none, fun _ => none)
  | n + 1 => (J_X9_both_b ((G_X9_both n).2.1), J_X9_compared_b ((G_X9_both n).2.2.2.2.2), J_X9_either_b ((G_X9_both n).1), J_X9_operand_b ((G_X9_both n).2.2.1) ((G_X9_both n).2.2.2.1), J_X9_product_b ((G_X9_both n).2.2.2.1), J_X9_sum_b ((G_X9_both n).2.2.2.2.1))
def J_X9_both : (xS2 → Option xS2) := (G_X9_both 100).1
def J_X9_compared : (xS2 → Option xS2) := (G_X9_both 100).2.1
def J_X9_either : (xS2 → Option xS2) := (G_X9_both 100).2.2.1
def J_X9_operand : (xS2 → Option xS2) := (G_X9_both 100).2.2.2.1
def J_X9_product : (xS2 → Option xS2) := (G_X9_both 100).2.2.2.2.1
def J_X9_sum : (xS2 → Option xS2) := (G_X9_both 100).2.2.2.2.2
def J_X9_byteAt (a1 : Int32) (a2 : Int32) (σ : xS2) : Option Int32 :=
  xgd (xin (((60 : Int32) * a1) + a2) 360) <|
  some ((σ.2 72 (((60 : Int32) * a1) + a2).toNatClampNeg).toInt32)
def J_X9_lays (a1 : Int32) (a2 : Int32) (a3 : Int32) (σ : xS2) : Option xS2 :=
  if a1 = (0 : Int32) then
    xgd (xin a2 36) <|
    some (yI σ 44 a2.toNatClampNeg a3)
  else
  if a1 = (1 : Int32) then
    xgd (xin a2 36) <|
    some (yI σ 45 a2.toNatClampNeg a3)
  else
  if a1 = (2 : Int32) then
    xgd (xin a2 60) <|
    some (yI σ 46 a2.toNatClampNeg a3)
  else
  if a1 = (3 : Int32) then
    xgd (xin a2 60) <|
    some (yI σ 47 a2.toNatClampNeg a3)
  else
  if a1 = (4 : Int32) then
    some (yI σ 43 5 a3)
  else
  some (yI σ 43 6 a3)
def J_X9_valueAt (a1 : Int32) (a2 : Int32) (σ : xS2) : Option Int32 :=
  if a1 = (0 : Int32) then
    xgd (xin a2 36) <|
    some (σ.1 44 a2.toNatClampNeg)
  else
  if a1 = (1 : Int32) then
    xgd (xin a2 36) <|
    some (σ.1 45 a2.toNatClampNeg)
  else
  if a1 = (2 : Int32) then
    xgd (xin a2 60) <|
    some (σ.1 46 a2.toNatClampNeg)
  else
  if a1 = (3 : Int32) then
    xgd (xin a2 60) <|
    some (σ.1 47 a2.toNatClampNeg)
  else
  if a1 = (4 : Int32) then
    some (σ.1 43 5)
  else
  some (σ.1 43 6)
def J_X9_changes_121 (l1 : Int32) (l2 : Int32) (l3 : Int32) (l4 : Int32) (σ : xS2) : Option (Int32 × xS2) :=
  xgd (xin (σ.1 43 14) 40) <|
  xgd (xin (σ.1 43 14) 40) <|
  xgd (xin (σ.1 43 14) 40) <|
  xgd (xin (σ.1 43 14) 40) <|
  (J_X9_lays l1 l2 l3 (yI (yI (yI (yI (yI σ 50 (σ.1 43 14).toNatClampNeg l1) 51 (σ.1 43 14).toNatClampNeg l2) 52 (σ.1 43 14).toNatClampNeg l4) 53 (σ.1 43 14).toNatClampNeg l3) 43 14 ((σ.1 43 14) + (1 : Int32)))).bind fun x8 =>
  some (l4, x8)
def J_X9_changes_34 : Nat → Int32 → Int32 → Int32 → Int32 → Int32 → xS2 → Option (Int32 × xS2)
  | 0 => fun _ _ _ _ _ _ => none
  | f + 1 => fun l1 l2 l3 l4 l5 σ =>
    if (40 : Int32) ≤ l5 then
      J_X9_changes_121 l1 l2 l3 l4 (yI σ 43 14 ((σ.1 43 14) - (1 : Int32)))
    else
      xgd (xin l5 40) <|
      xgd (xin (l5 - (1 : Int32)) 40) <|
      xgd (xin l5 40) <|
      xgd (xin (l5 - (1 : Int32)) 40) <|
      xgd (xin l5 40) <|
      xgd (xin (l5 - (1 : Int32)) 40) <|
      xgd (xin l5 40) <|
      xgd (xin (l5 - (1 : Int32)) 40) <|
      J_X9_changes_34 f l1 l2 l3 l4 (l5 + (1 : Int32)) (yI (yI (yI (yI σ 50 (l5 - (1 : Int32)).toNatClampNeg (σ.1 50 l5.toNatClampNeg)) 51 (l5 - (1 : Int32)).toNatClampNeg (σ.1 51 l5.toNatClampNeg)) 52 (l5 - (1 : Int32)).toNatClampNeg (σ.1 52 l5.toNatClampNeg)) 53 (l5 - (1 : Int32)).toNatClampNeg (σ.1 53 l5.toNatClampNeg))
def J_X9_changes (a1 : Int32) (a2 : Int32) (a3 : Int32) (σ : xS2) : Option (Int32 × xS2) :=
  (J_X9_valueAt a1 a2 σ).bind fun x1 =>
  if x1 = a3 then
    some (x1, σ)
  else
    if (σ.1 43 14) = (40 : Int32) then
      J_X9_changes_34 xFU a1 a2 a3 x1 (1 : Int32) (yI σ 43 15 (0 : Int32))
    else
      J_X9_changes_121 a1 a2 a3 x1 (yI σ 43 15 (0 : Int32))
def J_X9_costOf_30 (s0 : Int32) (s1 : Int32) (σ : xS2) : Option Int32 :=
  some (((s0 + s1) + (6 : Int32)) - (σ.1 43 5))
def J_X9_costOf (a1 : Int32) (a2 : Int32) (σ : xS2) : Option Int32 :=
  xgd (xin (J_X9_beside a1 a2) 36) <|
  xgd (xin a1 36) <|
  if ((σ.1 44 (J_X9_beside a1 a2).toNatClampNeg) - (σ.1 44 a1.toNatClampNeg)) ≤ 0 then
    J_X9_costOf_30 (3 : Int32) (0 : Int32) σ
  else
    J_X9_costOf_30 (3 : Int32) ((2 : Int32) * ((σ.1 44 (J_X9_beside a1 a2).toNatClampNeg) - (σ.1 44 a1.toNatClampNeg))) σ
def J_X9_findFar_133 (k34 : Bool → xS2 → Option xS2) (k42 : Bool → Int32 → xS2 → Option xS2) (k51 : Bool → Int32 → Int32 → xS2 → Option xS2) (l2 : Bool) (l3 : Int32) (l4 : Int32) (σ : xS2) : Option xS2 :=
  k51 l2 l3 (l4 + (1 : Int32)) σ
def J_X9_findFar_51 (k34 : Bool → xS2 → Option xS2) (k42 : Bool → Int32 → xS2 → Option xS2) : Nat → Bool → Int32 → Int32 → xS2 → Option xS2
  | 0 => fun _ _ _ _ => none
  | f + 1 => fun l2 l3 l4 σ =>
    if (4 : Int32) < l4 then
      k42 l2 (l3 + (1 : Int32)) σ
    else
      if (J_X9_beside l3 l4) < 0 then
        J_X9_findFar_133 k34 k42 (J_X9_findFar_51 k34 k42 f) l2 l3 l4 σ
      else
        xgd (xin (J_X9_beside l3 l4) 36) <|
        if (σ.1 62 (J_X9_beside l3 l4).toNatClampNeg) = (1000000 : Int32) then
          J_X9_findFar_133 k34 k42 (J_X9_findFar_51 k34 k42 f) l2 l3 l4 σ
        else
          xgd (xin (J_X9_beside l3 l4) 36) <|
          (J_X9_costOf l3 l4 σ).bind fun x10 =>
          xgd (xin l3 36) <|
          if ((σ.1 62 (J_X9_beside l3 l4).toNatClampNeg) + x10) < (σ.1 62 l3.toNatClampNeg) then
            xgd (xin (J_X9_beside l3 l4) 36) <|
            (J_X9_costOf l3 l4 σ).bind fun x14 =>
            xgd (xin l3 36) <|
            J_X9_findFar_133 k34 k42 (J_X9_findFar_51 k34 k42 f) true l3 l4 (yI σ 62 l3.toNatClampNeg ((σ.1 62 (J_X9_beside l3 l4).toNatClampNeg) + x14))
          else
            J_X9_findFar_133 k34 k42 (J_X9_findFar_51 k34 k42 f) l2 l3 l4 σ
def J_X9_findFar_42 (k34 : Bool → xS2 → Option xS2) : Nat → Bool → Int32 → xS2 → Option xS2
  | 0 => fun _ _ _ => none
  | f + 1 => fun l2 l3 σ =>
    if (36 : Int32) ≤ l3 then
      k34 l2 σ
    else
      J_X9_findFar_51 k34 (J_X9_findFar_42 k34 f) xFU l2 l3 (1 : Int32) σ
def J_X9_findFar_34 : Nat → Bool → xS2 → Option xS2
  | 0 => fun _ _ => none
  | f + 1 => fun l2 σ =>
    if (xb l2) = 0 then
      some σ
    else
      J_X9_findFar_42 (J_X9_findFar_34 f) xFU false (0 : Int32) σ
def J_X9_findFar_25 (k2 : Int32 → Int32 → xS2 → Option xS2) (l1 : Int32) (l2 : Int32) (s1 : Int32) (s2 : Int32) (σ : xS2) : Option xS2 :=
  xgd (xin s1 36) <|
  k2 l1 (l2 + (1 : Int32)) (yI σ 62 s1.toNatClampNeg s2)
def J_X9_findFar_2 : Nat → Int32 → Int32 → xS2 → Option xS2
  | 0 => fun _ _ _ => none
  | f + 1 => fun l1 l2 σ =>
    if (36 : Int32) ≤ l2 then
      J_X9_findFar_34 xFU true σ
    else
      if l2 = l1 then
        J_X9_findFar_25 (J_X9_findFar_2 f) l1 l2 l2 (0 : Int32) σ
      else
        J_X9_findFar_25 (J_X9_findFar_2 f) l1 l2 l2 (1000000 : Int32) σ
def J_X9_findFar (a1 : Int32) (σ : xS2) : Option xS2 :=
  J_X9_findFar_2 xFU a1 (0 : Int32) σ
def J_X9_isCell (a0 : Int32) : Bool :=
  (J_X9_in a0 (0 : Int32) (35 : Int32))
def J_X9_cheapest_110 (k73 : Int32 → Int32 → xS2 → Option (Int32 × xS2)) (l3 : Int32) (l4 : Int32) (σ : xS2) : Option (Int32 × xS2) :=
  k73 l3 (l4 + (1 : Int32)) σ
def J_X9_cheapest_73 : Nat → Int32 → Int32 → xS2 → Option (Int32 × xS2)
  | 0 => fun _ _ _ => none
  | f + 1 => fun l3 l4 σ =>
    if (J_X9_beside l3 l4) < 0 then
      J_X9_cheapest_110 (J_X9_cheapest_73 f) l3 l4 σ
    else
      xgd (xin (J_X9_beside l3 l4) 36) <|
      (J_X9_costOf l3 l4 σ).bind fun x15 =>
      xgd (xin l3 36) <|
      if ((σ.1 62 (J_X9_beside l3 l4).toNatClampNeg) + x15) = (σ.1 62 l3.toNatClampNeg) then
        some ((J_X9_beside l3 l4), σ)
      else
        J_X9_cheapest_110 (J_X9_cheapest_73 f) l3 l4 σ
def J_X9_cheapest (a1 : Int32) (a2 : Int32) (σ : xS2) : Option (Int32 × xS2) :=
  if a1 < 0 then
    some ((-1 : Int32), σ)
  else
    if (xb (J_X9_isCell (a1 / (100 : Int32)))) = 0 then
      some ((-1 : Int32), σ)
    else
      if (xb (J_X9_isCell (xrm a1 (100 : Int32)))) = 0 then
        some ((-1 : Int32), σ)
      else
        if (xb (J_X9_in a2 (0 : Int32) (1 : Int32))) = 0 then
          some ((-1 : Int32), σ)
        else
          (J_X9_findFar (xrm a1 (100 : Int32)) σ).bind fun x8 =>
          if a2 = 0 then
            xgd (xin (a1 / (100 : Int32)) 36) <|
            some ((x8.1 62 (a1 / (100 : Int32)).toNatClampNeg), x8)
          else
            if (a1 / (100 : Int32)) = (xrm a1 (100 : Int32)) then
              some ((-2 : Int32), x8)
            else
              J_X9_cheapest_73 xFU (a1 / (100 : Int32)) (1 : Int32) x8
def J_X9_part_6 : Nat → Int64 → Int64 → Int32 → Int64 → Int64 → Option Int64
  | 0 => fun _ _ _ _ _ => none
  | f + 1 => fun l0 l2 l4 l5 l7 =>
    if (lg_cmp l7 (0 : Int64)) = 0 then
      if l4 = 0 then
        xgd (xnzL l5) <|
        some (l0 / l5)
      else
        xgd (xnzL l5) <|
        some (l2 / l5)
    else
      xgd (xnzL l7) <|
      J_X9_part_6 f l0 l2 l4 l7 (xrmL l5 l7)
def J_X9_part (a0 : Int64) (a1 : Int64) (a2 : Int32) : Option Int64 :=
  J_X9_part_6 xFU a0 a1 a2 a0 a1
def J_X9_power_5 : Nat → Int32 → Int32 → Int64 → Int32 → Option Int64
  | 0 => fun _ _ _ _ => none
  | f + 1 => fun l0 l1 l2 l4 =>
    if l1 ≤ l4 then
      some l2
    else
      J_X9_power_5 f l0 l1 (l2 * (l0.toInt64)) (l4 + (1 : Int32))
def J_X9_power (a0 : Int32) (a1 : Int32) : Option Int64 :=
  J_X9_power_5 xFU a0 a1 (1 : Int64) (0 : Int32)
def J_X9_clean_71 : Nat → Int32 → Int32 → Int64 → Int64 → Int32 → xS2 → Option Int64
  | 0 => fun _ _ _ _ _ _ => none
  | f + 1 => fun l1 l3 l4 l6 l8 σ =>
    if l1 ≤ l8 then
      (J_X9_part l6 l4 l3).bind fun x10 =>
      some x10
    else
      (J_X9_power ((12 : Int32) - (σ.1 43 6)) l8).bind fun x11 =>
      (J_X9_power (12 : Int32) (l1 - l8)).bind fun x12 =>
      J_X9_clean_71 f l1 l3 l4 (l6 + (x11 * x12)) (l8 + (1 : Int32)) σ
def J_X9_clean (a1 : Int32) (a2 : Int32) (a3 : Int32) (σ : xS2) : Option Int64 :=
  if (xb (J_X9_in a1 (0 : Int32) (8 : Int32))) = 0 then
    some (-9223372036854775808 : Int64)
  else
    if (xb (J_X9_in a2 (0 : Int32) (1 : Int32))) = 0 then
      some (-9223372036854775808 : Int64)
    else
      if (xb (J_X9_in a3 (0 : Int32) (1 : Int32))) = 0 then
        some (-9223372036854775808 : Int64)
      else
        (J_X9_power (12 : Int32) a1).bind fun x7 =>
        if a2 = 0 then
          (J_X9_power ((12 : Int32) - (σ.1 43 6)) a1).bind fun x13 =>
          (J_X9_part (x7 - x13) x7 a3).bind fun x14 =>
          some x14
        else
          J_X9_clean_71 xFU a1 a3 x7 (0 : Int64) (0 : Int32) σ
def J_X9_dustThen_12 (l0 : Int32) (l1 : Int32) : Int32 :=
  if (xrm l1 (3 : Int32)) = 0 then
    if (9 : Int32) ≤ l0 then
      l0
    else
      (l0 + (1 : Int32))
  else
    l0
def J_X9_dustThen (a0 : Int32) (a1 : Int32) (a2 : Int32) (a3 : Bool) : Int32 :=
  if a2 < (7 : Int32) then
    J_X9_dustThen_12 a0 a1
  else
    if (xb a3) = 0 then
      (0 : Int32)
    else
      J_X9_dustThen_12 a0 a1
def J_X9_isHollow_36 (k2 : Int32 → Int32 → xS2 → Option Bool) (l1 : Int32) (l2 : Int32) (σ : xS2) : Option Bool :=
  k2 l1 (l2 + (1 : Int32)) σ
def J_X9_isHollow_2 : Nat → Int32 → Int32 → xS2 → Option Bool
  | 0 => fun _ _ _ => none
  | f + 1 => fun l1 l2 σ =>
    if (4 : Int32) < l2 then
      some true
    else
      if (J_X9_beside l1 l2) < 0 then
        J_X9_isHollow_36 (J_X9_isHollow_2 f) l1 l2 σ
      else
        xgd (xin l1 36) <|
        xgd (xin (J_X9_beside l1 l2) 36) <|
        if (σ.1 44 l1.toNatClampNeg) < (σ.1 44 (J_X9_beside l1 l2).toNatClampNeg) then
          J_X9_isHollow_36 (J_X9_isHollow_2 f) l1 l2 σ
        else
          some false
def J_X9_isHollow (a1 : Int32) (σ : xS2) : Option Bool :=
  J_X9_isHollow_2 xFU a1 (1 : Int32) σ
def J_X9_storeThen_29 (s0 : Int32) (s1 : Int32) : Int32 :=
  if 0 ≤ (s0 - s1) then
    if (s0 - s1) ≤ (99 : Int32) then
      (s0 - s1)
    else
      (99 : Int32)
  else
    (0 : Int32)
def J_X9_storeThen_19 (l3 : Bool) (s0 : Int32) (s1 : Int32) : Int32 :=
  if (xb l3) = 0 then
    J_X9_storeThen_29 (s0 + s1) (4 : Int32)
  else
    J_X9_storeThen_29 (s0 + s1) (2 : Int32)
def J_X9_storeThen (a0 : Int32) (a1 : Int32) (a2 : Int32) (a3 : Bool) : Int32 :=
  if (a1 - (a2 / (2 : Int32))) ≤ 0 then
    J_X9_storeThen_19 a3 a0 (0 : Int32)
  else
    J_X9_storeThen_19 a3 a0 (a1 - (a2 / (2 : Int32)))
def J_X9_come (a1 : Int32) (a2 : Int32) (a3 : Int32) (a4 : Int32) (σ : xS2) : Option xS2 :=
  (J_X9_isHollow a1 σ).bind fun x1 =>
  xgd (xin a4 60) <|
  xgd (xin a4 60) <|
  xgd (xin (((10 : Int32) * a1) + (J_X9_dustThen a3 a4 (σ.1 47 a4.toNatClampNeg) x1)) 360) <|
  if (J_X9_storeThen a2 (σ.1 46 a4.toNatClampNeg) a3 x1) ≤ (σ.1 64 (((10 : Int32) * a1) + (J_X9_dustThen a3 a4 (σ.1 47 a4.toNatClampNeg) x1)).toNatClampNeg) then
    some σ
  else
    xgd (xin (((10 : Int32) * a1) + (J_X9_dustThen a3 a4 (σ.1 47 a4.toNatClampNeg) x1)) 360) <|
    some (yI σ 64 (((10 : Int32) * a1) + (J_X9_dustThen a3 a4 (σ.1 47 a4.toNatClampNeg) x1)).toNatClampNeg (J_X9_storeThen a2 (σ.1 46 a4.toNatClampNeg) a3 x1))
def J_X9_cost (a1 : Int32) (a2 : Int32) (σ : xS2) : Option Int32 :=
  if (xb (J_X9_isCell a1)) = 0 then
    some (-1 : Int32)
  else
    if (xb (J_X9_in a2 (1 : Int32) (4 : Int32))) = 0 then
      some (-1 : Int32)
    else
      if 0 ≤ (J_X9_beside a1 a2) then
        (J_X9_costOf a1 a2 σ).bind fun x7 =>
        some x7
      else
        some (-2 : Int32)
def J_X9_hollows_21 (k4 : Int32 → Int32 → xS2 → Option Int32) (l1 : Int32) (l2 : Int32) (σ : xS2) : Option Int32 :=
  k4 l1 (l2 + (1 : Int32)) σ
def J_X9_hollows_4 : Nat → Int32 → Int32 → xS2 → Option Int32
  | 0 => fun _ _ _ => none
  | f + 1 => fun l1 l2 σ =>
    if (36 : Int32) ≤ l2 then
      some l1
    else
      (J_X9_isHollow l2 σ).bind fun x2 =>
      if (xb x2) = 0 then
        J_X9_hollows_21 (J_X9_hollows_4 f) l1 l2 σ
      else
        J_X9_hollows_21 (J_X9_hollows_4 f) (l1 + (1 : Int32)) l2 σ
def J_X9_hollows (σ : xS2) : Option Int32 :=
  J_X9_hollows_4 xFU (0 : Int32) (0 : Int32) σ
def J_X9_stones_4 : Nat → Int32 → Int32 → xS2 → Option Int32
  | 0 => fun _ _ _ => none
  | f + 1 => fun l1 l2 σ =>
    if (36 : Int32) ≤ l2 then
      some l1
    else
      xgd (xin l2 36) <|
      J_X9_stones_4 f (l1 + (σ.1 45 l2.toNatClampNeg)) (l2 + (1 : Int32)) σ
def J_X9_stones (σ : xS2) : Option Int32 :=
  J_X9_stones_4 xFU (0 : Int32) (0 : Int32) σ
def J_X9_count (a1 : Int32) (σ : xS2) : Option Int32 :=
  if a1 = (0 : Int32) then
    (J_X9_stones σ).bind fun x2 =>
    some x2
  else
  if a1 = (1 : Int32) then
    (J_X9_hollows σ).bind fun x4 =>
    some x4
  else
  if a1 = (2 : Int32) then
    some (σ.1 43 21)
  else
  if a1 = (3 : Int32) then
    some (σ.1 43 14)
  else
  if a1 = (4 : Int32) then
    some (σ.1 43 52)
  else
  if a1 = (5 : Int32) then
    some (σ.1 43 54)
  else
  some (-1 : Int32)
def J_X9_isLooked (a1 : Int32) (σ : xS2) : Bool :=
  if (lg_cmp ((xlr (σ.2 43 11) a1) &&& (1 : Int64)) (1 : Int64)) = 0 then
    true
  else
    false
def J_X9_obeys (a1 : Int32) (σ : xS2) : Option (Bool × xS2) :=
  if a1 = 0 then
    some (true, σ)
  else
    if a1 = (5 : Int32) then
      xgd (xin (σ.1 43 8) 36) <|
      if (σ.1 45 (σ.1 43 8).toNatClampNeg) = 0 then
        some (false, σ)
      else
        if (xb (J_X9_isLooked (σ.1 43 8) σ)) = 0 then
          if (2 : Int32) ≤ (σ.1 43 9) then
            some (true, (yL (yI σ 43 9 ((σ.1 43 9) - (2 : Int32))) 43 11 ((σ.2 43 11) ||| (xls (1 : Int64) (σ.1 43 8)))))
          else
            some (false, σ)
        else
          some (false, σ)
    else
      if (J_X9_beside (σ.1 43 8) a1) < 0 then
        some (false, σ)
      else
        (J_X9_costOf (σ.1 43 8) a1 σ).bind fun x5 =>
        if x5 ≤ (σ.1 43 9) then
          (J_X9_costOf (σ.1 43 8) a1 σ).bind fun x7 =>
          some (true, (yI (yI σ 43 9 ((σ.1 43 9) - x7)) 43 8 (J_X9_beside (σ.1 43 8) a1)))
        else
          some (false, σ)
def J_X9_goDay (a1 : Int32) (a2 : Int32) (a3 : Int32) (a4 : Int32) (σ : xS2) : Option (Bool × xS2) :=
  (J_X9_obeys a1 σ).bind fun x1 =>
  (J_X9_isHollow (x1.2.1 43 8) x1.2).bind fun x2 =>
  some (x1.1, (yI (yI x1.2 43 9 (J_X9_storeThen (x1.2.1 43 9) a3 (x1.2.1 43 10) x2)) 43 10 (J_X9_dustThen (x1.2.1 43 10) a2 a4 x2)))
def J_X9_goOwn (a1 : Int32) (a2 : Int32) (σ : xS2) : Option (Bool × xS2) :=
  xgd (xin a2 60) <|
  xgd (xin a2 60) <|
  (J_X9_goDay a1 a2 (σ.1 46 a2.toNatClampNeg) (σ.1 47 a2.toNatClampNeg) σ).bind fun x3 =>
  some (x3.1, x3.2)
def J_X9_lead_37 (l2 : Bool) (s1 : Int32) (s2 : Bool) (σ : xS2) : Option (Int32 × xS2) :=
  xgd (xin s1 60) <|
  if (xb l2) = 0 then
    some ((0 : Int32), (yI (yI σ 49 s1.toNatClampNeg (xb s2)) 43 7 ((σ.1 43 7) + (1 : Int32))))
  else
    some ((1 : Int32), (yI (yI σ 49 s1.toNatClampNeg (xb s2)) 43 7 ((σ.1 43 7) + (1 : Int32))))
def J_X9_lead (a1 : Int32) (σ : xS2) : Option (Int32 × xS2) :=
  (J_X9_goOwn a1 (σ.1 43 7) σ).bind fun x1 =>
  xgd (xin (x1.2.1 43 7) 60) <|
  if (xb x1.1) = 0 then
    J_X9_lead_37 x1.1 (x1.2.1 43 7) false (yI x1.2 48 (x1.2.1 43 7).toNatClampNeg a1)
  else
    J_X9_lead_37 x1.1 (x1.2.1 43 7) true (yI x1.2 48 (x1.2.1 43 7).toNatClampNeg a1)
def J_X9_day (a1 : Int32) (σ : xS2) : Option (Int32 × xS2) :=
  if (xb (J_X9_in a1 (0 : Int32) (5 : Int32))) = 0 then
    some ((-1 : Int32), σ)
  else
    if (σ.1 43 7) = (60 : Int32) then
      some ((-5 : Int32), σ)
    else
      (J_X9_lead a1 σ).bind fun x4 =>
      some (x4.1, x4.2)
def J_X9_twoOf_163 : Option Int32 :=
  some (0 : Int32)
def J_X9_twoOf_226 : Option Int32 :=
  some (1 : Int32)
def J_X9_twoOf_218 (l1 : Int32) (l2 : Int32) : Option Int32 :=
  if l1 = 0 then
    if l2 = 0 then
      some (0 : Int32)
    else
      J_X9_twoOf_226
  else
    J_X9_twoOf_226
def J_X9_twoOf (a0 : Int32) (a1 : Int32) (a2 : Int32) : Option Int32 :=
  if a0 = (37 : Int32) then
    if a2 = 0 then
      J_X9_twoOf_163
    else
      if a2 = (-1 : Int32) then
        J_X9_twoOf_163
      else
        xgd (xnz a2) <|
        some (xrm a1 a2)
  else
  if a0 = (38 : Int32) then
    if a1 = 0 then
      some (0 : Int32)
    else
      if a2 = 0 then
        some (0 : Int32)
      else
        some (1 : Int32)
  else
  if a0 = (42 : Int32) then
    some (a1 * a2)
  else
  if a0 = (43 : Int32) then
    some (a1 + a2)
  else
  if a0 = (45 : Int32) then
    some (a1 - a2)
  else
  if a0 = (47 : Int32) then
    if a2 = 0 then
      some (0 : Int32)
    else
      if a2 = (-1 : Int32) then
        some (-a1)
      else
        xgd (xnz a2) <|
        some (a1 / a2)
  else
  if a0 = (60 : Int32) then
    if a2 ≤ a1 then
      some (0 : Int32)
    else
      some (1 : Int32)
  else
  if a0 = (61 : Int32) then
    if a1 = a2 then
      some (1 : Int32)
    else
      some (0 : Int32)
  else
  if a0 = (62 : Int32) then
    if a1 ≤ a2 then
      some (0 : Int32)
    else
      some (1 : Int32)
  else
  J_X9_twoOf_218 a1 a2
def J_X9_worked_182 (k12 : Int32 → Int32 → Int32 → Int32 → xS2 → Option (Int32 × xS2)) (l1 : Int32) (l3 : Int32) (l4 : Int32) (l5 : Int32) (σ : xS2) : Option (Int32 × xS2) :=
  k12 l1 l3 l4 (l5 + (1 : Int32)) σ
def J_X9_worked_79 (k12 : Int32 → Int32 → Int32 → Int32 → xS2 → Option (Int32 × xS2)) (l1 : Int32) (l3 : Int32) (l4 : Int32) (l5 : Int32) (s1 : Int32) (s2 : Int32) (σ : xS2) : Option (Int32 × xS2) :=
  xgd (xin s1 130) <|
  J_X9_worked_182 k12 l1 l3 (l4 + (1 : Int32)) l5 (yI σ 61 s1.toNatClampNeg s2)
def J_X9_worked_45 (k12 : Int32 → Int32 → Int32 → Int32 → xS2 → Option (Int32 × xS2)) (l1 : Int32) (l3 : Int32) (l4 : Int32) (l5 : Int32) (l6 : Int32) (σ : xS2) : Option (Int32 × xS2) :=
  if l6 = (1 : Int32) then
    xgd (xin l5 260) <|
    J_X9_worked_79 k12 l1 l3 l4 l5 l4 (σ.1 56 l5.toNatClampNeg) σ
  else
    xgd (xin l5 260) <|
    xgd (xin (σ.1 56 l5.toNatClampNeg) 7) <|
    J_X9_worked_79 k12 l1 l3 l4 l5 l4 (σ.1 60 (σ.1 56 l5.toNatClampNeg).toNatClampNeg) σ
def J_X9_worked_117 (k12 : Int32 → Int32 → Int32 → Int32 → xS2 → Option (Int32 × xS2)) (l1 : Int32) (l3 : Int32) (l4 : Int32) (l5 : Int32) (s1 : Int32) (s2 : Bool) (σ : xS2) : Option (Int32 × xS2) :=
  xgd (xin s1 130) <|
  J_X9_worked_182 k12 l1 l3 l4 l5 (yI σ 61 s1.toNatClampNeg (xb s2))
def J_X9_worked_12 : Nat → Int32 → Int32 → Int32 → Int32 → xS2 → Option (Int32 × xS2)
  | 0 => fun _ _ _ _ _ => none
  | f + 1 => fun l1 l3 l4 l5 σ =>
    if (((130 : Int32) * l1) + l3) ≤ l5 then
      some ((σ.1 61 0), σ)
    else
      xgd (xin l5 260) <|
      if (σ.1 55 l5.toNatClampNeg) = (1 : Int32) then
        J_X9_worked_45 (J_X9_worked_12 f) l1 l3 l4 l5 (σ.1 55 l5.toNatClampNeg) σ
      else
        if (σ.1 55 l5.toNatClampNeg) = (2 : Int32) then
          J_X9_worked_45 (J_X9_worked_12 f) l1 l3 l4 l5 (σ.1 55 l5.toNatClampNeg) σ
        else
          if (σ.1 55 l5.toNatClampNeg) = (3 : Int32) then
            xgd (xin (l4 - (1 : Int32)) 130) <|
            if (σ.1 61 (l4 - (1 : Int32)).toNatClampNeg) = 0 then
              J_X9_worked_117 (J_X9_worked_12 f) l1 l3 l4 l5 (l4 - (1 : Int32)) true σ
            else
              J_X9_worked_117 (J_X9_worked_12 f) l1 l3 l4 l5 (l4 - (1 : Int32)) false σ
          else
            if (σ.1 55 l5.toNatClampNeg) = (4 : Int32) then
              xgd (xin (l4 - (1 : Int32)) 130) <|
              xgd (xin (l4 - (1 : Int32)) 130) <|
              J_X9_worked_182 (J_X9_worked_12 f) l1 l3 l4 l5 (yI σ 61 (l4 - (1 : Int32)).toNatClampNeg (-(σ.1 61 (l4 - (1 : Int32)).toNatClampNeg)))
            else
              xgd (xin ((l4 + (-1 : Int32)) - (1 : Int32)) 130) <|
              xgd (xin (l4 + (-1 : Int32)) 130) <|
              (J_X9_twoOf (σ.1 55 l5.toNatClampNeg) (σ.1 61 ((l4 + (-1 : Int32)) - (1 : Int32)).toNatClampNeg) (σ.1 61 (l4 + (-1 : Int32)).toNatClampNeg)).bind fun x15 =>
              xgd (xin ((l4 + (-1 : Int32)) - (1 : Int32)) 130) <|
              J_X9_worked_182 (J_X9_worked_12 f) l1 l3 (l4 + (-1 : Int32)) l5 (yI σ 61 ((l4 + (-1 : Int32)) - (1 : Int32)).toNatClampNeg x15)
def J_X9_worked (a1 : Int32) (a2 : Int32) (a3 : Int32) (σ : xS2) : Option (Int32 × xS2) :=
  J_X9_worked_12 xFU a1 a3 (0 : Int32) (((130 : Int32) * a1) + a2) σ
def J_X9_gives_47 (l1 : Int32) (l3 : Int32) (σ : xS2) : Option (Int32 × xS2) :=
  xgd (xin l3 122) <|
  xgd (xin l3 122) <|
  (J_X9_worked l1 (σ.1 58 l3.toNatClampNeg) (σ.1 59 l3.toNatClampNeg) σ).bind fun x7 =>
  some (x7.1, x7.2)
def J_X9_gives_7 : Nat → Int32 → Int32 → Int32 → xS2 → Option (Int32 × xS2)
  | 0 => fun _ _ _ _ => none
  | f + 1 => fun l1 l2 l3 σ =>
    xgd (xin l1 2) <|
    if (((61 : Int32) * l1) + (σ.1 57 l1.toNatClampNeg)) ≤ l3 then
      some ((0 : Int32), σ)
    else
      xgd (xin l3 122) <|
      if (σ.1 58 l3.toNatClampNeg) = l2 then
        J_X9_gives_47 l1 l3 σ
      else
        xgd (xin l3 122) <|
        (J_X9_worked l1 l2 (σ.1 58 l3.toNatClampNeg) σ).bind fun x9 =>
        if x9.1 = 0 then
          xgd (xin l3 122) <|
          J_X9_gives_7 f l1 (x9.2.1 59 l3.toNatClampNeg) (l3 + (1 : Int32)) x9.2
        else
          J_X9_gives_47 l1 l3 x9.2
def J_X9_gives (a1 : Int32) (σ : xS2) : Option (Int32 × xS2) :=
  J_X9_gives_7 xFU a1 (0 : Int32) ((61 : Int32) * a1) σ
def J_X9_orderOf_103 (l1 : Int32) (s1 : Int32) (s2 : Bool) (σ : xS2) : Option (Int32 × xS2) :=
  xgd (xin s1 7) <|
  xgd (xin l1 60) <|
  (J_X9_gives (0 : Int32) (yI (yI (yI σ 60 s1.toNatClampNeg (xb s2)) 60 5 (σ.1 47 l1.toNatClampNeg)) 60 6 (σ.1 43 8))).bind fun x14 =>
  if 0 ≤ x14.1 then
    some ((xrm x14.1 (6 : Int32)), x14.2)
  else
    some ((0 : Int32), x14.2)
def J_X9_orderOf_29 (l1 : Int32) (s0 : Bool) (σ : xS2) : Option (Int32 × xS2) :=
  if (σ.1 43 33) = 0 then
    if (xb s0) = 0 then
      some ((0 : Int32), σ)
    else
      some ((5 : Int32), σ)
  else
    xgd (xin (σ.1 43 8) 36) <|
    if (xb s0) = 0 then
      J_X9_orderOf_103 l1 (4 : Int32) false (yI (yI (yI (yI σ 60 0 (σ.1 43 9)) 60 1 (σ.1 43 10)) 60 2 l1) 60 3 (σ.1 44 (σ.1 43 8).toNatClampNeg))
    else
      J_X9_orderOf_103 l1 (4 : Int32) true (yI (yI (yI (yI σ 60 0 (σ.1 43 9)) 60 1 (σ.1 43 10)) 60 2 l1) 60 3 (σ.1 44 (σ.1 43 8).toNatClampNeg))
def J_X9_orderOf_28 (l1 : Int32) (σ : xS2) : Option (Int32 × xS2) :=
  J_X9_orderOf_29 l1 false σ
def J_X9_orderOf (a1 : Int32) (σ : xS2) : Option (Int32 × xS2) :=
  xgd (xin (σ.1 43 8) 36) <|
  if (σ.1 45 (σ.1 43 8).toNatClampNeg) = (1 : Int32) then
    if (xb (J_X9_isLooked (σ.1 43 8) σ)) = 0 then
      J_X9_orderOf_29 a1 true σ
    else
      J_X9_orderOf_28 a1 σ
  else
    J_X9_orderOf_28 a1 σ
def J_X9_days_30 : Nat → Int32 → Int32 → Int32 → xS2 → Option (Int32 × xS2)
  | 0 => fun _ _ _ _ => none
  | f + 1 => fun l1 l2 l3 σ =>
    if l1 ≤ l3 then
      some (l2, σ)
    else
      (J_X9_orderOf (σ.1 43 7) σ).bind fun x5 =>
      (J_X9_lead x5.1 x5.2).bind fun x6 =>
      J_X9_days_30 f l1 (l2 + x6.1) (l3 + (1 : Int32)) x6.2
def J_X9_days (a1 : Int32) (σ : xS2) : Option (Int32 × xS2) :=
  if (xb (J_X9_in a1 (1 : Int32) (60 : Int32))) = 0 then
    some ((-1 : Int32), σ)
  else
    if ((σ.1 43 7) + a1) ≤ (60 : Int32) then
      J_X9_days_30 xFU a1 (0 : Int32) (0 : Int32) σ
    else
      some ((-5 : Int32), σ)
def J_X9_think (σ : xS2) : Option xS2 :=
  some (yL (yI (yI (yI σ 43 34 (σ.1 43 8)) 43 35 (σ.1 43 9)) 43 36 (σ.1 43 10)) 43 37 (σ.2 43 11))
def J_X9_unthink (σ : xS2) : Option xS2 :=
  some (yL (yI (yI (yI σ 43 8 (σ.1 43 34)) 43 9 (σ.1 43 35)) 43 10 (σ.1 43 36)) 43 11 (σ.2 43 37))
def J_X9_drawn_140 (k37 : Int32 → Int32 → Int32 → Int32 → Int32 → Int32 → xS2 → Option (Int32 × xS2)) (l2 : Int32) (l3 : Int32) (l4 : Int32) (l5 : Int32) (l6 : Int32) (l7 : Int32) (σ : xS2) : Option (Int32 × xS2) :=
  (J_X9_unthink σ).bind fun x10 =>
  k37 l2 l3 l4 l5 (l6 + (σ.1 43 9)) (l7 + (1 : Int32)) x10
def J_X9_drawn_124 (k37 : Int32 → Int32 → Int32 → Int32 → Int32 → Int32 → xS2 → Option (Int32 × xS2)) (k52 : Int32 → Int32 → Int32 → Int32 → Int32 → Int32 → Bool → Int32 → xS2 → Option (Int32 × xS2)) (l2 : Int32) (l3 : Int32) (l4 : Int32) (l5 : Int32) (l6 : Int32) (l7 : Int32) (l9 : Int32) (s0 : Bool) (σ : xS2) : Option (Int32 × xS2) :=
  k52 l2 l3 l4 l5 l6 l7 s0 (l9 + (1 : Int32)) σ
def J_X9_drawn_119 (k37 : Int32 → Int32 → Int32 → Int32 → Int32 → Int32 → xS2 → Option (Int32 × xS2)) (k52 : Int32 → Int32 → Int32 → Int32 → Int32 → Int32 → Bool → Int32 → xS2 → Option (Int32 × xS2)) (l2 : Int32) (l3 : Int32) (l4 : Int32) (l5 : Int32) (l6 : Int32) (l7 : Int32) (l9 : Int32) (σ : xS2) : Option (Int32 × xS2) :=
  J_X9_drawn_124 k37 k52 l2 l3 l4 l5 l6 l7 l9 true σ
def J_X9_drawn_103 (k37 : Int32 → Int32 → Int32 → Int32 → Int32 → Int32 → xS2 → Option (Int32 × xS2)) (k52 : Int32 → Int32 → Int32 → Int32 → Int32 → Int32 → Bool → Int32 → xS2 → Option (Int32 × xS2)) (l2 : Int32) (l3 : Int32) (l4 : Int32) (l5 : Int32) (l6 : Int32) (l7 : Int32) (l8 : Bool) (l9 : Int32) (s1 : Bool) (s2 : Int32) (s3 : Int32) (s4 : Int32) (σ : xS2) : Option (Int32 × xS2) :=
  (J_X9_goDay (xb s1) s2 s3 s4 σ).bind fun x13 =>
  if (xb l8) = 0 then
    if (x13.2.1 43 9) = 0 then
      J_X9_drawn_119 k37 k52 l2 l3 l4 l5 l6 l7 l9 x13.2
    else
      J_X9_drawn_124 k37 k52 l2 l3 l4 l5 l6 l7 l9 false x13.2
  else
    J_X9_drawn_119 k37 k52 l2 l3 l4 l5 l6 l7 l9 x13.2
def J_X9_drawn_52 (k37 : Int32 → Int32 → Int32 → Int32 → Int32 → Int32 → xS2 → Option (Int32 × xS2)) : Nat → Int32 → Int32 → Int32 → Int32 → Int32 → Int32 → Bool → Int32 → xS2 → Option (Int32 × xS2)
  | 0 => fun _ _ _ _ _ _ _ _ _ => none
  | f + 1 => fun l2 l3 l4 l5 l6 l7 l8 l9 σ =>
    if (60 : Int32) ≤ l9 then
      if (xb l8) = 0 then
        J_X9_drawn_140 k37 l2 l3 l4 l5 l6 l7 σ
      else
        J_X9_drawn_140 k37 l2 l3 l4 (l5 + (1 : Int32)) l6 l7 σ
    else
      xgd (xin l9 60) <|
      if (σ.1 43 6) ≤ (xrm (xus ((l4 * (1103515245 : Int32)) + (12345 : Int32)) (8 : Int32)) (12 : Int32)) then
        J_X9_drawn_103 k37 (J_X9_drawn_52 k37 f) l2 l3 ((l4 * (1103515245 : Int32)) + (12345 : Int32)) l5 l6 l7 l8 l9 false l9 (σ.1 46 l9.toNatClampNeg) (0 : Int32) σ
      else
        J_X9_drawn_103 k37 (J_X9_drawn_52 k37 f) l2 l3 ((l4 * (1103515245 : Int32)) + (12345 : Int32)) l5 l6 l7 l8 l9 false l9 (σ.1 46 l9.toNatClampNeg) (9 : Int32) σ
def J_X9_drawn_37 : Nat → Int32 → Int32 → Int32 → Int32 → Int32 → Int32 → xS2 → Option (Int32 × xS2)
  | 0 => fun _ _ _ _ _ _ _ => none
  | f + 1 => fun l2 l3 l4 l5 l6 l7 σ =>
    if l2 ≤ l7 then
      if l3 = 0 then
        some (l5, σ)
      else
        some (l6, σ)
    else
      J_X9_drawn_52 (J_X9_drawn_37 f) xFU l2 l3 l4 l5 l6 l7 false (σ.1 43 7) σ
def J_X9_drawn (a1 : Int32) (a2 : Int32) (a3 : Int32) (σ : xS2) : Option (Int32 × xS2) :=
  if (xb (J_X9_in a2 (1 : Int32) (30 : Int32))) = 0 then
    some ((-1 : Int32), σ)
  else
    if (xb (J_X9_in a3 (0 : Int32) (1 : Int32))) = 0 then
      some ((-1 : Int32), σ)
    else
      (J_X9_think σ).bind fun x5 =>
      J_X9_drawn_37 xFU a2 a3 a1 (0 : Int32) (0 : Int32) (0 : Int32) x5
def J_X9_isShelf (a0 : Int32) : Bool :=
  (J_X9_in a0 (0 : Int32) (5 : Int32))
def J_X9_whyNoPlace (a1 : Int32) (a2 : Int32) (σ : xS2) : Option Int32 :=
  if (xb (J_X9_isShelf a1)) = 0 then
    some (-1 : Int32)
  else
    xgd (xin a1 6) <|
    if (σ.1 70 a1.toNatClampNeg) = (-1 : Int32) then
      some (-11 : Int32)
    else
      xgd (xin a1 6) <|
      if (σ.1 70 a1.toNatClampNeg) < 0 then
        xgd (xin a1 6) <|
        if (xb (J_X9_in a2 (0 : Int32) ((σ.1 71 a1.toNatClampNeg) - (1 : Int32)))) = 0 then
          some (-13 : Int32)
        else
          some (0 : Int32)
      else
        some (-12 : Int32)
def J_X9_element (a1 : Int32) (a2 : Int32) (σ : xS2) : Option Int64 :=
  (J_X9_whyNoPlace a1 a2 σ).bind fun x1 =>
  if 0 ≤ x1 then
    xgd (xin (((60 : Int32) * a1) + a2) 360) <|
    some (σ.2 72 (((60 : Int32) * a1) + a2).toNatClampNeg)
  else
    some (-9223372036854775808 : Int64)
def J_X9_endOf_50 (k5 : Int32 → Int32 → Int32 → xS2 → Option Int32) (l1 : Int32) (l4 : Int32) (s0 : Int32) (σ : xS2) : Option Int32 :=
  k5 l1 s0 (l4 + (1 : Int32)) σ
def J_X9_endOf_5 : Nat → Int32 → Int32 → Int32 → xS2 → Option Int32
  | 0 => fun _ _ _ _ => none
  | f + 1 => fun l1 l3 l4 σ =>
    xgd (xin l1 6) <|
    if (σ.1 71 l1.toNatClampNeg) ≤ l4 then
      some l3
    else
      if l3 < 0 then
        some l3
      else
        (J_X9_byteAt l1 l4 σ).bind fun x4 =>
        if (xb (J_X9_in x4 (1 : Int32) (4 : Int32))) = 0 then
          J_X9_endOf_50 (J_X9_endOf_5 f) l1 l4 (-1 : Int32) σ
        else
          (J_X9_byteAt l1 l4 σ).bind fun x7 =>
          J_X9_endOf_50 (J_X9_endOf_5 f) l1 l4 (J_X9_beside l3 x7) σ
def J_X9_endOf (a1 : Int32) (a2 : Int32) (σ : xS2) : Option Int32 :=
  J_X9_endOf_5 xFU a1 a2 (0 : Int32) σ
def J_X9_feed (a1 : Int32) (σ : xS2) : Option (Int32 × xS2) :=
  if (xb (J_X9_in a1 (0 : Int32) (255 : Int32))) = 0 then
    some ((-1 : Int32), σ)
  else
    if (σ.1 43 21) = (120 : Int32) then
      some ((-3 : Int32), σ)
    else
      xgd (xin (σ.1 43 21) 120) <|
      some (((σ.1 43 21) + (1 : Int32)), (yI (yI σ 54 (σ.1 43 21).toNatClampNeg (vp_nar .byte (a1.toInt8.toInt32))) 43 21 ((σ.1 43 21) + (1 : Int32))))
def J_X9_orderAt (a1 : Int32) (a2 : Int32) (σ : xS2) : Option Int32 :=
  (J_X9_byteAt a1 a2 σ).bind fun x1 =>
  if (xb (J_X9_in x1 (0 : Int32) (5 : Int32))) = 0 then
    some (0 : Int32)
  else
    (J_X9_byteAt a1 a2 σ).bind fun x4 =>
    some x4
def J_X9_rowFault (a1 : Int32) (σ : xS2) : Option Int32 :=
  xgd (xin a1 6) <|
  if (σ.1 70 a1.toNatClampNeg) = (-1 : Int32) then
    some (-11 : Int32)
  else
    xgd (xin a1 6) <|
    if (σ.1 70 a1.toNatClampNeg) = (-2 : Int32) then
      some (0 : Int32)
    else
      some (-12 : Int32)
def J_X9_first_84 (l2 : Int32) (σ : xS2) : Option (Int32 × xS2) :=
  (J_X9_unthink σ).bind fun x8 =>
  some (l2, x8)
def J_X9_first_78 (k32 : Int32 → Int32 → Int32 → xS2 → Option (Int32 × xS2)) (l1 : Int32) (l2 : Int32) (l3 : Int32) (σ : xS2) : Option (Int32 × xS2) :=
  k32 l1 l2 (l3 + (1 : Int32)) σ
def J_X9_first_32 : Nat → Int32 → Int32 → Int32 → xS2 → Option (Int32 × xS2)
  | 0 => fun _ _ _ _ => none
  | f + 1 => fun l1 l2 l3 σ =>
    xgd (xin l1 6) <|
    if (σ.1 71 l1.toNatClampNeg) ≤ l3 then
      J_X9_first_84 l2 σ
    else
      if (60 : Int32) ≤ ((σ.1 43 7) + l3) then
        J_X9_first_84 l2 σ
      else
        if 0 ≤ l2 then
          J_X9_first_84 l2 σ
        else
          (J_X9_orderAt l1 l3 σ).bind fun x11 =>
          (J_X9_goOwn x11 ((σ.1 43 7) + l3) σ).bind fun x12 =>
          if (xb x12.1) = 0 then
            J_X9_first_78 (J_X9_first_32 f) l1 l3 l3 x12.2
          else
            J_X9_first_78 (J_X9_first_32 f) l1 l2 l3 x12.2
def J_X9_first (a1 : Int32) (σ : xS2) : Option (Int32 × xS2) :=
  if (xb (J_X9_isShelf a1)) = 0 then
    some ((-1 : Int32), σ)
  else
    (J_X9_rowFault a1 σ).bind fun x3 =>
    if 0 ≤ x3 then
      (J_X9_think σ).bind fun x5 =>
      J_X9_first_32 xFU a1 (-2 : Int32) (0 : Int32) x5
    else
      (J_X9_rowFault a1 σ).bind fun x14 =>
      some (x14, σ)
def J_X9_goOn_141 : Nat → Int32 → xS2 → Option xS2
  | 0 => fun _ _ => none
  | f + 1 => fun l2 σ =>
    if (360 : Int32) ≤ l2 then
      some σ
    else
      xgd (xin l2 360) <|
      xgd (xin l2 360) <|
      J_X9_goOn_141 f (l2 + (1 : Int32)) (yI σ 63 l2.toNatClampNeg (σ.1 64 l2.toNatClampNeg))
def J_X9_goOn_133 (k24 : Int32 → Int32 → xS2 → Option xS2) (l1 : Int32) (l2 : Int32) (σ : xS2) : Option xS2 :=
  k24 l1 (l2 + (1 : Int32)) σ
def J_X9_goOn_127 (k24 : Int32 → Int32 → xS2 → Option xS2) (k67 : Int32 → Int32 → Int32 → Int32 → xS2 → Option xS2) (l1 : Int32) (l2 : Int32) (l3 : Int32) (l4 : Int32) (σ : xS2) : Option xS2 :=
  k67 l1 l2 l3 (l4 + (1 : Int32)) σ
def J_X9_goOn_67 (k24 : Int32 → Int32 → xS2 → Option xS2) : Nat → Int32 → Int32 → Int32 → Int32 → xS2 → Option xS2
  | 0 => fun _ _ _ _ _ => none
  | f + 1 => fun l1 l2 l3 l4 σ =>
    if (4 : Int32) < l4 then
      J_X9_goOn_133 k24 l1 l2 σ
    else
      if (J_X9_beside l3 l4) < 0 then
        J_X9_goOn_127 k24 (J_X9_goOn_67 k24 f) l1 l2 l3 l4 σ
      else
        xgd (xin l2 360) <|
        (J_X9_costOf l3 l4 σ).bind fun x14 =>
        if (σ.1 63 l2.toNatClampNeg) < x14 then
          J_X9_goOn_127 k24 (J_X9_goOn_67 k24 f) l1 l2 l3 l4 σ
        else
          xgd (xin l2 360) <|
          (J_X9_costOf l3 l4 σ).bind fun x18 =>
          (J_X9_come (J_X9_beside l3 l4) ((σ.1 63 l2.toNatClampNeg) - x18) (xrm l2 (10 : Int32)) l1 σ).bind fun x19 =>
          J_X9_goOn_127 k24 (J_X9_goOn_67 k24 f) l1 l2 l3 l4 x19
def J_X9_goOn_24 : Nat → Int32 → Int32 → xS2 → Option xS2
  | 0 => fun _ _ _ => none
  | f + 1 => fun l1 l2 σ =>
    if (360 : Int32) ≤ l2 then
      J_X9_goOn_141 xFU (0 : Int32) σ
    else
      xgd (xin l2 360) <|
      if 0 ≤ (σ.1 63 l2.toNatClampNeg) then
        xgd (xin l2 360) <|
        (J_X9_come (l2 / (10 : Int32)) (σ.1 63 l2.toNatClampNeg) (xrm l2 (10 : Int32)) l1 σ).bind fun x9 =>
        J_X9_goOn_67 (J_X9_goOn_24 f) xFU l1 l2 (l2 / (10 : Int32)) (1 : Int32) x9
      else
        J_X9_goOn_133 (J_X9_goOn_24 f) l1 l2 σ
def J_X9_goOn_2 : Nat → Int32 → Int32 → xS2 → Option xS2
  | 0 => fun _ _ _ => none
  | f + 1 => fun l1 l2 σ =>
    if (360 : Int32) ≤ l2 then
      J_X9_goOn_24 xFU l1 (0 : Int32) σ
    else
      xgd (xin l2 360) <|
      J_X9_goOn_2 f l1 (l2 + (1 : Int32)) (yI σ 64 l2.toNatClampNeg (-1 : Int32))
def J_X9_goOn (a1 : Int32) (σ : xS2) : Option xS2 :=
  J_X9_goOn_2 xFU a1 (0 : Int32) σ
def J_X9_goRound_131 (p_X9_goRound : (Int32 → Int32 → Int32 → Int32 → Int32 → xS2 → Option xS2)) (k64 : Int32 → Int32 → Int32 → Int32 → Int32 → Int32 → xS2 → Option xS2) (l1 : Int32) (l2 : Int32) (l3 : Int32) (l4 : Int32) (l5 : Int32) (l6 : Int32) (σ : xS2) : Option xS2 :=
  k64 l1 l2 l3 l4 l5 (l6 + (1 : Int32)) σ
def J_X9_goRound_128 (p_X9_goRound : (Int32 → Int32 → Int32 → Int32 → Int32 → xS2 → Option xS2)) (k64 : Int32 → Int32 → Int32 → Int32 → Int32 → Int32 → xS2 → Option xS2) (l1 : Int32) (l2 : Int32) (l3 : Int32) (l4 : Int32) (l5 : Int32) (l6 : Int32) (s1 : Int32) (s2 : Int32) (s3 : Int32) (s4 : Int32) (s5 : Int32) (σ : xS2) : Option xS2 :=
  (p_X9_goRound s1 s2 s3 s4 s5 σ).bind fun x7 =>
  J_X9_goRound_131 p_X9_goRound k64 l1 l2 l3 l4 l5 l6 x7
def J_X9_goRound_105 (p_X9_goRound : (Int32 → Int32 → Int32 → Int32 → Int32 → xS2 → Option xS2)) (k64 : Int32 → Int32 → Int32 → Int32 → Int32 → Int32 → xS2 → Option xS2) (l1 : Int32) (l2 : Int32) (l3 : Int32) (l4 : Int32) (l5 : Int32) (l6 : Int32) (s1 : Int32) (s2 : Int32) (s3 : Int32) (s4 : Int32) (s6 : Int32) (s7 : Int32) (σ : xS2) : Option xS2 :=
  xgd (xin ((s6 * s7) + l6) 30) <|
  if 0 ≤ l5 then
    J_X9_goRound_128 p_X9_goRound k64 l1 l2 l3 l4 l5 l6 s1 s2 s3 (s4 + (σ.1 66 ((s6 * s7) + l6).toNatClampNeg)) l5 σ
  else
    xgd (xin l6 5) <|
    J_X9_goRound_128 p_X9_goRound k64 l1 l2 l3 l4 l5 l6 s1 s2 s3 (s4 + (σ.1 66 ((s6 * s7) + l6).toNatClampNeg)) (σ.1 65 l6.toNatClampNeg) σ
def J_X9_goRound_64 (p_X9_goRound : (Int32 → Int32 → Int32 → Int32 → Int32 → xS2 → Option xS2)) : Nat → Int32 → Int32 → Int32 → Int32 → Int32 → Int32 → xS2 → Option xS2
  | 0 => fun _ _ _ _ _ _ _ => none
  | f + 1 => fun l1 l2 l3 l4 l5 l6 σ =>
    if l1 ≤ l6 then
      some σ
    else
      if ((l2 >>> (l6 &&& 31)) &&& (1 : Int32)) = 0 then
        if 0 ≤ l3 then
          J_X9_goRound_105 p_X9_goRound (J_X9_goRound_64 p_X9_goRound f) l1 l2 l3 l4 l5 l6 l1 (l2 ||| ((1 : Int32) <<< (l6 &&& 31))) l6 l4 (5 : Int32) l3 σ
        else
          J_X9_goRound_105 p_X9_goRound (J_X9_goRound_64 p_X9_goRound f) l1 l2 l3 l4 l5 l6 l1 (l2 ||| ((1 : Int32) <<< (l6 &&& 31))) l6 l4 (5 : Int32) (5 : Int32) σ
      else
        J_X9_goRound_131 p_X9_goRound (J_X9_goRound_64 p_X9_goRound f) l1 l2 l3 l4 l5 l6 σ
def J_X9_goRound_48 (p_X9_goRound : (Int32 → Int32 → Int32 → Int32 → Int32 → xS2 → Option xS2)) (l5 : Int32) (l6 : Int32) (σ : xS2) : Option xS2 :=
  some (yI (yI σ 43 44 l6) 43 45 l5)
def J_X9_goRound_b (p_X9_goRound : (Int32 → Int32 → Int32 → Int32 → Int32 → xS2 → Option xS2)) (a1 : Int32) (a2 : Int32) (a3 : Int32) (a4 : Int32) (a5 : Int32) (σ : xS2) : Option xS2 :=
  if a2 = (((1 : Int32) <<< (a1 &&& 31)) - (1 : Int32)) then
    xgd (xin a3 5) <|
    if (σ.1 43 44) < (a4 + (σ.1 67 a3.toNatClampNeg)) then
      some σ
    else
      if (a4 + (σ.1 67 a3.toNatClampNeg)) = (σ.1 43 44) then
        if a5 ≤ (σ.1 43 45) then
          J_X9_goRound_48 p_X9_goRound a5 (a4 + (σ.1 67 a3.toNatClampNeg)) σ
        else
          some σ
      else
        J_X9_goRound_48 p_X9_goRound a5 (a4 + (σ.1 67 a3.toNatClampNeg)) σ
  else
    J_X9_goRound_64 p_X9_goRound xFU a1 a2 a3 a4 a5 (0 : Int32) σ
def G_X9_goRound : Nat → (Int32 → Int32 → Int32 → Int32 → Int32 → xS2 → Option xS2)
  | 0 => (fun _ _ _ _ _ _ => none)
  | n + 1 => (J_X9_goRound_b ((G_X9_goRound n)))
def J_X9_goRound : (Int32 → Int32 → Int32 → Int32 → Int32 → xS2 → Option xS2) := (G_X9_goRound 100)
def J_X9_heights_75 : Nat → Int32 → Int32 → Int32 → Int32 → xS2 → Option (Int32 × xS2)
  | 0 => fun _ _ _ _ _ => none
  | f + 1 => fun l1 l2 l3 l4 σ =>
    if (xrm l3 (100 : Int32)) ≤ l4 then
      some ((xrm l3 (100 : Int32)), σ)
    else
      if (lg_cmp ((l2.toInt64) + (l4.toInt64)) (0 : Int64)) < 0 then
        some (l4, σ)
      else
        xgd (xin l1 6) <|
        if 0 ≤ (lg_cmp ((l2.toInt64) + (l4.toInt64)) ((σ.1 71 l1.toNatClampNeg).toInt64)) then
          some (l4, σ)
        else
          if (xb (J_X9_isCell ((l3 / (100 : Int32)) + l4))) = 0 then
            some (l4, σ)
          else
            xgd (xin (((60 : Int32) * l1) + (((l2.toInt64) + (l4.toInt64)).toInt32)) 360) <|
            if (xb (J_X9_in ((σ.2 72 (((60 : Int32) * l1) + (((l2.toInt64) + (l4.toInt64)).toInt32)).toNatClampNeg).toInt32) (0 : Int32) (9 : Int32))) = 0 then
              some (l4, σ)
            else
              xgd (xin ((l3 / (100 : Int32)) + l4) 36) <|
              J_X9_heights_75 f l1 l2 l3 (l4 + (1 : Int32)) (yI σ 44 ((l3 / (100 : Int32)) + l4).toNatClampNeg ((σ.2 72 (((60 : Int32) * l1) + (((l2.toInt64) + (l4.toInt64)).toInt32)).toNatClampNeg).toInt32))
def J_X9_heights_60 (l1 : Int32) (l2 : Int32) (l3 : Int32) (σ : xS2) : Option (Int32 × xS2) :=
  xgd (xin l1 6) <|
  if (σ.1 70 l1.toNatClampNeg) = (-1 : Int32) then
    some ((0 : Int32), σ)
  else
    J_X9_heights_75 xFU l1 l2 l3 (0 : Int32) σ
def J_X9_heights (a1 : Int32) (a2 : Int32) (a3 : Int32) (σ : xS2) : Option (Int32 × xS2) :=
  if (xb (J_X9_isShelf a1)) = 0 then
    some ((-1 : Int32), σ)
  else
    if a3 < 0 then
      some ((-1 : Int32), σ)
    else
      if (xb (J_X9_isCell (a3 / (100 : Int32)))) = 0 then
        some ((-1 : Int32), σ)
      else
        if (xb (J_X9_in (xrm a3 (100 : Int32)) (1 : Int32) (36 : Int32))) = 0 then
          some ((-1 : Int32), σ)
        else
          xgd (xin a1 6) <|
          if (σ.1 70 a1.toNatClampNeg) = (-1 : Int32) then
            J_X9_heights_60 a1 a2 a3 σ
          else
            xgd (xin a1 6) <|
            if (σ.1 70 a1.toNatClampNeg) = (-2 : Int32) then
              J_X9_heights_60 a1 a2 a3 σ
            else
              some ((-12 : Int32), σ)
def J_X9_image (σ : xS2) : Option (Int32 × xS2) :=
  some ((σ.1 43 7), (yL (yI (yI (yI (yI (yI σ 43 46 (1 : Int32)) 43 47 (σ.1 43 7)) 43 48 (σ.1 43 8)) 43 49 (σ.1 43 9)) 43 50 (σ.1 43 10)) 43 51 (σ.2 43 11)))
def J_X9_isDay (a0 : Int32) : Bool :=
  (J_X9_in a0 (0 : Int32) (59 : Int32))
def J_X9_isThing (a1 : Int32) (a2 : Int32) : Bool :=
  if (xb (J_X9_in a2 (0 : Int32) (1 : Int32))) = 0 then
    if (xb (J_X9_in a2 (2 : Int32) (3 : Int32))) = 0 then
      if (xb (J_X9_in a2 (4 : Int32) (5 : Int32))) = 0 then
        false
      else
        if a1 = 0 then
          true
        else
          false
    else
      (J_X9_isDay a1)
  else
    (J_X9_isCell a1)
def J_X9_judge_90 (l2 : Int32) (σ : xS2) : Option (Int32 × xS2) :=
  (J_X9_unthink σ).bind fun x8 =>
  some (l2, x8)
def J_X9_judge_84 (k32 : Int32 → Int32 → Int32 → xS2 → Option (Int32 × xS2)) (l1 : Int32) (l2 : Int32) (l3 : Int32) (σ : xS2) : Option (Int32 × xS2) :=
  k32 l1 l2 (l3 + (1 : Int32)) σ
def J_X9_judge_32 : Nat → Int32 → Int32 → Int32 → xS2 → Option (Int32 × xS2)
  | 0 => fun _ _ _ _ => none
  | f + 1 => fun l1 l2 l3 σ =>
    xgd (xin l1 6) <|
    if (σ.1 71 l1.toNatClampNeg) ≤ l3 then
      J_X9_judge_90 l2 σ
    else
      if (60 : Int32) ≤ ((σ.1 43 7) + l3) then
        J_X9_judge_90 l2 σ
      else
        if 0 ≤ l2 then
          J_X9_judge_90 l2 σ
        else
          (J_X9_goOwn (0 : Int32) ((σ.1 43 7) + l3) σ).bind fun x11 =>
          (J_X9_byteAt l1 l3 x11.2).bind fun x12 =>
          if x12 = (x11.2.1 43 9) then
            J_X9_judge_84 (J_X9_judge_32 f) l1 l2 l3 x11.2
          else
            J_X9_judge_84 (J_X9_judge_32 f) l1 l3 l3 x11.2
def J_X9_judge (a1 : Int32) (σ : xS2) : Option (Int32 × xS2) :=
  if (xb (J_X9_isShelf a1)) = 0 then
    some ((-1 : Int32), σ)
  else
    (J_X9_rowFault a1 σ).bind fun x3 =>
    if 0 ≤ x3 then
      (J_X9_think σ).bind fun x5 =>
      J_X9_judge_32 xFU a1 (-2 : Int32) (0 : Int32) x5
    else
      (J_X9_rowFault a1 σ).bind fun x14 =>
      some (x14, σ)
def J_X9_keep_22 (l1 : Int32) (l2 : Int32) (σ : xS2) : Option (Int32 × xS2) :=
  xgd (xin l1 6) <|
  some ((1 : Int32), (yI σ 70 l1.toNatClampNeg l2))
def J_X9_keep (a1 : Int32) (a2 : Int32) (σ : xS2) : Option (Int32 × xS2) :=
  if (xb (J_X9_isShelf a1)) = 0 then
    some ((-1 : Int32), σ)
  else
    if a2 = (-1 : Int32) then
      J_X9_keep_22 a1 a2 σ
    else
      if (xb (J_X9_isBody a2 σ)) = 0 then
        some ((-1 : Int32), σ)
      else
        J_X9_keep_22 a1 a2 σ
def J_X9_lasts_84 (l2 : Int32) (σ : xS2) : Option (Int32 × xS2) :=
  (J_X9_unthink σ).bind fun x5 =>
  some (l2, x5)
def J_X9_lasts_78 (k24 : Int32 → Int32 → Int32 → xS2 → Option (Int32 × xS2)) (l1 : Int32) (l2 : Int32) (l3 : Int32) (σ : xS2) : Option (Int32 × xS2) :=
  k24 l1 l2 (l3 + (1 : Int32)) σ
def J_X9_lasts_59 (k24 : Int32 → Int32 → Int32 → xS2 → Option (Int32 × xS2)) (l1 : Int32) (l2 : Int32) (l3 : Int32) (s1 : Bool) (s2 : Int32) (s3 : Int32) (σ : xS2) : Option (Int32 × xS2) :=
  xgd (xin l3 60) <|
  (J_X9_goDay (xb s1) s2 s3 (σ.1 47 l3.toNatClampNeg) σ).bind fun x10 =>
  if (x10.2.1 43 9) = 0 then
    J_X9_lasts_78 k24 l1 l3 l3 x10.2
  else
    J_X9_lasts_78 k24 l1 l2 l3 x10.2
def J_X9_lasts_24 : Nat → Int32 → Int32 → Int32 → xS2 → Option (Int32 × xS2)
  | 0 => fun _ _ _ _ => none
  | f + 1 => fun l1 l2 l3 σ =>
    if (60 : Int32) ≤ l3 then
      J_X9_lasts_84 l2 σ
    else
      if 0 ≤ l2 then
        J_X9_lasts_84 l2 σ
      else
        xgd (xin l3 60) <|
        if (σ.1 46 l3.toNatClampNeg) ≤ l1 then
          J_X9_lasts_59 (J_X9_lasts_24 f) l1 l2 l3 false l3 (0 : Int32) σ
        else
          xgd (xin l3 60) <|
          J_X9_lasts_59 (J_X9_lasts_24 f) l1 l2 l3 false l3 ((σ.1 46 l3.toNatClampNeg) - l1) σ
def J_X9_lasts (a1 : Int32) (σ : xS2) : Option (Int32 × xS2) :=
  if (xb (J_X9_in a1 (0 : Int32) (20 : Int32))) = 0 then
    some ((-1 : Int32), σ)
  else
    (J_X9_think σ).bind fun x3 =>
    J_X9_lasts_24 xFU a1 (-2 : Int32) (x3.1 43 7) x3
def J_X9_oneLine_66 (l1 : Int32) (σ : xS2) : Option xS2 :=
  xgd (xin l1 122) <|
  some (yI (yI σ 59 l1.toNatClampNeg (vp_nar .short ((σ.1 43 25).toInt16.toInt32))) 57 1 ((σ.1 57 1) + (1 : Int32)))
def J_X9_oneLine (σ : xS2) : Option xS2 :=
  xgd (xin ((61 : Int32) + (σ.1 57 1)) 122) <|
  (J_X9_either (yI σ 58 ((61 : Int32) + (σ.1 57 1)).toNatClampNeg (vp_nar .short ((σ.1 43 25).toInt16.toInt32)))).bind fun x3 =>
  if 0 ≤ (x3.1 43 23) then
    J_X9_oneLine_66 ((61 : Int32) + (σ.1 57 1)) x3
  else
    (J_X9_look x3).bind fun x8 =>
    if x8 = (63 : Int32) then
      xgd (xin ((61 : Int32) + (σ.1 57 1)) 122) <|
      (J_X9_either (yI (yI x3 43 22 ((x3.1 43 22) + (1 : Int32))) 58 ((61 : Int32) + (σ.1 57 1)).toNatClampNeg (vp_nar .short ((x3.1 43 25).toInt16.toInt32)))).bind fun x11 =>
      J_X9_oneLine_66 ((61 : Int32) + (σ.1 57 1)) x11
    else
      J_X9_oneLine_66 ((61 : Int32) + (σ.1 57 1)) x3
def J_X9_readText_177 : Nat → Int32 → Int32 → xS2 → Option (Int32 × xS2)
  | 0 => fun _ _ _ => none
  | f + 1 => fun l1 l2 σ =>
    xgd (xin l1 2) <|
    if (σ.1 57 l1.toNatClampNeg) ≤ l2 then
      some ((-1 : Int32), σ)
    else
      xgd (xin ((61 : Int32) + l2) 122) <|
      xgd (xin (((61 : Int32) * l1) + l2) 122) <|
      xgd (xin ((61 : Int32) + l2) 122) <|
      xgd (xin (((61 : Int32) * l1) + l2) 122) <|
      J_X9_readText_177 f l1 (l2 + (1 : Int32)) (yI (yI σ 58 (((61 : Int32) * l1) + l2).toNatClampNeg (vp_nar .short (σ.1 58 ((61 : Int32) + l2).toNatClampNeg))) 59 (((61 : Int32) * l1) + l2).toNatClampNeg (vp_nar .short (σ.1 59 ((61 : Int32) + l2).toNatClampNeg)))
def J_X9_readText_105 : Nat → Int32 → Int32 → xS2 → Option (Int32 × xS2)
  | 0 => fun _ _ _ => none
  | f + 1 => fun l1 l2 σ =>
    if (σ.1 43 25) ≤ l2 then
      xgd (xin l1 2) <|
      J_X9_readText_177 xFU l1 (0 : Int32) (yI σ 57 l1.toNatClampNeg (σ.1 57 1))
    else
      xgd (xin ((130 : Int32) + l2) 260) <|
      xgd (xin (((130 : Int32) * l1) + l2) 260) <|
      xgd (xin ((130 : Int32) + l2) 260) <|
      xgd (xin (((130 : Int32) * l1) + l2) 260) <|
      J_X9_readText_105 f l1 (l2 + (1 : Int32)) (yI (yI σ 55 (((130 : Int32) * l1) + l2).toNatClampNeg (vp_nar .byte (σ.1 55 ((130 : Int32) + l2).toNatClampNeg))) 56 (((130 : Int32) * l1) + l2).toNatClampNeg (σ.1 56 ((130 : Int32) + l2).toNatClampNeg))
def J_X9_readText_86 (l1 : Int32) (σ : xS2) : Option (Int32 × xS2) :=
  if (σ.1 43 23) < 0 then
    J_X9_readText_105 xFU l1 (0 : Int32) (yI σ 43 21 (0 : Int32))
  else
    some ((σ.1 43 23), (yI σ 43 21 (0 : Int32)))
def J_X9_readText_64 (l1 : Int32) (σ : xS2) : Option (Int32 × xS2) :=
  if 0 ≤ (σ.1 43 23) then
    J_X9_readText_86 l1 σ
  else
    if (σ.1 43 21) ≤ (σ.1 43 22) then
      J_X9_readText_86 l1 σ
    else
      (J_X9_faulty σ).bind fun x20 =>
      J_X9_readText_86 l1 x20
def J_X9_readText_31 : Nat → Int32 → xS2 → Option (Int32 × xS2)
  | 0 => fun _ _ => none
  | f + 1 => fun l1 σ =>
    if 0 ≤ (σ.1 43 23) then
      J_X9_readText_64 l1 σ
    else
      (J_X9_look σ).bind fun x21 =>
      if x21 = (59 : Int32) then
        (J_X9_oneLine (yI σ 43 22 ((σ.1 43 22) + (1 : Int32)))).bind fun x23 =>
        J_X9_readText_31 f l1 x23
      else
        J_X9_readText_64 l1 σ
def J_X9_readText (a1 : Int32) (σ : xS2) : Option (Int32 × xS2) :=
  (J_X9_oneLine (yI (yI (yI (yI (yI σ 43 22 (0 : Int32)) 43 23 (-1 : Int32)) 43 24 (0 : Int32)) 43 25 (0 : Int32)) 57 1 (0 : Int32))).bind fun x2 =>
  J_X9_readText_31 xFU a1 x2
def J_X9_law (σ : xS2) : Option (Int32 × xS2) :=
  (J_X9_readText (0 : Int32) σ).bind fun x1 =>
  if x1.1 < 0 then
    some ((1 : Int32), (yI x1.2 43 33 (1 : Int32)))
  else
    some (((-100 : Int32) - x1.1), x1.2)
def J_X9_tellThought_50 (s0 : Int32) (σ : xS2) : Option (Int32 × xS2) :=
  (J_X9_unthink σ).bind fun x6 =>
  some (s0, x6)
def J_X9_tellThought (a1 : Int32) (σ : xS2) : Option (Int32 × xS2) :=
  if a1 = 0 then
    J_X9_tellThought_50 (σ.1 43 8) σ
  else
    if a1 = (1 : Int32) then
      J_X9_tellThought_50 (σ.1 43 9) σ
    else
      if a1 = (2 : Int32) then
        J_X9_tellThought_50 (σ.1 43 10) σ
      else
        (J_X9_bitsIn (σ.2 43 11)).bind fun x4 =>
        (J_X9_bitsIn (σ.2 43 37)).bind fun x5 =>
        J_X9_tellThought_50 (x4 - x5) σ
def J_X9_lawful_41 : Nat → Int32 → Int32 → Int32 → xS2 → Option (Int32 × xS2)
  | 0 => fun _ _ _ _ => none
  | f + 1 => fun l1 l2 l3 σ =>
    if l1 ≤ l3 then
      (J_X9_tellThought l2 σ).bind fun x8 =>
      some (x8.1, x8.2)
    else
      (J_X9_orderOf ((σ.1 43 7) + l3) σ).bind fun x9 =>
      (J_X9_goOwn x9.1 ((x9.2.1 43 7) + l3) x9.2).bind fun x10 =>
      J_X9_lawful_41 f l1 l2 (l3 + (1 : Int32)) x10.2
def J_X9_lawful (a1 : Int32) (a2 : Int32) (σ : xS2) : Option (Int32 × xS2) :=
  if (xb (J_X9_in a1 (0 : Int32) (60 : Int32))) = 0 then
    some ((-1 : Int32), σ)
  else
    if (xb (J_X9_in a2 (0 : Int32) (3 : Int32))) = 0 then
      some ((-1 : Int32), σ)
    else
      if a1 ≤ ((60 : Int32) - (σ.1 43 7)) then
        (J_X9_think σ).bind fun x6 =>
        J_X9_lawful_41 xFU a1 a2 (0 : Int32) x6
      else
        some ((-5 : Int32), σ)
def J_X9_led (a1 : Int32) (a2 : Int32) (σ : xS2) : Option Int32 :=
  if (xb (J_X9_in a1 (0 : Int32) ((σ.1 43 7) - (1 : Int32)))) = 0 then
    some (-1 : Int32)
  else
    if (xb (J_X9_in a2 (0 : Int32) (1 : Int32))) = 0 then
      some (-1 : Int32)
    else
      if a2 = 0 then
        xgd (xin a1 60) <|
        some (σ.1 48 a1.toNatClampNeg)
      else
        xgd (xin a1 60) <|
        some (σ.1 49 a1.toNatClampNeg)
def J_X9_line_71 (k33 : Int32 → Int32 → Int64 → Int32 → xS2 → Option Int64) (l1 : Int32) (l2 : Int32) (l3 : Int64) (l5 : Int32) (σ : xS2) : Option Int64 :=
  k33 l1 l2 l3 (l5 + (1 : Int32)) σ
def J_X9_line_68 (k33 : Int32 → Int32 → Int64 → Int32 → xS2 → Option Int64) (l1 : Int32) (l2 : Int32) (l5 : Int32) (s0 : Int64) (s1 : Int64) (s2 : Int32) (σ : xS2) : Option Int64 :=
  J_X9_line_71 k33 l1 l2 (s0 ||| (xls s1 s2)) l5 σ
def J_X9_line_33 : Nat → Int32 → Int32 → Int64 → Int32 → xS2 → Option Int64
  | 0 => fun _ _ _ _ _ => none
  | f + 1 => fun l1 l2 l3 l5 σ =>
    if (36 : Int32) ≤ l5 then
      some l3
    else
      (J_X9_endOf l1 l5 σ).bind fun x8 =>
      if x8 < 0 then
        J_X9_line_71 (J_X9_line_33 f) l1 l2 l3 l5 σ
      else
        if l2 = 0 then
          J_X9_line_68 (J_X9_line_33 f) l1 l2 l5 l3 (1 : Int64) l5 σ
        else
          (J_X9_endOf l1 l5 σ).bind fun x11 =>
          J_X9_line_68 (J_X9_line_33 f) l1 l2 l5 l3 (1 : Int64) x11 σ
def J_X9_line (a1 : Int32) (a2 : Int32) (σ : xS2) : Option Int64 :=
  if (xb (J_X9_isShelf a1)) = 0 then
    some (-9223372036854775808 : Int64)
  else
    if (xb (J_X9_in a2 (0 : Int32) (1 : Int32))) = 0 then
      some (-9223372036854775808 : Int64)
    else
      (J_X9_rowFault a1 σ).bind fun x5 =>
      if 0 ≤ x5 then
        J_X9_line_33 xFU a1 a2 (0 : Int64) (0 : Int32) σ
      else
        some (-9223372036854775808 : Int64)
def J_X9_mostOf (a0 : Int32) : Int32 :=
  if a0 = (1 : Int32) then
    (1 : Int32)
  else
  if a0 = (2 : Int32) then
    (20 : Int32)
  else
  if a0 = (4 : Int32) then
    (6 : Int32)
  else
  if a0 = (5 : Int32) then
    (12 : Int32)
  else
  (9 : Int32)
def J_X9_mend_20 (l1 : Int32) (l2 : Int32) (l3 : Int32) (s0 : Int32) (s1 : Bool) (σ : xS2) : Option (Int32 × xS2) :=
  if (xb (J_X9_in s0 (xb s1) (J_X9_mostOf l2))) = 0 then
    some ((-1 : Int32), σ)
  else
    (J_X9_changes l2 l1 l3 σ).bind fun x7 =>
    some (x7.1, x7.2)
def J_X9_mend (a1 : Int32) (a2 : Int32) (a3 : Int32) (σ : xS2) : Option (Int32 × xS2) :=
  if (xb (J_X9_isThing a1 a2)) = 0 then
    some ((-1 : Int32), σ)
  else
    if a2 = (4 : Int32) then
      J_X9_mend_20 a1 a2 a3 a3 true σ
    else
      J_X9_mend_20 a1 a2 a3 a3 false σ
def J_X9_mostIn_37 (k4 : Int32 → Int32 → Int32 → xS2 → Option Int32) (l1 : Int32) (l2 : Int32) (l3 : Int32) (σ : xS2) : Option Int32 :=
  k4 l1 l2 (l3 + (1 : Int32)) σ
def J_X9_mostIn_4 : Nat → Int32 → Int32 → Int32 → xS2 → Option Int32
  | 0 => fun _ _ _ _ => none
  | f + 1 => fun l1 l2 l3 σ =>
    if (10 : Int32) ≤ l3 then
      some l2
    else
      xgd (xin (((10 : Int32) * l1) + l3) 360) <|
      if (σ.1 63 (((10 : Int32) * l1) + l3).toNatClampNeg) ≤ l2 then
        J_X9_mostIn_37 (J_X9_mostIn_4 f) l1 l2 l3 σ
      else
        xgd (xin (((10 : Int32) * l1) + l3) 360) <|
        J_X9_mostIn_37 (J_X9_mostIn_4 f) l1 (σ.1 63 (((10 : Int32) * l1) + l3).toNatClampNeg) l3 σ
def J_X9_mostIn (a1 : Int32) (σ : xS2) : Option Int32 :=
  J_X9_mostIn_4 xFU a1 (-1 : Int32) (0 : Int32) σ
def J_X9_of (a1 : Int32) (a2 : Int32) (σ : xS2) : Option Int32 :=
  if (xb (J_X9_in a2 (0 : Int32) (5 : Int32))) = 0 then
    if (xb (J_X9_in a2 (10 : Int32) (11 : Int32))) = 0 then
      if a1 = 0 then
        if a2 = (20 : Int32) then
          some (σ.1 43 7)
        else
        if a2 = (21 : Int32) then
          some (σ.1 43 8)
        else
        if a2 = (22 : Int32) then
          some (σ.1 43 9)
        else
        if a2 = (23 : Int32) then
          some (σ.1 43 10)
        else
        if a2 = (24 : Int32) then
          (J_X9_bitsIn (σ.2 43 11)).bind fun x11 =>
          some x11
        else
        some (-1 : Int32)
      else
        some (-1 : Int32)
    else
      if (xb (J_X9_isCell a1)) = 0 then
        some (-1 : Int32)
      else
        if a2 = (10 : Int32) then
          (J_X9_isHollow a1 σ).bind fun x17 =>
          if (xb x17) = 0 then
            some (0 : Int32)
          else
            some (1 : Int32)
        else
          if (xb (J_X9_isLooked a1 σ)) = 0 then
            some (0 : Int32)
          else
            some (1 : Int32)
  else
    if (xb (J_X9_isThing a1 a2)) = 0 then
      some (-1 : Int32)
    else
      (J_X9_valueAt a2 a1 σ).bind fun x21 =>
      some x21
def J_X9_order (σ : xS2) : Option (Int32 × xS2) :=
  if (σ.1 43 7) = (60 : Int32) then
    some ((-5 : Int32), σ)
  else
    (J_X9_orderOf (σ.1 43 7) σ).bind fun x2 =>
    some (x2.1, x2.2)
def J_X9_put_95 (s1 : Int32) (s2 : Int64) (σ : xS2) : Option (Int32 × xS2) :=
  xgd (xin s1 360) <|
  some ((1 : Int32), (yL σ 72 s1.toNatClampNeg s2))
def J_X9_put (a1 : Int32) (a2 : Int32) (a3 : Int64) (σ : xS2) : Option (Int32 × xS2) :=
  (J_X9_whyNoPlace a1 a2 σ).bind fun x1 =>
  if 0 ≤ x1 then
    xgd (xin a1 6) <|
    if ((-2 : Int32) - (σ.1 70 a1.toNatClampNeg)) = 0 then
      J_X9_put_95 (((60 : Int32) * a1) + a2) (((a3.toInt32).toInt8.toInt32).toInt64) σ
    else
      if ((-2 : Int32) - (σ.1 70 a1.toNatClampNeg)) = (1 : Int32) then
        J_X9_put_95 (((60 : Int32) * a1) + a2) (((a3.toInt32).toInt16.toInt32).toInt64) σ
      else
        if ((-2 : Int32) - (σ.1 70 a1.toNatClampNeg)) = (2 : Int32) then
          J_X9_put_95 (((60 : Int32) * a1) + a2) ((a3.toInt32).toInt64) σ
        else
          if ((-2 : Int32) - (σ.1 70 a1.toNatClampNeg)) = (3 : Int32) then
            J_X9_put_95 (((60 : Int32) * a1) + a2) a3 σ
          else
            if (lg_cmp a3 (0 : Int64)) = 0 then
              J_X9_put_95 (((60 : Int32) * a1) + a2) (0 : Int64) σ
            else
              J_X9_put_95 (((60 : Int32) * a1) + a2) (1 : Int64) σ
  else
    some (x1, σ)
def J_X9_redo (σ : xS2) : Option (Int32 × xS2) :=
  if (σ.1 43 15) = 0 then
    some ((-5 : Int32), σ)
  else
    xgd (xin (σ.1 43 14) 40) <|
    xgd (xin (σ.1 43 14) 40) <|
    xgd (xin (σ.1 43 14) 40) <|
    (J_X9_lays (σ.1 50 (σ.1 43 14).toNatClampNeg) (σ.1 51 (σ.1 43 14).toNatClampNeg) (σ.1 53 (σ.1 43 14).toNatClampNeg) σ).bind fun x5 =>
    some (((x5.1 43 15) - (1 : Int32)), (yI (yI x5 43 14 ((x5.1 43 14) + (1 : Int32))) 43 15 ((x5.1 43 15) - (1 : Int32))))
def J_X9_toNorth_34 (k6 : Int32 → Int32 → Int32 → xS2 → Option (Int32 × xS2)) (l1 : Int32) (l2 : Int32) (l3 : Int32) (σ : xS2) : Option (Int32 × xS2) :=
  k6 l1 l2 (l3 + (1 : Int32)) σ
def J_X9_toNorth_6 : Nat → Int32 → Int32 → Int32 → xS2 → Option (Int32 × xS2)
  | 0 => fun _ _ _ _ => none
  | f + 1 => fun l1 l2 l3 σ =>
    if (6 : Int32) ≤ l3 then
      some (l2, σ)
    else
      (J_X9_findFar l3 σ).bind fun x2 =>
      xgd (xin l1 36) <|
      if l2 ≤ (x2.1 62 l1.toNatClampNeg) then
        J_X9_toNorth_34 (J_X9_toNorth_6 f) l1 l2 l3 x2
      else
        xgd (xin l1 36) <|
        J_X9_toNorth_34 (J_X9_toNorth_6 f) l1 (x2.1 62 l1.toNatClampNeg) l3 x2
def J_X9_toNorth (a1 : Int32) (σ : xS2) : Option (Int32 × xS2) :=
  J_X9_toNorth_6 xFU a1 (1000000 : Int32) (0 : Int32) σ
def J_X9_round_168 : Nat → Int32 → Int32 → Int32 → xS2 → Option (Int32 × xS2)
  | 0 => fun _ _ _ _ => none
  | f + 1 => fun l1 l2 l3 σ =>
    if l2 ≤ l3 then
      (J_X9_goRound l2 (0 : Int32) (-1 : Int32) (0 : Int32) (-1 : Int32) (yI (yI σ 43 44 (1000000 : Int32)) 43 45 (36 : Int32))).bind fun x7 =>
      if l1 = 0 then
        some ((x7.1 43 44), x7)
      else
        some ((x7.1 43 45), x7)
    else
      xgd (xin l3 5) <|
      (J_X9_toNorth (σ.1 65 l3.toNatClampNeg) σ).bind fun x10 =>
      xgd (xin l3 5) <|
      J_X9_round_168 f l1 l2 (l3 + (1 : Int32)) (yI x10.2 67 l3.toNatClampNeg x10.1)
def J_X9_round_107 (k89 : Int32 → Int32 → Int32 → xS2 → Option (Int32 × xS2)) : Nat → Int32 → Int32 → Int32 → Int32 → xS2 → Option (Int32 × xS2)
  | 0 => fun _ _ _ _ _ => none
  | f + 1 => fun l1 l2 l3 l4 σ =>
    if l2 ≤ l4 then
      xgd (xin (σ.1 43 8) 36) <|
      xgd (xin ((25 : Int32) + l3) 30) <|
      k89 l1 l2 (l3 + (1 : Int32)) (yI σ 66 ((25 : Int32) + l3).toNatClampNeg (σ.1 62 (σ.1 43 8).toNatClampNeg))
    else
      xgd (xin l4 5) <|
      xgd (xin (σ.1 65 l4.toNatClampNeg) 36) <|
      xgd (xin (((5 : Int32) * l4) + l3) 30) <|
      J_X9_round_107 k89 f l1 l2 l3 (l4 + (1 : Int32)) (yI σ 66 (((5 : Int32) * l4) + l3).toNatClampNeg (σ.1 62 (σ.1 65 l4.toNatClampNeg).toNatClampNeg))
def J_X9_round_89 : Nat → Int32 → Int32 → Int32 → xS2 → Option (Int32 × xS2)
  | 0 => fun _ _ _ _ => none
  | f + 1 => fun l1 l2 l3 σ =>
    if l2 ≤ l3 then
      J_X9_round_168 xFU l1 l2 (0 : Int32) σ
    else
      xgd (xin l3 5) <|
      (J_X9_findFar (σ.1 65 l3.toNatClampNeg) σ).bind fun x13 =>
      J_X9_round_107 (J_X9_round_89 f) xFU l1 l2 l3 (0 : Int32) x13
def J_X9_round_59 (k15 : Int32 → Int32 → Int32 → xS2 → Option (Int32 × xS2)) (l1 : Int32) (l2 : Int32) (l3 : Int32) (σ : xS2) : Option (Int32 × xS2) :=
  k15 l1 l2 (l3 + (1 : Int32)) σ
def J_X9_round_15 : Nat → Int32 → Int32 → Int32 → xS2 → Option (Int32 × xS2)
  | 0 => fun _ _ _ _ => none
  | f + 1 => fun l1 l2 l3 σ =>
    if (36 : Int32) ≤ l3 then
      if l2 = 0 then
        if l1 = 0 then
          (J_X9_toNorth (σ.1 43 8) σ).bind fun x21 =>
          some (x21.1, x21.2)
        else
          some ((-2 : Int32), σ)
      else
        J_X9_round_89 xFU l1 l2 (0 : Int32) σ
    else
      xgd (xin l3 36) <|
      if (σ.1 45 l3.toNatClampNeg) = 0 then
        J_X9_round_59 (J_X9_round_15 f) l1 l2 l3 σ
      else
        if (xb (J_X9_isLooked l3 σ)) = 0 then
          if l2 = (5 : Int32) then
            some ((-5 : Int32), σ)
          else
            xgd (xin l2 5) <|
            J_X9_round_59 (J_X9_round_15 f) l1 (l2 + (1 : Int32)) l3 (yI σ 65 l2.toNatClampNeg l3)
        else
          J_X9_round_59 (J_X9_round_15 f) l1 l2 l3 σ
def J_X9_round (a1 : Int32) (σ : xS2) : Option (Int32 × xS2) :=
  if (xb (J_X9_in a1 (0 : Int32) (1 : Int32))) = 0 then
    some ((-1 : Int32), σ)
  else
    J_X9_round_15 xFU a1 (0 : Int32) (0 : Int32) σ
def J_X9_row_54 : Nat → Int32 → Int32 → xS2 → Option (Int32 × xS2)
  | 0 => fun _ _ _ => none
  | f + 1 => fun l1 l4 σ =>
    if (((60 : Int32) * l1) + (60 : Int32)) ≤ l4 then
      some ((1 : Int32), σ)
    else
      xgd (xin l4 360) <|
      J_X9_row_54 f l1 (l4 + (1 : Int32)) (yL σ 72 l4.toNatClampNeg (0 : Int64))
def J_X9_row (a1 : Int32) (a2 : Int32) (a3 : Int32) (σ : xS2) : Option (Int32 × xS2) :=
  if (xb (J_X9_isShelf a1)) = 0 then
    some ((-1 : Int32), σ)
  else
    if (xb (J_X9_in a2 (0 : Int32) (4 : Int32))) = 0 then
      some ((-1 : Int32), σ)
    else
      if a3 ≤ (60 : Int32) then
        if 0 ≤ a3 then
          xgd (xin a1 6) <|
          xgd (xin a1 6) <|
          J_X9_row_54 xFU a1 ((60 : Int32) * a1) (yI (yI σ 70 a1.toNatClampNeg ((-2 : Int32) - a2)) 71 a1.toNatClampNeg a3)
        else
          some ((-14 : Int32), σ)
      else
        some ((-1 : Int32), σ)
def J_X9_run_67 : Nat → Int32 → Int32 → Int32 → Int32 → xS2 → Option (Int32 × xS2)
  | 0 => fun _ _ _ _ _ => none
  | f + 1 => fun l1 l2 l3 l4 σ =>
    if l2 ≤ l4 then
      (J_X9_tellThought l3 σ).bind fun x13 =>
      some (x13.1, x13.2)
    else
      (J_X9_orderAt l1 l4 σ).bind fun x14 =>
      (J_X9_goOwn x14 ((σ.1 43 7) + l4) σ).bind fun x15 =>
      J_X9_run_67 f l1 l2 l3 (l4 + (1 : Int32)) x15.2
def J_X9_run (a1 : Int32) (a2 : Int32) (a3 : Int32) (σ : xS2) : Option (Int32 × xS2) :=
  if (xb (J_X9_isShelf a1)) = 0 then
    some ((-1 : Int32), σ)
  else
    if a2 < 0 then
      some ((-1 : Int32), σ)
    else
      if (xb (J_X9_in a3 (0 : Int32) (3 : Int32))) = 0 then
        some ((-1 : Int32), σ)
      else
        (J_X9_rowFault a1 σ).bind fun x6 =>
        if 0 ≤ x6 then
          xgd (xin a1 6) <|
          if (σ.1 71 a1.toNatClampNeg) < a2 then
            some ((-5 : Int32), σ)
          else
            if a2 ≤ ((60 : Int32) - (σ.1 43 7)) then
              (J_X9_think σ).bind fun x11 =>
              J_X9_run_67 xFU a1 a2 a3 (0 : Int32) x11
            else
              some ((-5 : Int32), σ)
        else
          (J_X9_rowFault a1 σ).bind fun x16 =>
          some (x16, σ)
def J_X9_shift_150 : Nat → Int32 → Int32 → Int32 → Int32 → xS2 → Option (Int32 × xS2)
  | 0 => fun _ _ _ _ _ => none
  | f + 1 => fun l3 l4 l5 l6 σ =>
    if l5 ≤ l6 then
      some (l5, σ)
    else
      xgd (xin l6 60) <|
      xgd (xin ((((60 : Int32) * l3) + l4) + l6) 360) <|
      J_X9_shift_150 f l3 l4 l5 (l6 + (1 : Int32)) (yL σ 72 ((((60 : Int32) * l3) + l4) + l6).toNatClampNeg (σ.2 73 l6.toNatClampNeg))
def J_X9_shift_113 : Nat → Int32 → Int32 → Int32 → Int32 → Int32 → Int32 → xS2 → Option (Int32 × xS2)
  | 0 => fun _ _ _ _ _ _ _ => none
  | f + 1 => fun l1 l2 l3 l4 l5 l6 σ =>
    if l5 ≤ l6 then
      J_X9_shift_150 xFU l3 l4 l5 (0 : Int32) σ
    else
      xgd (xin ((((60 : Int32) * l1) + l2) + l6) 360) <|
      xgd (xin l6 60) <|
      J_X9_shift_113 f l1 l2 l3 l4 l5 (l6 + (1 : Int32)) (yL σ 73 l6.toNatClampNeg (σ.2 72 ((((60 : Int32) * l1) + l2) + l6).toNatClampNeg))
def J_X9_shift (a1 : Int32) (a2 : Int32) (a3 : Int32) (a4 : Int32) (a5 : Int32) (σ : xS2) : Option (Int32 × xS2) :=
  if (xb (J_X9_isShelf a1)) = 0 then
    some ((-1 : Int32), σ)
  else
    if (xb (J_X9_isShelf a3)) = 0 then
      some ((-1 : Int32), σ)
    else
      xgd (xin a1 6) <|
      if (σ.1 70 a1.toNatClampNeg) = (-1 : Int32) then
        some ((-11 : Int32), σ)
      else
        xgd (xin a3 6) <|
        if (σ.1 70 a3.toNatClampNeg) = (-1 : Int32) then
          some ((-11 : Int32), σ)
        else
          xgd (xin a1 6) <|
          if 0 ≤ (σ.1 70 a1.toNatClampNeg) then
            some ((-12 : Int32), σ)
          else
            xgd (xin a1 6) <|
            xgd (xin a3 6) <|
            if (σ.1 70 a1.toNatClampNeg) = (σ.1 70 a3.toNatClampNeg) then
              if a5 < 0 then
                some ((-13 : Int32), σ)
              else
                if a2 < 0 then
                  some ((-13 : Int32), σ)
                else
                  if a4 < 0 then
                    some ((-13 : Int32), σ)
                  else
                    xgd (xin a1 6) <|
                    if ((σ.1 71 a1.toNatClampNeg) - a5) < a2 then
                      some ((-13 : Int32), σ)
                    else
                      xgd (xin a3 6) <|
                      if a4 ≤ ((σ.1 71 a3.toNatClampNeg) - a5) then
                        J_X9_shift_113 xFU a1 a2 a3 a4 a5 (0 : Int32) σ
                      else
                        some ((-13 : Int32), σ)
            else
              some ((-12 : Int32), σ)
def J_X9_soonest_63 : Nat → Int32 → Int32 → Int32 → xS2 → Option (Int32 × xS2)
  | 0 => fun _ _ _ _ => none
  | f + 1 => fun l1 l2 l3 σ =>
    if (20 : Int32) < l3 then
      some ((-2 : Int32), σ)
    else
      (J_X9_mostIn l1 σ).bind fun x8 =>
      if x8 < 0 then
        if ((σ.1 43 7) + l3) < (60 : Int32) then
          (J_X9_goOn ((σ.1 43 7) + l3) σ).bind fun x11 =>
          J_X9_soonest_63 f l1 l2 (l3 + (1 : Int32)) x11
        else
          some ((-2 : Int32), σ)
      else
        if l2 = 0 then
          some (l3, σ)
        else
          (J_X9_mostIn l1 σ).bind fun x13 =>
          some (x13, σ)
def J_X9_soonest_20 : Nat → Int32 → Int32 → Int32 → xS2 → Option (Int32 × xS2)
  | 0 => fun _ _ _ _ => none
  | f + 1 => fun l1 l2 l3 σ =>
    if (360 : Int32) ≤ l3 then
      xgd (xin (((10 : Int32) * (σ.1 43 8)) + (σ.1 43 10)) 360) <|
      J_X9_soonest_63 xFU l1 l2 (0 : Int32) (yI σ 63 (((10 : Int32) * (σ.1 43 8)) + (σ.1 43 10)).toNatClampNeg (σ.1 43 9))
    else
      xgd (xin l3 360) <|
      J_X9_soonest_20 f l1 l2 (l3 + (1 : Int32)) (yI σ 63 l3.toNatClampNeg (-1 : Int32))
def J_X9_soonest (a1 : Int32) (a2 : Int32) (σ : xS2) : Option (Int32 × xS2) :=
  if (xb (J_X9_isCell a1)) = 0 then
    some ((-1 : Int32), σ)
  else
    if (xb (J_X9_in a2 (0 : Int32) (1 : Int32))) = 0 then
      some ((-1 : Int32), σ)
    else
      J_X9_soonest_20 xFU a1 a2 (0 : Int32) σ
def J_X9_taken (a1 : Int32) (a2 : Int32) (σ : xS2) : Option Int32 :=
  if (xb (J_X9_isShelf a1)) = 0 then
    some (-1 : Int32)
  else
    if (xb (J_X9_in a2 (0 : Int32) (7 : Int32))) = 0 then
      some (-1 : Int32)
    else
      xgd (xin a1 6) <|
      if (σ.1 70 a1.toNatClampNeg) = (-1 : Int32) then
        some (-11 : Int32)
      else
        xgd (xin a1 6) <|
        if (σ.1 70 a1.toNatClampNeg) < 0 then
          some (-12 : Int32)
        else
          xgd (xin a1 6) <|
          xgd (xin (σ.1 70 a1.toNatClampNeg) 50) <|
          if (xb (J_X9_isUnder (σ.1 68 (σ.1 70 a1.toNatClampNeg).toNatClampNeg) a2)) = 0 then
            some (-12 : Int32)
          else
            xgd (xin a1 6) <|
            xgd (xin (σ.1 70 a1.toNatClampNeg) 50) <|
            some (σ.1 68 (σ.1 70 a1.toNatClampNeg).toNatClampNeg)
def J_X9_trace (a1 : Int32) (σ : xS2) : Option Int32 :=
  if a1 < 0 then
    some (-1 : Int32)
  else
    if (σ.1 43 54) ≤ a1 then
      some (-1 : Int32)
    else
      if (24 : Int32) ≤ a1 then
        some (-1 : Int32)
      else
        xgd (xin a1 24) <|
        some (σ.1 69 a1.toNatClampNeg)
def J_X9_undo (σ : xS2) : Option (Int32 × xS2) :=
  if (σ.1 43 14) = 0 then
    some ((-5 : Int32), σ)
  else
    xgd (xin ((σ.1 43 14) - (1 : Int32)) 40) <|
    xgd (xin ((σ.1 43 14) - (1 : Int32)) 40) <|
    xgd (xin ((σ.1 43 14) - (1 : Int32)) 40) <|
    (J_X9_lays (σ.1 50 ((σ.1 43 14) - (1 : Int32)).toNatClampNeg) (σ.1 51 ((σ.1 43 14) - (1 : Int32)).toNatClampNeg) (σ.1 52 ((σ.1 43 14) - (1 : Int32)).toNatClampNeg) (yI (yI σ 43 14 ((σ.1 43 14) - (1 : Int32))) 43 15 ((σ.1 43 15) + (1 : Int32)))).bind fun x5 =>
    some ((x5.1 43 14), x5)
