/-! a round of each loop -/
theorem E_J7_fill_53178_5 (f : Nat) (l0 : Nat) (l1 : Int32) (l2 : Int32) (l3 : Int32) (σ : xS2) : J_J7_fill_53178_5 (f + 1) l0 l1 l2 l3 σ =
(    if l3 ≤ l2 then
      some σ
    else
      xgd (xin l2 (xSH l0).2) <|
      J_J7_fill_53178_5 f l0 l1 (l2 + (1 : Int32)) l3 (yI σ l0 l2.toNatClampNeg l1)) := rfl
theorem E_J7_fill_d0a16_6 (f : Nat) (l0 : Nat) (l1 : Int64) (l3 : Int32) (l4 : Int32) (σ : xS2) : J_J7_fill_d0a16_6 (f + 1) l0 l1 l3 l4 σ =
(    if l4 ≤ l3 then
      some σ
    else
      xgd (xin l3 (xSH l0).2) <|
      J_J7_fill_d0a16_6 f l0 l1 (l3 + (1 : Int32)) l4 (yL σ l0 l3.toNatClampNeg l1)) := rfl
theorem E_X3_isHollow_2 (f : Nat) (l1 : Int32) (l2 : Int32) (σ : xS2) : J_X3_isHollow_2 (f + 1) l1 l2 σ =
(    if (4 : Int32) < l2 then
      some true
    else
      if (J_X3_neighbour l1 l2) < 0 then
        J_X3_isHollow_32 (J_X3_isHollow_2 f) l1 l2 σ
      else
        (J_X3_high (J_X3_neighbour l1 l2) σ).bind fun x4 =>
        (J_X3_high l1 σ).bind fun x5 =>
        if x5 < x4 then
          J_X3_isHollow_32 (J_X3_isHollow_2 f) l1 l2 σ
        else
          some false) := rfl
theorem E_X2_readNumber_4 (f : Nat) (l1 : Int32) (l2 : Int32) (σ : xS2) : J_X2_readNumber_4 (f + 1) l1 l2 σ =
(    if (4 : Int32) ≤ l2 then
      J_X2_readNumber_48 l1 σ
    else
      (J_X2_sign σ).bind fun x3 =>
      if (xb (J_X2_isDigit x3)) = 0 then
        J_X2_readNumber_48 l1 σ
      else
        (J_X2_sign σ).bind fun x6 =>
        J_X2_readNumber_4 f (((l1 * (10 : Int32)) + x6) - (48 : Int32)) (l2 + (1 : Int32)) (yI σ 8 7 ((σ.1 8 7) + (1 : Int32)))) := rfl
theorem E_X2_readAnd_7 (p_X2_readCompared : (Int32 → xS2 → Option xS2)) (f : Nat) (l1 : Int32) (l2 : Int32) (σ : xS2) : J_X2_readAnd_7 p_X2_readCompared (f + 1) l1 l2 σ =
(    if (120 : Int32) ≤ l2 then
      some σ
    else
      (J_X2_pass (38 : Int32) σ).bind fun x3 =>
      if (xb x3.1) = 0 then
        some x3.2
      else
        (p_X2_readCompared l1 x3.2).bind fun x5 =>
        (J_X2_write (-38 : Int32) x5).bind fun x6 =>
        J_X2_readAnd_7 p_X2_readCompared f l1 (l2 + (1 : Int32)) x6) := rfl
theorem E_X2_readOr_7 (p_X2_readAnd : (Int32 → xS2 → Option xS2)) (f : Nat) (l1 : Int32) (l2 : Int32) (σ : xS2) : J_X2_readOr_7 p_X2_readAnd (f + 1) l1 l2 σ =
(    if (120 : Int32) ≤ l2 then
      some σ
    else
      (J_X2_pass (124 : Int32) σ).bind fun x3 =>
      if (xb x3.1) = 0 then
        some x3.2
      else
        (p_X2_readAnd l1 x3.2).bind fun x5 =>
        (J_X2_write (-124 : Int32) x5).bind fun x6 =>
        J_X2_readOr_7 p_X2_readAnd f l1 (l2 + (1 : Int32)) x6) := rfl
theorem E_X2_readProduct_7 (p_X2_readOperand : (Int32 → xS2 → Option xS2)) (f : Nat) (l1 : Int32) (l2 : Int32) (σ : xS2) : J_X2_readProduct_7 p_X2_readOperand (f + 1) l1 l2 σ =
(    if (120 : Int32) ≤ l2 then
      some σ
    else
      (J_X2_sign σ).bind fun x3 =>
      if x3 = (42 : Int32) then
        J_X2_readProduct_39 p_X2_readOperand (J_X2_readProduct_7 p_X2_readOperand f) l1 l2 x3 σ
      else
        if x3 = (47 : Int32) then
          J_X2_readProduct_39 p_X2_readOperand (J_X2_readProduct_7 p_X2_readOperand f) l1 l2 x3 σ
        else
          if x3 = (37 : Int32) then
            J_X2_readProduct_39 p_X2_readOperand (J_X2_readProduct_7 p_X2_readOperand f) l1 l2 x3 σ
          else
            some σ) := rfl
theorem E_X2_readSum_7 (p_X2_readProduct : (Int32 → xS2 → Option xS2)) (f : Nat) (l1 : Int32) (l2 : Int32) (σ : xS2) : J_X2_readSum_7 p_X2_readProduct (f + 1) l1 l2 σ =
(    if (120 : Int32) ≤ l2 then
      some σ
    else
      (J_X2_sign σ).bind fun x3 =>
      if x3 = (43 : Int32) then
        J_X2_readSum_33 p_X2_readProduct (J_X2_readSum_7 p_X2_readProduct f) l1 l2 x3 σ
      else
        if x3 = (45 : Int32) then
          J_X2_readSum_33 p_X2_readProduct (J_X2_readSum_7 p_X2_readProduct f) l1 l2 x3 σ
        else
          some σ) := rfl
theorem E_X2_readLines_2 (f : Nat) (l1 : Int32) (σ : xS2) : J_X2_readLines_2 (f + 1) l1 σ =
(    if (120 : Int32) < l1 then
      J_X2_readLines_57 σ
    else
      (J_X2_readOr (0 : Int32) σ).bind fun x4 =>
      (J_X2_pass (63 : Int32) x4).bind fun x5 =>
      if (xb x5.1) = 0 then
        J_X2_readLines_33 (J_X2_readLines_2 f) l1 x5.2
      else
        (J_X2_write (-63 : Int32) x5.2).bind fun x10 =>
        (J_X2_readOr (0 : Int32) x10).bind fun x11 =>
        J_X2_readLines_33 (J_X2_readLines_2 f) l1 x11) := rfl
theorem E_X2_workOut_11 (f : Nat) (l2 : Nat) (l3 : Int32) (l4 : Bool) (l5 : Int32) (σ : xS2) : J_X2_workOut_11 (f + 1) l2 l3 l4 l5 σ =
(    if (σ.1 8 5) ≤ l5 then
      some ((0 : Int32), σ)
    else
      xgd (xin l5 121) <|
      if (σ.1 11 l5.toNatClampNeg) = (-59 : Int32) then
        if (xb l4) = 0 then
          (J_X2_pop σ).bind fun x10 =>
          some (x10.1, x10.2)
        else
          J_X2_workOut_90 (J_X2_workOut_11 f) l2 l3 false l5 σ
      else
        if (xb l4) = 0 then
          if (σ.1 11 l5.toNatClampNeg) = (-63 : Int32) then
            (J_X2_pop σ).bind fun x7 =>
            if x7.1 = 0 then
              J_X2_workOut_76 (J_X2_workOut_11 f) l2 l3 l5 true x7.2
            else
              J_X2_workOut_76 (J_X2_workOut_11 f) l2 l3 l5 false x7.2
          else
            (J_X2_step (σ.1 11 l5.toNatClampNeg) l2 l3 σ).bind fun x6 =>
            J_X2_workOut_90 (J_X2_workOut_11 f) l2 l3 l4 l5 x6
        else
          J_X2_workOut_90 (J_X2_workOut_11 f) l2 l3 l4 l5 σ) := rfl
theorem E_X3_hollows_4 (f : Nat) (l1 : Int32) (l2 : Int32) (σ : xS2) : J_X3_hollows_4 (f + 1) l1 l2 σ =
(    if (36 : Int32) ≤ l2 then
      some l1
    else
      (J_X3_isHollow l2 σ).bind fun x2 =>
      if (xb x2) = 0 then
        J_X3_hollows_21 (J_X3_hollows_4 f) l1 l2 σ
      else
        J_X3_hollows_21 (J_X3_hollows_4 f) (l1 + (1 : Int32)) l2 σ) := rfl
theorem E_X3_stones_4 (f : Nat) (l1 : Int32) (l2 : Int32) (σ : xS2) : J_X3_stones_4 (f + 1) l1 l2 σ =
(    if (36 : Int32) ≤ l2 then
      some l1
    else
      (J_X3_isStone l2 σ).bind fun x2 =>
      if (xb x2) = 0 then
        J_X3_stones_21 (J_X3_stones_4 f) l1 l2 σ
      else
        J_X3_stones_21 (J_X3_stones_4 f) (l1 + (1 : Int32)) l2 σ) := rfl
theorem E_X4_goOn_50 (k24 : Int32 → Int32 → Int32 → Int32 → xS2 → Option xS2) (f : Nat) (l2 : Int32) (l3 : Int32) (l4 : Int32) (l5 : Int32) (l6 : Int32) (σ : xS2) : J_X4_goOn_50 k24 (f + 1) l2 l3 l4 l5 l6 σ =
(    if (4 : Int32) < l6 then
      J_X4_goOn_114 k24 l2 l3 l4 l5 σ
    else
      xgd (xin l5 360) <|
      (J_X0_place 22 (l5 / (10 : Int32)) (σ.1 20 l5.toNatClampNeg) (xrm l5 (10 : Int32)) σ).bind fun x10 =>
      (J_X0_liveUnder 22 l2 l6 l3 l4 x10).bind fun x11 =>
      if (xb x11.1) = 0 then
        J_X4_goOn_108 k24 (J_X4_goOn_50 k24 f) l2 l3 l4 l5 l6 x11.2
      else
        (J_X4_arrive 21 22 x11.2).bind fun x13 =>
        J_X4_goOn_108 k24 (J_X4_goOn_50 k24 f) l2 l3 l4 l5 l6 x13) := rfl
theorem E_X4_goOn_24 (f : Nat) (l2 : Int32) (l3 : Int32) (l4 : Int32) (l5 : Int32) (σ : xS2) : J_X4_goOn_24 (f + 1) l2 l3 l4 l5 σ =
(    if (360 : Int32) ≤ l5 then
      xgd (xcg (0 : Int32) (0 : Int32) (360 : Int32) 360 360) <|
      some (yCI σ 21 (0 : Int32).toNatClampNeg 20 (0 : Int32).toNatClampNeg (360 : Int32).toNatClampNeg)
    else
      xgd (xin l5 360) <|
      if 0 ≤ (σ.1 20 l5.toNatClampNeg) then
        J_X4_goOn_50 (J_X4_goOn_24 f) xFU l2 l3 l4 l5 (0 : Int32) σ
      else
        J_X4_goOn_114 (J_X4_goOn_24 f) l2 l3 l4 l5 σ) := rfl
theorem E_X4_mostIn_4 (f : Nat) (l1 : Int32) (l2 : Int32) (l3 : Int32) (σ : xS2) : J_X4_mostIn_4 (f + 1) l1 l2 l3 σ =
(    if (10 : Int32) ≤ l3 then
      some l2
    else
      xgd (xin ((l1 * (10 : Int32)) + l3) 360) <|
      J_X4_mostIn_4 f l1 (xmax l2 (σ.1 20 ((l1 * (10 : Int32)) + l3).toNatClampNeg)) (l3 + (1 : Int32)) σ) := rfl
theorem E_X4_find_30 (f : Nat) (l3 : Int32) (l4 : Int32) (l5 : Int32) (l6 : Int32) (σ : xS2) : J_X4_find_30 (f + 1) l3 l4 l5 l6 σ =
(    if l5 < l6 then
      some (false, σ)
    else
      (J_X4_mostIn l4 σ).bind fun x4 =>
      if x4 < 0 then
        if l5 ≤ l6 then
          J_X4_find_78 (J_X4_find_30 f) l3 l4 l5 l6 (yI (yI σ 19 4 x4) 19 3 l6)
        else
          (J_X4_goOn (l3 + l6) (yI (yI σ 19 4 x4) 19 3 l6)).bind fun x7 =>
          J_X4_find_78 (J_X4_find_30 f) l3 l4 l5 l6 x7
      else
        some (true, (yI (yI σ 19 4 x4) 19 3 l6))) := rfl
theorem E_X6_chooseFirst_33 (f : Nat) (l2 : Int32) (l3 : Int32) (σ : xS2) : J_X6_chooseFirst_33 (f + 1) l2 l3 σ =
(    if (σ.1 13 5) ≤ l3 then
      some σ
    else
      xgd (xin l3 5) <|
      xgd (xin (((l2 ^^^ ((1 : Int32) <<< (l3 &&& 31))) * (5 : Int32)) + l3) 160) <|
      if (σ.1 13 6) ≤ ((σ.1 16 l3.toNatClampNeg) + (σ.1 18 (((l2 ^^^ ((1 : Int32) <<< (l3 &&& 31))) * (5 : Int32)) + l3).toNatClampNeg)) then
        J_X6_chooseFirst_89 (J_X6_chooseFirst_33 f) l2 l3 σ
      else
        xgd (xin l3 5) <|
        J_X6_chooseFirst_89 (J_X6_chooseFirst_33 f) l2 l3 (yI (yI σ 13 6 ((σ.1 16 l3.toNatClampNeg) + (σ.1 18 (((l2 ^^^ ((1 : Int32) <<< (l3 &&& 31))) * (5 : Int32)) + l3).toNatClampNeg))) 13 7 (σ.1 15 l3.toNatClampNeg))) := rfl
theorem E_X6_firstFrom_2 (f : Nat) (l2 : Int32) (l3 : Int32) (σ : xS2) : J_X6_firstFrom_2 (f + 1) l2 l3 σ =
(    if (4 : Int32) < l3 then
      some (-1 : Int32)
    else
      if (J_X3_neighbour l2 l3) < 0 then
        J_X6_firstFrom_44 (J_X6_firstFrom_2 f) l2 l3 σ
      else
        (J_X3_price l2 (J_X3_neighbour l2 l3) σ).bind fun x4 =>
        (J_X6_costFrom (J_X3_neighbour l2 l3) σ).bind fun x5 =>
        (J_X6_costFrom l2 σ).bind fun x6 =>
        if (x4 + x5) = x6 then
          some (J_X3_neighbour l2 l3)
        else
          J_X6_firstFrom_44 (J_X6_firstFrom_2 f) l2 l3 σ) := rfl
theorem E_X6_leastRest_21 (f : Nat) (l1 : Int32) (l2 : Int32) (l3 : Int32) (l4 : Int32) (σ : xS2) : J_X6_leastRest_21 (f + 1) l1 l2 l3 l4 σ =
(    if (σ.1 13 5) ≤ l4 then
      some l3
    else
      if ((xus l1 l4) &&& (1 : Int32)) = 0 then
        J_X6_leastRest_76 (J_X6_leastRest_21 f) l1 l2 l3 l4 σ
      else
        xgd (xin (((l1 ^^^ ((1 : Int32) <<< (l4 &&& 31))) * (5 : Int32)) + l4) 160) <|
        xgd (xin ((l2 * (5 : Int32)) + l4) 25) <|
        J_X6_leastRest_76 (J_X6_leastRest_21 f) l1 l2 (xmin l3 ((σ.1 17 ((l2 * (5 : Int32)) + l4).toNatClampNeg) + (σ.1 18 (((l1 ^^^ ((1 : Int32) <<< (l4 &&& 31))) * (5 : Int32)) + l4).toNatClampNeg))) l4 σ) := rfl
theorem E_X6_listStones_7 (f : Nat) (l2 : Nat) (l3 : Int32) (σ : xS2) : J_X6_listStones_7 (f + 1) l2 l3 σ =
(    if (36 : Int32) ≤ l3 then
      some (true, σ)
    else
      (J_X3_isStone l3 σ).bind fun x2 =>
      if (xb x2) = 0 then
        J_X6_listStones_62 (J_X6_listStones_7 f) l2 l3 σ
      else
        if (xb (J_X0_hasLookedAt l2 l3 σ)) = 0 then
          if (σ.1 13 5) < (5 : Int32) then
            xgd (xin (σ.1 13 5) 5) <|
            J_X6_listStones_62 (J_X6_listStones_7 f) l2 l3 (yI (yI σ 15 (σ.1 13 5).toNatClampNeg l3) 13 5 ((σ.1 13 5) + (1 : Int32)))
          else
            some (false, σ)
        else
          J_X6_listStones_62 (J_X6_listStones_7 f) l2 l3 σ) := rfl
theorem E_X6_nearest_5 (f : Nat) (l1 : Int64) (l3 : Int32) (l4 : Int32) (σ : xS2) : J_X6_nearest_5 (f + 1) l1 l3 l4 σ =
(    if (36 : Int32) ≤ l4 then
      some l3
    else
      if (lg_cmp ((xlu l1 l4) &&& (1 : Int64)) (0 : Int64)) = 0 then
        if l3 < 0 then
          J_X6_nearest_43 (J_X6_nearest_5 f) l1 l4 σ
        else
          xgd (xin l4 36) <|
          xgd (xin l3 36) <|
          if (σ.1 14 l3.toNatClampNeg) ≤ (σ.1 14 l4.toNatClampNeg) then
            J_X6_nearest_46 (J_X6_nearest_5 f) l1 l3 l4 σ
          else
            J_X6_nearest_43 (J_X6_nearest_5 f) l1 l4 σ
      else
        J_X6_nearest_46 (J_X6_nearest_5 f) l1 l3 l4 σ) := rfl
theorem E_X6_spreadFrom_2 (f : Nat) (l2 : Int32) (l3 : Int32) (σ : xS2) : J_X6_spreadFrom_2 (f + 1) l2 l3 σ =
(    if (4 : Int32) < l3 then
      some σ
    else
      if (J_X3_neighbour l2 l3) < 0 then
        J_X6_spreadFrom_50 (J_X6_spreadFrom_2 f) l2 l3 σ
      else
        xgd (xin (J_X3_neighbour l2 l3) 36) <|
        (J_X3_price (J_X3_neighbour l2 l3) l2 σ).bind fun x5 =>
        xgd (xin l2 36) <|
        xgd (xin (J_X3_neighbour l2 l3) 36) <|
        J_X6_spreadFrom_50 (J_X6_spreadFrom_2 f) l2 l3 (yI σ 14 (J_X3_neighbour l2 l3).toNatClampNeg (xmin (σ.1 14 (J_X3_neighbour l2 l3).toNatClampNeg) (x5 + (σ.1 14 l2.toNatClampNeg))))) := rfl
theorem E_X6_spreadTo_67 (f : Nat) (l3 : Int64) (l5 : Int32) (σ : xS2) : J_X6_spreadTo_67 (f + 1) l3 l5 σ =
(    if (36 : Int32) ≤ l5 then
      some σ
    else
      (J_X6_nearest l3 σ).bind fun x3 =>
      if 0 ≤ x3 then
        (J_X6_spreadFrom x3 σ).bind fun x5 =>
        J_X6_spreadTo_67 f (l3 ||| (xls (1 : Int64) x3)) (l5 + (1 : Int32)) x5
      else
        some σ) := rfl
theorem E_X6_spreadTo_2 (f : Nat) (l2 : Int32) (l3 : Int32) (σ : xS2) : J_X6_spreadTo_2 (f + 1) l2 l3 σ =
(    if (36 : Int32) ≤ l3 then
      J_X6_spreadTo_67 xFU (0 : Int64) (0 : Int32) σ
    else
      if l2 = (-1 : Int32) then
        if (6 : Int32) ≤ l3 then
          J_X6_spreadTo_37 (J_X6_spreadTo_2 f) l2 l3 false σ
        else
          J_X6_spreadTo_37 (J_X6_spreadTo_2 f) l2 l3 true σ
      else
        if l3 = l2 then
          J_X6_spreadTo_37 (J_X6_spreadTo_2 f) l2 l3 true σ
        else
          J_X6_spreadTo_37 (J_X6_spreadTo_2 f) l2 l3 false σ) := rfl
theorem E_X6_planRound_113 (k100 : Nat → Int32 → xS2 → Option (Bool × xS2)) (f : Nat) (l2 : Nat) (l3 : Int32) (l4 : Int32) (σ : xS2) : J_X6_planRound_113 k100 (f + 1) l2 l3 l4 σ =
(    if (σ.1 13 5) ≤ l4 then
      k100 l2 (l3 + (1 : Int32)) σ
    else
      (J_X6_leastRest l3 l4 σ).bind fun x9 =>
      xgd (xin ((l3 * (5 : Int32)) + l4) 160) <|
      J_X6_planRound_113 k100 f l2 l3 (l4 + (1 : Int32)) (yI σ 18 ((l3 * (5 : Int32)) + l4).toNatClampNeg x9)) := rfl
theorem E_X6_planRound_100 (f : Nat) (l2 : Nat) (l3 : Int32) (σ : xS2) : J_X6_planRound_100 (f + 1) l2 l3 σ =
(    if ((1 : Int32) <<< ((σ.1 13 5) &&& 31)) ≤ l3 then
      (J_X6_costFrom (σ.1 l2 0) σ).bind fun x6 =>
      (J_X6_chooseFirst x6 σ).bind fun x7 =>
      some (true, x7)
    else
      J_X6_planRound_113 (J_X6_planRound_100 f) xFU l2 l3 (0 : Int32) σ) := rfl
theorem E_X6_planRound_49 (k13 : Nat → Int32 → xS2 → Option (Bool × xS2)) (f : Nat) (l2 : Nat) (l3 : Int32) (l4 : Int32) (σ : xS2) : J_X6_planRound_49 k13 (f + 1) l2 l3 l4 σ =
(    if (σ.1 13 5) ≤ l4 then
      k13 l2 (l3 + (1 : Int32)) σ
    else
      xgd (xin l4 5) <|
      (J_X6_costFrom (σ.1 15 l4.toNatClampNeg) σ).bind fun x17 =>
      xgd (xin ((l4 * (5 : Int32)) + l3) 25) <|
      J_X6_planRound_49 k13 f l2 l3 (l4 + (1 : Int32)) (yI σ 17 ((l4 * (5 : Int32)) + l3).toNatClampNeg x17)) := rfl
theorem E_X6_planRound_13 (f : Nat) (l2 : Nat) (l3 : Int32) (σ : xS2) : J_X6_planRound_13 (f + 1) l2 l3 σ =
(    if (σ.1 13 5) ≤ l3 then
      (J_X6_spreadTo (-1 : Int32) σ).bind fun x4 =>
      J_X6_planRound_100 xFU l2 (0 : Int32) x4
    else
      xgd (xin l3 5) <|
      (J_X6_spreadTo (σ.1 15 l3.toNatClampNeg) σ).bind fun x12 =>
      (J_X6_costFrom (x12.1 l2 0) x12).bind fun x13 =>
      xgd (xin l3 5) <|
      J_X6_planRound_49 (J_X6_planRound_13 f) xFU l2 l3 (0 : Int32) (yI x12 16 l3.toNatClampNeg x13)) := rfl
theorem E_X7_begin_6 (p_X7_answerOfWheel : (Int32 → Int32 → Int32 → xS2 → Option (Int32 × xS2))) (p_X7_answerUnder : (Int32 → Int32 → Int32 → Int32 → Int32 → xS2 → Option (Int32 × xS2))) (f : Nat) (l1 : Int32) (l3 : Int32) (l4 : Int32) (l5 : Int32) (l6 : Int32) (σ : xS2) : J_X7_begin_6 p_X7_answerOfWheel p_X7_answerUnder (f + 1) l1 l3 l4 l5 l6 σ =
(    if (8 : Int32) ≤ l6 then
      J_X7_begin_49 p_X7_answerOfWheel p_X7_answerUnder l1 l3 l4 l5 σ
    else
      if (xb (J_X7_isKind l5)) = 0 then
        J_X7_begin_49 p_X7_answerOfWheel p_X7_answerUnder l1 l3 l4 l5 σ
      else
        xgd (xin ((l1 * (8 : Int32)) + l5) 32) <|
        if (xsv 4 ((l1 * (8 : Int32)) + l5)) = 0 then
          xgd (xin l5 8) <|
          J_X7_begin_6 p_X7_answerOfWheel p_X7_answerUnder f l1 l3 l4 (xsv 5 l5) (l6 + (1 : Int32)) σ
        else
          J_X7_begin_49 p_X7_answerOfWheel p_X7_answerUnder l1 l3 l4 l5 σ) := rfl
theorem E_X7_isUnder_4 (f : Nat) (l1 : Int32) (l2 : Int32) (l3 : Int32) (σ : xS2) : J_X7_isUnder_4 (f + 1) l1 l2 l3 σ =
(    if (8 : Int32) ≤ l3 then
      some false
    else
      if (xb (J_X7_isKind l2)) = 0 then
        some false
      else
        if l2 = l1 then
          some true
        else
          xgd (xin l2 8) <|
          J_X7_isUnder_4 f l1 (xsv 5 l2) (l3 + (1 : Int32)) σ) := rfl
theorem E_X8_greatestCommon_9 (f : Nat) (l4 : Int64) (l6 : Int64) (l8 : Int32) : J_X8_greatestCommon_9 (f + 1) l4 l6 l8 =
(    if (200 : Int32) ≤ l8 then
      some l4
    else
      if (lg_cmp l6 (0 : Int64)) = 0 then
        some l4
      else
        xgd (xnzL l6) <|
        J_X8_greatestCommon_9 f l6 (xrmL l4 l6) (l8 + (1 : Int32))) := rfl
theorem E_X8_power_5 (f : Nat) (l0 : Int64) (l2 : Int32) (l3 : Int64) (l5 : Int32) : J_X8_power_5 (f + 1) l0 l2 l3 l5 =
(    if l2 ≤ l5 then
      some l3
    else
      J_X8_power_5 f l0 l2 (l3 * l0) (l5 + (1 : Int32))) := rfl
theorem E_X8_clean_91 (f : Nat) (l1 : Int32) (l3 : Int32) (l4 : Int64) (l6 : Int64) (l8 : Int64) (l10 : Int32) (σ : xS2) : J_X8_clean_91 (f + 1) l1 l3 l4 l6 l8 l10 σ =
(    if l1 ≤ l10 then
      J_X8_clean_128 l3 l6 l8 σ
    else
      (J_X8_power l4 l10).bind fun x15 =>
      (J_X8_power (12 : Int64) ((l1 - (1 : Int32)) - l10)).bind fun x16 =>
      J_X8_clean_91 f l1 l3 l4 (l6 + (x15 * x16)) l8 (l10 + (1 : Int32)) σ) := rfl
theorem E_X8_days_31 (f : Nat) (l1 : Int32) (l2 : Int32) (l3 : Int32) (σ : xS2) : J_X8_days_31 (f + 1) l1 l2 l3 σ =
(    if l1 ≤ l3 then
      some (l2, σ)
    else
      (J_X2_orderFor 3 (σ.1 0 12) σ).bind fun x5 =>
      (J_X8_live x5.1 x5.2).bind fun x6 =>
      if (xb x6.1) = 0 then
        J_X8_days_65 (J_X8_days_31 f) l1 l2 l3 x6.2
      else
        J_X8_days_65 (J_X8_days_31 f) l1 (l2 + (1 : Int32)) l3 x6.2) := rfl
theorem E_X8_drawn_59 (k33 : Int32 → Int32 → Int32 → Int32 → Int32 → Int32 → xS2 → Option (Int32 × xS2)) (f : Nat) (l2 : Int32) (l3 : Int32) (l4 : Int32) (l5 : Int32) (l6 : Int32) (l7 : Int32) (l8 : Bool) (l9 : Int32) (σ : xS2) : J_X8_drawn_59 k33 (f + 1) l2 l3 l4 l5 l6 l7 l8 l9 σ =
(    if (60 : Int32) ≤ l9 then
      if (xb l8) = 0 then
        J_X8_drawn_157 k33 l2 l3 l4 l5 l6 l7 σ
      else
        J_X8_drawn_157 k33 l2 l3 l4 (l5 + (1 : Int32)) l6 l7 σ
    else
      if (J_X3_odds σ) ≤ (xrm (xus ((l4 * (1103515245 : Int32)) + (12345 : Int32)) (8 : Int32)) (12 : Int32)) then
        J_X8_drawn_102 k33 (J_X8_drawn_59 k33 f) l2 l3 ((l4 * (1103515245 : Int32)) + (12345 : Int32)) l5 l6 l7 l8 l9 (0 : Int32) σ
      else
        J_X8_drawn_102 k33 (J_X8_drawn_59 k33 f) l2 l3 ((l4 * (1103515245 : Int32)) + (12345 : Int32)) l5 l6 l7 l8 l9 (9 : Int32) σ) := rfl
theorem E_X8_drawn_33 (f : Nat) (l2 : Int32) (l3 : Int32) (l4 : Int32) (l5 : Int32) (l6 : Int32) (l7 : Int32) (σ : xS2) : J_X8_drawn_33 (f + 1) l2 l3 l4 l5 l6 l7 σ =
(    if l2 ≤ l7 then
      if l3 = 0 then
        some (l5, σ)
      else
        some (l6, σ)
    else
      (J_X0_become 4 3 σ).bind fun x7 =>
      J_X8_drawn_59 (J_X8_drawn_33 f) xFU l2 l3 l4 l5 l6 l7 false (x7.1 0 12) x7) := rfl
theorem E_X8_endOfLine_4 (f : Nat) (l0 : Nat) (l2 : Int32) (l3 : Int32) (σ : xS2) : J_X8_endOfLine_4 (f + 1) l0 l2 l3 σ =
(    if (σ.1 l0 4) ≤ l3 then
      some l2
    else
      if l2 < 0 then
        some l2
      else
        (J_X5_at l0 l3 σ).bind fun x3 =>
        J_X8_endOfLine_4 f l0 (J_X3_neighbour l2 (x3.toInt32)) (l3 + (1 : Int32)) σ) := rfl
theorem E_X8_first_55 (f : Nat) (l1 : Int32) (l3 : Int32) (l4 : Int32) (σ : xS2) : J_X8_first_55 (f + 1) l1 l3 l4 σ =
(    if l3 ≤ l4 then
      some ((-2 : Int32), σ)
    else
      xgd (xin l1 6) <|
      (J_X8_orderOn (28 + 2 * l1.toNatClampNeg) l4 σ).bind fun x9 =>
      (J_X0_live 4 ((σ.1 0 12) + l4) x9 σ).bind fun x10 =>
      if (xb x10.1) = 0 then
        some (l4, x10.2)
      else
        J_X8_first_55 f l1 l3 (l4 + (1 : Int32)) x10.2) := rfl
theorem E_X8_heightsFrom_6 (f : Nat) (l1 : Nat) (l2 : Int32) (l3 : Int32) (l4 : Int32) (l5 : Int32) (l6 : Int32) (σ : xS2) : J_X8_heightsFrom_6 (f + 1) l1 l2 l3 l4 l5 l6 σ =
(    if l4 ≤ l6 then
      some (l5, σ)
    else
      (J_X3_place (l3 + l6) (0 : Int32) σ).bind fun x2 =>
      if x2 < 0 then
        some (l5, σ)
      else
        if l2 < 0 then
          some (l5, σ)
        else
          if l2 < ((σ.1 l1 4) - l6) then
            (J_X5_at l1 (l2 + l6) σ).bind fun x6 =>
            (J_X3_mayBe (0 : Int32) (x6.toInt32) σ).bind fun x7 =>
            if (xb x7) = 0 then
              some (l5, σ)
            else
              (J_X3_tell x2 (x6.toInt32) σ).bind fun x9 =>
              J_X8_heightsFrom_6 f l1 l2 l3 l4 (l5 + (1 : Int32)) (l6 + (1 : Int32)) x9
          else
            some (l5, σ)) := rfl
theorem E_X8_judge_55 (f : Nat) (l1 : Int32) (l3 : Int32) (l4 : Int32) (σ : xS2) : J_X8_judge_55 (f + 1) l1 l3 l4 σ =
(    if l3 ≤ l4 then
      some ((-2 : Int32), σ)
    else
      (J_X0_live 4 ((σ.1 0 12) + l4) (0 : Int32) σ).bind fun x8 =>
      xgd (xin l1 6) <|
      (J_X5_at (28 + 2 * l1.toNatClampNeg) l4 x8.2).bind fun x10 =>
      if (lg_cmp x10 ((x8.2.1 4 1).toInt64)) = 0 then
        J_X8_judge_55 f l1 l3 (l4 + (1 : Int32)) x8.2
      else
        some (l4, x8.2)) := rfl
theorem E_X8_lasts_28 (f : Nat) (l1 : Int32) (l2 : Int32) (σ : xS2) : J_X8_lasts_28 (f + 1) l1 l2 σ =
(    if (60 : Int32) ≤ l2 then
      some ((-2 : Int32), σ)
    else
      (J_X3_sun l2 σ).bind fun x5 =>
      (J_X3_wind l2 σ).bind fun x6 =>
      (J_X0_liveUnder 4 l2 (0 : Int32) (xmax (0 : Int32) (x5 - l1)) x6 σ).bind fun x7 =>
      if (x7.2.1 4 1) = 0 then
        some (l2, x7.2)
      else
        J_X8_lasts_28 f l1 (l2 + (1 : Int32)) x7.2) := rfl
theorem E_X8_lawful_47 (f : Nat) (l1 : Int32) (l2 : Int32) (l3 : Int32) (σ : xS2) : J_X8_lawful_47 (f + 1) l1 l2 l3 σ =
(    if l1 ≤ l3 then
      some ((J_X8_thoughtOf l2 σ), σ)
    else
      (J_X2_orderFor 4 ((σ.1 0 12) + l3) σ).bind fun x9 =>
      (J_X0_live 4 ((σ.1 0 12) + l3) x9.1 x9.2).bind fun x10 =>
      J_X8_lawful_47 f l1 l2 (l3 + (1 : Int32)) x10.2) := rfl
theorem E_X8_line_39 (f : Nat) (l1 : Int32) (l2 : Int32) (l3 : Int64) (l5 : Int64) (l7 : Int32) (σ : xS2) : J_X8_line_39 (f + 1) l1 l2 l3 l5 l7 σ =
(    if (36 : Int32) ≤ l7 then
      if l2 = 0 then
        some l3
      else
        some l5
    else
      xgd (xin l1 6) <|
      (J_X8_endOfLine (28 + 2 * l1.toNatClampNeg) l7 σ).bind fun x11 =>
      if x11 < 0 then
        J_X8_line_80 (J_X8_line_39 f) l1 l2 l3 l5 l7 σ
      else
        J_X8_line_80 (J_X8_line_39 f) l1 l2 (l3 ||| (xls (1 : Int64) l7)) (l5 ||| (xls (1 : Int64) x11)) l7 σ) := rfl
theorem E_X8_run_77 (f : Nat) (l1 : Int32) (l2 : Int32) (l3 : Int32) (l5 : Int32) (σ : xS2) : J_X8_run_77 (f + 1) l1 l2 l3 l5 σ =
(    if l2 ≤ l5 then
      some ((J_X8_thoughtOf l3 σ), σ)
    else
      xgd (xin l1 6) <|
      (J_X8_orderOn (28 + 2 * l1.toNatClampNeg) l5 σ).bind fun x15 =>
      (J_X0_live 4 ((σ.1 0 12) + l5) x15 σ).bind fun x16 =>
      J_X8_run_77 f l1 l2 l3 (l5 + (1 : Int32)) x16.2) := rfl
theorem E_X9_bitsIn_4 (f : Nat) (l2 : Int32) (l3 : Int64) : J_X9_bitsIn_4 (f + 1) l2 l3 =
(    if (lg_cmp l3 (0 : Int64)) = 0 then
      some l2
    else
      J_X9_bitsIn_4 f (l2 + (1 : Int32)) (l3 &&& (l3 - (1 : Int64)))) := rfl
theorem E_X9_figure_4 (f : Nat) (l1 : Int32) (l2 : Int32) (σ : xS2) : J_X9_figure_4 (f + 1) l1 l2 σ =
(    if (4 : Int32) ≤ l2 then
      J_X9_figure_52 l1 l2 σ
    else
      (J_X9_look σ).bind fun x8 =>
      if (xb (J_X9_in x8 (48 : Int32) (57 : Int32))) = 0 then
        J_X9_figure_52 l1 l2 σ
      else
        (J_X9_look σ).bind fun x11 =>
        J_X9_figure_4 f ((((10 : Int32) * l1) + x11) - (48 : Int32)) (l2 + (1 : Int32)) (yI σ 43 22 ((σ.1 43 22) + (1 : Int32)))) := rfl
theorem E_X9_both_4 (p_X9_compared : (xS2 → Option xS2)) (f : Nat) (σ : xS2) : J_X9_both_4 p_X9_compared (f + 1) σ =
(    if 0 ≤ (σ.1 43 23) then
      some σ
    else
      (J_X9_look σ).bind fun x3 =>
      if x3 = (38 : Int32) then
        (p_X9_compared (yI σ 43 22 ((σ.1 43 22) + (1 : Int32)))).bind fun x5 =>
        (J_X9_addStep (38 : Int32) (0 : Int32) x5).bind fun x6 =>
        J_X9_both_4 p_X9_compared f x6
      else
        some σ) := rfl
theorem E_X9_either_4 (p_X9_both : (xS2 → Option xS2)) (f : Nat) (σ : xS2) : J_X9_either_4 p_X9_both (f + 1) σ =
(    if 0 ≤ (σ.1 43 23) then
      some σ
    else
      (J_X9_look σ).bind fun x3 =>
      if x3 = (124 : Int32) then
        (p_X9_both (yI σ 43 22 ((σ.1 43 22) + (1 : Int32)))).bind fun x5 =>
        (J_X9_addStep (124 : Int32) (0 : Int32) x5).bind fun x6 =>
        J_X9_either_4 p_X9_both f x6
      else
        some σ) := rfl
theorem E_X9_product_4 (p_X9_operand : (xS2 → Option xS2)) (f : Nat) (σ : xS2) : J_X9_product_4 p_X9_operand (f + 1) σ =
(    if 0 ≤ (σ.1 43 23) then
      some σ
    else
      (J_X9_look σ).bind fun x3 =>
      if x3 = (42 : Int32) then
        J_X9_product_38 p_X9_operand (J_X9_product_4 p_X9_operand f) σ
      else
        (J_X9_look σ).bind fun x8 =>
        if x8 = (47 : Int32) then
          J_X9_product_38 p_X9_operand (J_X9_product_4 p_X9_operand f) σ
        else
          (J_X9_look σ).bind fun x10 =>
          if x10 = (37 : Int32) then
            J_X9_product_38 p_X9_operand (J_X9_product_4 p_X9_operand f) σ
          else
            some σ) := rfl
theorem E_X9_sum_4 (p_X9_product : (xS2 → Option xS2)) (f : Nat) (σ : xS2) : J_X9_sum_4 p_X9_product (f + 1) σ =
(    if 0 ≤ (σ.1 43 23) then
      some σ
    else
      (J_X9_look σ).bind fun x3 =>
      if x3 = (43 : Int32) then
        J_X9_sum_29 p_X9_product (J_X9_sum_4 p_X9_product f) σ
      else
        (J_X9_look σ).bind fun x8 =>
        if x8 = (45 : Int32) then
          J_X9_sum_29 p_X9_product (J_X9_sum_4 p_X9_product f) σ
        else
          some σ) := rfl
theorem E_X9_changes_34 (f : Nat) (l1 : Int32) (l2 : Int32) (l3 : Int32) (l4 : Int32) (l5 : Int32) (σ : xS2) : J_X9_changes_34 (f + 1) l1 l2 l3 l4 l5 σ =
(    if (40 : Int32) ≤ l5 then
      J_X9_changes_121 l1 l2 l3 l4 (yI σ 43 14 ((σ.1 43 14) - (1 : Int32)))
    else
      xgd (xin l5 40) <|
      xgd (xin (l5 - (1 : Int32)) 40) <|
      xgd (xin l5 40) <|
      xgd (xin (l5 - (1 : Int32)) 40) <|
      xgd (xin l5 40) <|
      xgd (xin (l5 - (1 : Int32)) 40) <|
      xgd (xin l5 40) <|
      xgd (xin (l5 - (1 : Int32)) 40) <|
      J_X9_changes_34 f l1 l2 l3 l4 (l5 + (1 : Int32)) (yI (yI (yI (yI σ 50 (l5 - (1 : Int32)).toNatClampNeg (σ.1 50 l5.toNatClampNeg)) 51 (l5 - (1 : Int32)).toNatClampNeg (σ.1 51 l5.toNatClampNeg)) 52 (l5 - (1 : Int32)).toNatClampNeg (σ.1 52 l5.toNatClampNeg)) 53 (l5 - (1 : Int32)).toNatClampNeg (σ.1 53 l5.toNatClampNeg))) := rfl
theorem E_X9_findFar_51 (k34 : Bool → xS2 → Option xS2) (k42 : Bool → Int32 → xS2 → Option xS2) (f : Nat) (l2 : Bool) (l3 : Int32) (l4 : Int32) (σ : xS2) : J_X9_findFar_51 k34 k42 (f + 1) l2 l3 l4 σ =
(    if (4 : Int32) < l4 then
      k42 l2 (l3 + (1 : Int32)) σ
    else
      if (J_X9_beside l3 l4) < 0 then
        J_X9_findFar_133 k34 k42 (J_X9_findFar_51 k34 k42 f) l2 l3 l4 σ
      else
        xgd (xin (J_X9_beside l3 l4) 36) <|
        if (σ.1 62 (J_X9_beside l3 l4).toNatClampNeg) = (1000000 : Int32) then
          J_X9_findFar_133 k34 k42 (J_X9_findFar_51 k34 k42 f) l2 l3 l4 σ
        else
          xgd (xin (J_X9_beside l3 l4) 36) <|
          (J_X9_costOf l3 l4 σ).bind fun x10 =>
          xgd (xin l3 36) <|
          if ((σ.1 62 (J_X9_beside l3 l4).toNatClampNeg) + x10) < (σ.1 62 l3.toNatClampNeg) then
            xgd (xin (J_X9_beside l3 l4) 36) <|
            (J_X9_costOf l3 l4 σ).bind fun x14 =>
            xgd (xin l3 36) <|
            J_X9_findFar_133 k34 k42 (J_X9_findFar_51 k34 k42 f) true l3 l4 (yI σ 62 l3.toNatClampNeg ((σ.1 62 (J_X9_beside l3 l4).toNatClampNeg) + x14))
          else
            J_X9_findFar_133 k34 k42 (J_X9_findFar_51 k34 k42 f) l2 l3 l4 σ) := rfl
theorem E_X9_findFar_42 (k34 : Bool → xS2 → Option xS2) (f : Nat) (l2 : Bool) (l3 : Int32) (σ : xS2) : J_X9_findFar_42 k34 (f + 1) l2 l3 σ =
(    if (36 : Int32) ≤ l3 then
      k34 l2 σ
    else
      J_X9_findFar_51 k34 (J_X9_findFar_42 k34 f) xFU l2 l3 (1 : Int32) σ) := rfl
theorem E_X9_findFar_34 (f : Nat) (l2 : Bool) (σ : xS2) : J_X9_findFar_34 (f + 1) l2 σ =
(    if (xb l2) = 0 then
      some σ
    else
      J_X9_findFar_42 (J_X9_findFar_34 f) xFU false (0 : Int32) σ) := rfl
theorem E_X9_findFar_2 (f : Nat) (l1 : Int32) (l2 : Int32) (σ : xS2) : J_X9_findFar_2 (f + 1) l1 l2 σ =
(    if (36 : Int32) ≤ l2 then
      J_X9_findFar_34 xFU true σ
    else
      if l2 = l1 then
        J_X9_findFar_25 (J_X9_findFar_2 f) l1 l2 l2 (0 : Int32) σ
      else
        J_X9_findFar_25 (J_X9_findFar_2 f) l1 l2 l2 (1000000 : Int32) σ) := rfl
theorem E_X9_cheapest_73 (f : Nat) (l3 : Int32) (l4 : Int32) (σ : xS2) : J_X9_cheapest_73 (f + 1) l3 l4 σ =
(    if (J_X9_beside l3 l4) < 0 then
      J_X9_cheapest_110 (J_X9_cheapest_73 f) l3 l4 σ
    else
      xgd (xin (J_X9_beside l3 l4) 36) <|
      (J_X9_costOf l3 l4 σ).bind fun x15 =>
      xgd (xin l3 36) <|
      if ((σ.1 62 (J_X9_beside l3 l4).toNatClampNeg) + x15) = (σ.1 62 l3.toNatClampNeg) then
        some ((J_X9_beside l3 l4), σ)
      else
        J_X9_cheapest_110 (J_X9_cheapest_73 f) l3 l4 σ) := rfl
theorem E_X9_part_6 (f : Nat) (l0 : Int64) (l2 : Int64) (l4 : Int32) (l5 : Int64) (l7 : Int64) : J_X9_part_6 (f + 1) l0 l2 l4 l5 l7 =
(    if (lg_cmp l7 (0 : Int64)) = 0 then
      if l4 = 0 then
        xgd (xnzL l5) <|
        some (l0 / l5)
      else
        xgd (xnzL l5) <|
        some (l2 / l5)
    else
      xgd (xnzL l7) <|
      J_X9_part_6 f l0 l2 l4 l7 (xrmL l5 l7)) := rfl
theorem E_X9_power_5 (f : Nat) (l0 : Int32) (l1 : Int32) (l2 : Int64) (l4 : Int32) : J_X9_power_5 (f + 1) l0 l1 l2 l4 =
(    if l1 ≤ l4 then
      some l2
    else
      J_X9_power_5 f l0 l1 (l2 * (l0.toInt64)) (l4 + (1 : Int32))) := rfl
theorem E_X9_clean_71 (f : Nat) (l1 : Int32) (l3 : Int32) (l4 : Int64) (l6 : Int64) (l8 : Int32) (σ : xS2) : J_X9_clean_71 (f + 1) l1 l3 l4 l6 l8 σ =
(    if l1 ≤ l8 then
      (J_X9_part l6 l4 l3).bind fun x10 =>
      some x10
    else
      (J_X9_power ((12 : Int32) - (σ.1 43 6)) l8).bind fun x11 =>
      (J_X9_power (12 : Int32) (l1 - l8)).bind fun x12 =>
      J_X9_clean_71 f l1 l3 l4 (l6 + (x11 * x12)) (l8 + (1 : Int32)) σ) := rfl
theorem E_X9_isHollow_2 (f : Nat) (l1 : Int32) (l2 : Int32) (σ : xS2) : J_X9_isHollow_2 (f + 1) l1 l2 σ =
(    if (4 : Int32) < l2 then
      some true
    else
      if (J_X9_beside l1 l2) < 0 then
        J_X9_isHollow_36 (J_X9_isHollow_2 f) l1 l2 σ
      else
        xgd (xin l1 36) <|
        xgd (xin (J_X9_beside l1 l2) 36) <|
        if (σ.1 44 l1.toNatClampNeg) < (σ.1 44 (J_X9_beside l1 l2).toNatClampNeg) then
          J_X9_isHollow_36 (J_X9_isHollow_2 f) l1 l2 σ
        else
          some false) := rfl
theorem E_X9_hollows_4 (f : Nat) (l1 : Int32) (l2 : Int32) (σ : xS2) : J_X9_hollows_4 (f + 1) l1 l2 σ =
(    if (36 : Int32) ≤ l2 then
      some l1
    else
      (J_X9_isHollow l2 σ).bind fun x2 =>
      if (xb x2) = 0 then
        J_X9_hollows_21 (J_X9_hollows_4 f) l1 l2 σ
      else
        J_X9_hollows_21 (J_X9_hollows_4 f) (l1 + (1 : Int32)) l2 σ) := rfl
theorem E_X9_stones_4 (f : Nat) (l1 : Int32) (l2 : Int32) (σ : xS2) : J_X9_stones_4 (f + 1) l1 l2 σ =
(    if (36 : Int32) ≤ l2 then
      some l1
    else
      xgd (xin l2 36) <|
      J_X9_stones_4 f (l1 + (σ.1 45 l2.toNatClampNeg)) (l2 + (1 : Int32)) σ) := rfl
theorem E_X9_worked_12 (f : Nat) (l1 : Int32) (l3 : Int32) (l4 : Int32) (l5 : Int32) (σ : xS2) : J_X9_worked_12 (f + 1) l1 l3 l4 l5 σ =
(    if (((130 : Int32) * l1) + l3) ≤ l5 then
      some ((σ.1 61 0), σ)
    else
      xgd (xin l5 260) <|
      if (σ.1 55 l5.toNatClampNeg) = (1 : Int32) then
        J_X9_worked_45 (J_X9_worked_12 f) l1 l3 l4 l5 (σ.1 55 l5.toNatClampNeg) σ
      else
        if (σ.1 55 l5.toNatClampNeg) = (2 : Int32) then
          J_X9_worked_45 (J_X9_worked_12 f) l1 l3 l4 l5 (σ.1 55 l5.toNatClampNeg) σ
        else
          if (σ.1 55 l5.toNatClampNeg) = (3 : Int32) then
            xgd (xin (l4 - (1 : Int32)) 130) <|
            if (σ.1 61 (l4 - (1 : Int32)).toNatClampNeg) = 0 then
              J_X9_worked_117 (J_X9_worked_12 f) l1 l3 l4 l5 (l4 - (1 : Int32)) true σ
            else
              J_X9_worked_117 (J_X9_worked_12 f) l1 l3 l4 l5 (l4 - (1 : Int32)) false σ
          else
            if (σ.1 55 l5.toNatClampNeg) = (4 : Int32) then
              xgd (xin (l4 - (1 : Int32)) 130) <|
              xgd (xin (l4 - (1 : Int32)) 130) <|
              J_X9_worked_182 (J_X9_worked_12 f) l1 l3 l4 l5 (yI σ 61 (l4 - (1 : Int32)).toNatClampNeg (-(σ.1 61 (l4 - (1 : Int32)).toNatClampNeg)))
            else
              xgd (xin ((l4 + (-1 : Int32)) - (1 : Int32)) 130) <|
              xgd (xin (l4 + (-1 : Int32)) 130) <|
              (J_X9_twoOf (σ.1 55 l5.toNatClampNeg) (σ.1 61 ((l4 + (-1 : Int32)) - (1 : Int32)).toNatClampNeg) (σ.1 61 (l4 + (-1 : Int32)).toNatClampNeg)).bind fun x15 =>
              xgd (xin ((l4 + (-1 : Int32)) - (1 : Int32)) 130) <|
              J_X9_worked_182 (J_X9_worked_12 f) l1 l3 (l4 + (-1 : Int32)) l5 (yI σ 61 ((l4 + (-1 : Int32)) - (1 : Int32)).toNatClampNeg x15)) := rfl
theorem E_X9_gives_7 (f : Nat) (l1 : Int32) (l2 : Int32) (l3 : Int32) (σ : xS2) : J_X9_gives_7 (f + 1) l1 l2 l3 σ =
(    xgd (xin l1 2) <|
    if (((61 : Int32) * l1) + (σ.1 57 l1.toNatClampNeg)) ≤ l3 then
      some ((0 : Int32), σ)
    else
      xgd (xin l3 122) <|
      if (σ.1 58 l3.toNatClampNeg) = l2 then
        J_X9_gives_47 l1 l3 σ
      else
        xgd (xin l3 122) <|
        (J_X9_worked l1 l2 (σ.1 58 l3.toNatClampNeg) σ).bind fun x9 =>
        if x9.1 = 0 then
          xgd (xin l3 122) <|
          J_X9_gives_7 f l1 (x9.2.1 59 l3.toNatClampNeg) (l3 + (1 : Int32)) x9.2
        else
          J_X9_gives_47 l1 l3 x9.2) := rfl
theorem E_X9_days_30 (f : Nat) (l1 : Int32) (l2 : Int32) (l3 : Int32) (σ : xS2) : J_X9_days_30 (f + 1) l1 l2 l3 σ =
(    if l1 ≤ l3 then
      some (l2, σ)
    else
      (J_X9_orderOf (σ.1 43 7) σ).bind fun x5 =>
      (J_X9_lead x5.1 x5.2).bind fun x6 =>
      J_X9_days_30 f l1 (l2 + x6.1) (l3 + (1 : Int32)) x6.2) := rfl
theorem E_X9_drawn_52 (k37 : Int32 → Int32 → Int32 → Int32 → Int32 → Int32 → xS2 → Option (Int32 × xS2)) (f : Nat) (l2 : Int32) (l3 : Int32) (l4 : Int32) (l5 : Int32) (l6 : Int32) (l7 : Int32) (l8 : Bool) (l9 : Int32) (σ : xS2) : J_X9_drawn_52 k37 (f + 1) l2 l3 l4 l5 l6 l7 l8 l9 σ =
(    if (60 : Int32) ≤ l9 then
      if (xb l8) = 0 then
        J_X9_drawn_140 k37 l2 l3 l4 l5 l6 l7 σ
      else
        J_X9_drawn_140 k37 l2 l3 l4 (l5 + (1 : Int32)) l6 l7 σ
    else
      xgd (xin l9 60) <|
      if (σ.1 43 6) ≤ (xrm (xus ((l4 * (1103515245 : Int32)) + (12345 : Int32)) (8 : Int32)) (12 : Int32)) then
        J_X9_drawn_103 k37 (J_X9_drawn_52 k37 f) l2 l3 ((l4 * (1103515245 : Int32)) + (12345 : Int32)) l5 l6 l7 l8 l9 false l9 (σ.1 46 l9.toNatClampNeg) (0 : Int32) σ
      else
        J_X9_drawn_103 k37 (J_X9_drawn_52 k37 f) l2 l3 ((l4 * (1103515245 : Int32)) + (12345 : Int32)) l5 l6 l7 l8 l9 false l9 (σ.1 46 l9.toNatClampNeg) (9 : Int32) σ) := rfl
theorem E_X9_drawn_37 (f : Nat) (l2 : Int32) (l3 : Int32) (l4 : Int32) (l5 : Int32) (l6 : Int32) (l7 : Int32) (σ : xS2) : J_X9_drawn_37 (f + 1) l2 l3 l4 l5 l6 l7 σ =
(    if l2 ≤ l7 then
      if l3 = 0 then
        some (l5, σ)
      else
        some (l6, σ)
    else
      J_X9_drawn_52 (J_X9_drawn_37 f) xFU l2 l3 l4 l5 l6 l7 false (σ.1 43 7) σ) := rfl
theorem E_X9_endOf_5 (f : Nat) (l1 : Int32) (l3 : Int32) (l4 : Int32) (σ : xS2) : J_X9_endOf_5 (f + 1) l1 l3 l4 σ =
(    xgd (xin l1 6) <|
    if (σ.1 71 l1.toNatClampNeg) ≤ l4 then
      some l3
    else
      if l3 < 0 then
        some l3
      else
        (J_X9_byteAt l1 l4 σ).bind fun x4 =>
        if (xb (J_X9_in x4 (1 : Int32) (4 : Int32))) = 0 then
          J_X9_endOf_50 (J_X9_endOf_5 f) l1 l4 (-1 : Int32) σ
        else
          (J_X9_byteAt l1 l4 σ).bind fun x7 =>
          J_X9_endOf_50 (J_X9_endOf_5 f) l1 l4 (J_X9_beside l3 x7) σ) := rfl
theorem E_X9_first_32 (f : Nat) (l1 : Int32) (l2 : Int32) (l3 : Int32) (σ : xS2) : J_X9_first_32 (f + 1) l1 l2 l3 σ =
(    xgd (xin l1 6) <|
    if (σ.1 71 l1.toNatClampNeg) ≤ l3 then
      J_X9_first_84 l2 σ
    else
      if (60 : Int32) ≤ ((σ.1 43 7) + l3) then
        J_X9_first_84 l2 σ
      else
        if 0 ≤ l2 then
          J_X9_first_84 l2 σ
        else
          (J_X9_orderAt l1 l3 σ).bind fun x11 =>
          (J_X9_goOwn x11 ((σ.1 43 7) + l3) σ).bind fun x12 =>
          if (xb x12.1) = 0 then
            J_X9_first_78 (J_X9_first_32 f) l1 l3 l3 x12.2
          else
            J_X9_first_78 (J_X9_first_32 f) l1 l2 l3 x12.2) := rfl
theorem E_X9_goOn_141 (f : Nat) (l2 : Int32) (σ : xS2) : J_X9_goOn_141 (f + 1) l2 σ =
(    if (360 : Int32) ≤ l2 then
      some σ
    else
      xgd (xin l2 360) <|
      xgd (xin l2 360) <|
      J_X9_goOn_141 f (l2 + (1 : Int32)) (yI σ 63 l2.toNatClampNeg (σ.1 64 l2.toNatClampNeg))) := rfl
theorem E_X9_goOn_67 (k24 : Int32 → Int32 → xS2 → Option xS2) (f : Nat) (l1 : Int32) (l2 : Int32) (l3 : Int32) (l4 : Int32) (σ : xS2) : J_X9_goOn_67 k24 (f + 1) l1 l2 l3 l4 σ =
(    if (4 : Int32) < l4 then
      J_X9_goOn_133 k24 l1 l2 σ
    else
      if (J_X9_beside l3 l4) < 0 then
        J_X9_goOn_127 k24 (J_X9_goOn_67 k24 f) l1 l2 l3 l4 σ
      else
        xgd (xin l2 360) <|
        (J_X9_costOf l3 l4 σ).bind fun x14 =>
        if (σ.1 63 l2.toNatClampNeg) < x14 then
          J_X9_goOn_127 k24 (J_X9_goOn_67 k24 f) l1 l2 l3 l4 σ
        else
          xgd (xin l2 360) <|
          (J_X9_costOf l3 l4 σ).bind fun x18 =>
          (J_X9_come (J_X9_beside l3 l4) ((σ.1 63 l2.toNatClampNeg) - x18) (xrm l2 (10 : Int32)) l1 σ).bind fun x19 =>
          J_X9_goOn_127 k24 (J_X9_goOn_67 k24 f) l1 l2 l3 l4 x19) := rfl
theorem E_X9_goOn_24 (f : Nat) (l1 : Int32) (l2 : Int32) (σ : xS2) : J_X9_goOn_24 (f + 1) l1 l2 σ =
(    if (360 : Int32) ≤ l2 then
      J_X9_goOn_141 xFU (0 : Int32) σ
    else
      xgd (xin l2 360) <|
      if 0 ≤ (σ.1 63 l2.toNatClampNeg) then
        xgd (xin l2 360) <|
        (J_X9_come (l2 / (10 : Int32)) (σ.1 63 l2.toNatClampNeg) (xrm l2 (10 : Int32)) l1 σ).bind fun x9 =>
        J_X9_goOn_67 (J_X9_goOn_24 f) xFU l1 l2 (l2 / (10 : Int32)) (1 : Int32) x9
      else
        J_X9_goOn_133 (J_X9_goOn_24 f) l1 l2 σ) := rfl
theorem E_X9_goOn_2 (f : Nat) (l1 : Int32) (l2 : Int32) (σ : xS2) : J_X9_goOn_2 (f + 1) l1 l2 σ =
(    if (360 : Int32) ≤ l2 then
      J_X9_goOn_24 xFU l1 (0 : Int32) σ
    else
      xgd (xin l2 360) <|
      J_X9_goOn_2 f l1 (l2 + (1 : Int32)) (yI σ 64 l2.toNatClampNeg (-1 : Int32))) := rfl
theorem E_X9_goRound_64 (p_X9_goRound : (Int32 → Int32 → Int32 → Int32 → Int32 → xS2 → Option xS2)) (f : Nat) (l1 : Int32) (l2 : Int32) (l3 : Int32) (l4 : Int32) (l5 : Int32) (l6 : Int32) (σ : xS2) : J_X9_goRound_64 p_X9_goRound (f + 1) l1 l2 l3 l4 l5 l6 σ =
(    if l1 ≤ l6 then
      some σ
    else
      if ((l2 >>> (l6 &&& 31)) &&& (1 : Int32)) = 0 then
        if 0 ≤ l3 then
          J_X9_goRound_105 p_X9_goRound (J_X9_goRound_64 p_X9_goRound f) l1 l2 l3 l4 l5 l6 l1 (l2 ||| ((1 : Int32) <<< (l6 &&& 31))) l6 l4 (5 : Int32) l3 σ
        else
          J_X9_goRound_105 p_X9_goRound (J_X9_goRound_64 p_X9_goRound f) l1 l2 l3 l4 l5 l6 l1 (l2 ||| ((1 : Int32) <<< (l6 &&& 31))) l6 l4 (5 : Int32) (5 : Int32) σ
      else
        J_X9_goRound_131 p_X9_goRound (J_X9_goRound_64 p_X9_goRound f) l1 l2 l3 l4 l5 l6 σ) := rfl
theorem E_X9_heights_75 (f : Nat) (l1 : Int32) (l2 : Int32) (l3 : Int32) (l4 : Int32) (σ : xS2) : J_X9_heights_75 (f + 1) l1 l2 l3 l4 σ =
(    if (xrm l3 (100 : Int32)) ≤ l4 then
      some ((xrm l3 (100 : Int32)), σ)
    else
      if (lg_cmp ((l2.toInt64) + (l4.toInt64)) (0 : Int64)) < 0 then
        some (l4, σ)
      else
        xgd (xin l1 6) <|
        if 0 ≤ (lg_cmp ((l2.toInt64) + (l4.toInt64)) ((σ.1 71 l1.toNatClampNeg).toInt64)) then
          some (l4, σ)
        else
          if (xb (J_X9_isCell ((l3 / (100 : Int32)) + l4))) = 0 then
            some (l4, σ)
          else
            xgd (xin (((60 : Int32) * l1) + (((l2.toInt64) + (l4.toInt64)).toInt32)) 360) <|
            if (xb (J_X9_in ((σ.2 72 (((60 : Int32) * l1) + (((l2.toInt64) + (l4.toInt64)).toInt32)).toNatClampNeg).toInt32) (0 : Int32) (9 : Int32))) = 0 then
              some (l4, σ)
            else
              xgd (xin ((l3 / (100 : Int32)) + l4) 36) <|
              J_X9_heights_75 f l1 l2 l3 (l4 + (1 : Int32)) (yI σ 44 ((l3 / (100 : Int32)) + l4).toNatClampNeg ((σ.2 72 (((60 : Int32) * l1) + (((l2.toInt64) + (l4.toInt64)).toInt32)).toNatClampNeg).toInt32))) := rfl
theorem E_X9_judge_32 (f : Nat) (l1 : Int32) (l2 : Int32) (l3 : Int32) (σ : xS2) : J_X9_judge_32 (f + 1) l1 l2 l3 σ =
(    xgd (xin l1 6) <|
    if (σ.1 71 l1.toNatClampNeg) ≤ l3 then
      J_X9_judge_90 l2 σ
    else
      if (60 : Int32) ≤ ((σ.1 43 7) + l3) then
        J_X9_judge_90 l2 σ
      else
        if 0 ≤ l2 then
          J_X9_judge_90 l2 σ
        else
          (J_X9_goOwn (0 : Int32) ((σ.1 43 7) + l3) σ).bind fun x11 =>
          (J_X9_byteAt l1 l3 x11.2).bind fun x12 =>
          if x12 = (x11.2.1 43 9) then
            J_X9_judge_84 (J_X9_judge_32 f) l1 l2 l3 x11.2
          else
            J_X9_judge_84 (J_X9_judge_32 f) l1 l3 l3 x11.2) := rfl
theorem E_X9_lasts_24 (f : Nat) (l1 : Int32) (l2 : Int32) (l3 : Int32) (σ : xS2) : J_X9_lasts_24 (f + 1) l1 l2 l3 σ =
(    if (60 : Int32) ≤ l3 then
      J_X9_lasts_84 l2 σ
    else
      if 0 ≤ l2 then
        J_X9_lasts_84 l2 σ
      else
        xgd (xin l3 60) <|
        if (σ.1 46 l3.toNatClampNeg) ≤ l1 then
          J_X9_lasts_59 (J_X9_lasts_24 f) l1 l2 l3 false l3 (0 : Int32) σ
        else
          xgd (xin l3 60) <|
          J_X9_lasts_59 (J_X9_lasts_24 f) l1 l2 l3 false l3 ((σ.1 46 l3.toNatClampNeg) - l1) σ) := rfl
theorem E_X9_readText_177 (f : Nat) (l1 : Int32) (l2 : Int32) (σ : xS2) : J_X9_readText_177 (f + 1) l1 l2 σ =
(    xgd (xin l1 2) <|
    if (σ.1 57 l1.toNatClampNeg) ≤ l2 then
      some ((-1 : Int32), σ)
    else
      xgd (xin ((61 : Int32) + l2) 122) <|
      xgd (xin (((61 : Int32) * l1) + l2) 122) <|
      xgd (xin ((61 : Int32) + l2) 122) <|
      xgd (xin (((61 : Int32) * l1) + l2) 122) <|
      J_X9_readText_177 f l1 (l2 + (1 : Int32)) (yI (yI σ 58 (((61 : Int32) * l1) + l2).toNatClampNeg (vp_nar .short (σ.1 58 ((61 : Int32) + l2).toNatClampNeg))) 59 (((61 : Int32) * l1) + l2).toNatClampNeg (vp_nar .short (σ.1 59 ((61 : Int32) + l2).toNatClampNeg)))) := rfl
theorem E_X9_readText_105 (f : Nat) (l1 : Int32) (l2 : Int32) (σ : xS2) : J_X9_readText_105 (f + 1) l1 l2 σ =
(    if (σ.1 43 25) ≤ l2 then
      xgd (xin l1 2) <|
      J_X9_readText_177 xFU l1 (0 : Int32) (yI σ 57 l1.toNatClampNeg (σ.1 57 1))
    else
      xgd (xin ((130 : Int32) + l2) 260) <|
      xgd (xin (((130 : Int32) * l1) + l2) 260) <|
      xgd (xin ((130 : Int32) + l2) 260) <|
      xgd (xin (((130 : Int32) * l1) + l2) 260) <|
      J_X9_readText_105 f l1 (l2 + (1 : Int32)) (yI (yI σ 55 (((130 : Int32) * l1) + l2).toNatClampNeg (vp_nar .byte (σ.1 55 ((130 : Int32) + l2).toNatClampNeg))) 56 (((130 : Int32) * l1) + l2).toNatClampNeg (σ.1 56 ((130 : Int32) + l2).toNatClampNeg))) := rfl
theorem E_X9_readText_31 (f : Nat) (l1 : Int32) (σ : xS2) : J_X9_readText_31 (f + 1) l1 σ =
(    if 0 ≤ (σ.1 43 23) then
      J_X9_readText_64 l1 σ
    else
      (J_X9_look σ).bind fun x21 =>
      if x21 = (59 : Int32) then
        (J_X9_oneLine (yI σ 43 22 ((σ.1 43 22) + (1 : Int32)))).bind fun x23 =>
        J_X9_readText_31 f l1 x23
      else
        J_X9_readText_64 l1 σ) := rfl
theorem E_X9_lawful_41 (f : Nat) (l1 : Int32) (l2 : Int32) (l3 : Int32) (σ : xS2) : J_X9_lawful_41 (f + 1) l1 l2 l3 σ =
(    if l1 ≤ l3 then
      (J_X9_tellThought l2 σ).bind fun x8 =>
      some (x8.1, x8.2)
    else
      (J_X9_orderOf ((σ.1 43 7) + l3) σ).bind fun x9 =>
      (J_X9_goOwn x9.1 ((x9.2.1 43 7) + l3) x9.2).bind fun x10 =>
      J_X9_lawful_41 f l1 l2 (l3 + (1 : Int32)) x10.2) := rfl
theorem E_X9_line_33 (f : Nat) (l1 : Int32) (l2 : Int32) (l3 : Int64) (l5 : Int32) (σ : xS2) : J_X9_line_33 (f + 1) l1 l2 l3 l5 σ =
(    if (36 : Int32) ≤ l5 then
      some l3
    else
      (J_X9_endOf l1 l5 σ).bind fun x8 =>
      if x8 < 0 then
        J_X9_line_71 (J_X9_line_33 f) l1 l2 l3 l5 σ
      else
        if l2 = 0 then
          J_X9_line_68 (J_X9_line_33 f) l1 l2 l5 l3 (1 : Int64) l5 σ
        else
          (J_X9_endOf l1 l5 σ).bind fun x11 =>
          J_X9_line_68 (J_X9_line_33 f) l1 l2 l5 l3 (1 : Int64) x11 σ) := rfl
theorem E_X9_mostIn_4 (f : Nat) (l1 : Int32) (l2 : Int32) (l3 : Int32) (σ : xS2) : J_X9_mostIn_4 (f + 1) l1 l2 l3 σ =
(    if (10 : Int32) ≤ l3 then
      some l2
    else
      xgd (xin (((10 : Int32) * l1) + l3) 360) <|
      if (σ.1 63 (((10 : Int32) * l1) + l3).toNatClampNeg) ≤ l2 then
        J_X9_mostIn_37 (J_X9_mostIn_4 f) l1 l2 l3 σ
      else
        xgd (xin (((10 : Int32) * l1) + l3) 360) <|
        J_X9_mostIn_37 (J_X9_mostIn_4 f) l1 (σ.1 63 (((10 : Int32) * l1) + l3).toNatClampNeg) l3 σ) := rfl
theorem E_X9_toNorth_6 (f : Nat) (l1 : Int32) (l2 : Int32) (l3 : Int32) (σ : xS2) : J_X9_toNorth_6 (f + 1) l1 l2 l3 σ =
(    if (6 : Int32) ≤ l3 then
      some (l2, σ)
    else
      (J_X9_findFar l3 σ).bind fun x2 =>
      xgd (xin l1 36) <|
      if l2 ≤ (x2.1 62 l1.toNatClampNeg) then
        J_X9_toNorth_34 (J_X9_toNorth_6 f) l1 l2 l3 x2
      else
        xgd (xin l1 36) <|
        J_X9_toNorth_34 (J_X9_toNorth_6 f) l1 (x2.1 62 l1.toNatClampNeg) l3 x2) := rfl
theorem E_X9_round_168 (f : Nat) (l1 : Int32) (l2 : Int32) (l3 : Int32) (σ : xS2) : J_X9_round_168 (f + 1) l1 l2 l3 σ =
(    if l2 ≤ l3 then
      (J_X9_goRound l2 (0 : Int32) (-1 : Int32) (0 : Int32) (-1 : Int32) (yI (yI σ 43 44 (1000000 : Int32)) 43 45 (36 : Int32))).bind fun x7 =>
      if l1 = 0 then
        some ((x7.1 43 44), x7)
      else
        some ((x7.1 43 45), x7)
    else
      xgd (xin l3 5) <|
      (J_X9_toNorth (σ.1 65 l3.toNatClampNeg) σ).bind fun x10 =>
      xgd (xin l3 5) <|
      J_X9_round_168 f l1 l2 (l3 + (1 : Int32)) (yI x10.2 67 l3.toNatClampNeg x10.1)) := rfl
theorem E_X9_round_107 (k89 : Int32 → Int32 → Int32 → xS2 → Option (Int32 × xS2)) (f : Nat) (l1 : Int32) (l2 : Int32) (l3 : Int32) (l4 : Int32) (σ : xS2) : J_X9_round_107 k89 (f + 1) l1 l2 l3 l4 σ =
(    if l2 ≤ l4 then
      xgd (xin (σ.1 43 8) 36) <|
      xgd (xin ((25 : Int32) + l3) 30) <|
      k89 l1 l2 (l3 + (1 : Int32)) (yI σ 66 ((25 : Int32) + l3).toNatClampNeg (σ.1 62 (σ.1 43 8).toNatClampNeg))
    else
      xgd (xin l4 5) <|
      xgd (xin (σ.1 65 l4.toNatClampNeg) 36) <|
      xgd (xin (((5 : Int32) * l4) + l3) 30) <|
      J_X9_round_107 k89 f l1 l2 l3 (l4 + (1 : Int32)) (yI σ 66 (((5 : Int32) * l4) + l3).toNatClampNeg (σ.1 62 (σ.1 65 l4.toNatClampNeg).toNatClampNeg))) := rfl
theorem E_X9_round_89 (f : Nat) (l1 : Int32) (l2 : Int32) (l3 : Int32) (σ : xS2) : J_X9_round_89 (f + 1) l1 l2 l3 σ =
(    if l2 ≤ l3 then
      J_X9_round_168 xFU l1 l2 (0 : Int32) σ
    else
      xgd (xin l3 5) <|
      (J_X9_findFar (σ.1 65 l3.toNatClampNeg) σ).bind fun x13 =>
      J_X9_round_107 (J_X9_round_89 f) xFU l1 l2 l3 (0 : Int32) x13) := rfl
theorem E_X9_round_15 (f : Nat) (l1 : Int32) (l2 : Int32) (l3 : Int32) (σ : xS2) : J_X9_round_15 (f + 1) l1 l2 l3 σ =
(    if (36 : Int32) ≤ l3 then
      if l2 = 0 then
        if l1 = 0 then
          (J_X9_toNorth (σ.1 43 8) σ).bind fun x21 =>
          some (x21.1, x21.2)
        else
          some ((-2 : Int32), σ)
      else
        J_X9_round_89 xFU l1 l2 (0 : Int32) σ
    else
      xgd (xin l3 36) <|
      if (σ.1 45 l3.toNatClampNeg) = 0 then
        J_X9_round_59 (J_X9_round_15 f) l1 l2 l3 σ
      else
        if (xb (J_X9_isLooked l3 σ)) = 0 then
          if l2 = (5 : Int32) then
            some ((-5 : Int32), σ)
          else
            xgd (xin l2 5) <|
            J_X9_round_59 (J_X9_round_15 f) l1 (l2 + (1 : Int32)) l3 (yI σ 65 l2.toNatClampNeg l3)
        else
          J_X9_round_59 (J_X9_round_15 f) l1 l2 l3 σ) := rfl
theorem E_X9_row_54 (f : Nat) (l1 : Int32) (l4 : Int32) (σ : xS2) : J_X9_row_54 (f + 1) l1 l4 σ =
(    if (((60 : Int32) * l1) + (60 : Int32)) ≤ l4 then
      some ((1 : Int32), σ)
    else
      xgd (xin l4 360) <|
      J_X9_row_54 f l1 (l4 + (1 : Int32)) (yL σ 72 l4.toNatClampNeg (0 : Int64))) := rfl
theorem E_X9_run_67 (f : Nat) (l1 : Int32) (l2 : Int32) (l3 : Int32) (l4 : Int32) (σ : xS2) : J_X9_run_67 (f + 1) l1 l2 l3 l4 σ =
(    if l2 ≤ l4 then
      (J_X9_tellThought l3 σ).bind fun x13 =>
      some (x13.1, x13.2)
    else
      (J_X9_orderAt l1 l4 σ).bind fun x14 =>
      (J_X9_goOwn x14 ((σ.1 43 7) + l4) σ).bind fun x15 =>
      J_X9_run_67 f l1 l2 l3 (l4 + (1 : Int32)) x15.2) := rfl
theorem E_X9_shift_150 (f : Nat) (l3 : Int32) (l4 : Int32) (l5 : Int32) (l6 : Int32) (σ : xS2) : J_X9_shift_150 (f + 1) l3 l4 l5 l6 σ =
(    if l5 ≤ l6 then
      some (l5, σ)
    else
      xgd (xin l6 60) <|
      xgd (xin ((((60 : Int32) * l3) + l4) + l6) 360) <|
      J_X9_shift_150 f l3 l4 l5 (l6 + (1 : Int32)) (yL σ 72 ((((60 : Int32) * l3) + l4) + l6).toNatClampNeg (σ.2 73 l6.toNatClampNeg))) := rfl
theorem E_X9_shift_113 (f : Nat) (l1 : Int32) (l2 : Int32) (l3 : Int32) (l4 : Int32) (l5 : Int32) (l6 : Int32) (σ : xS2) : J_X9_shift_113 (f + 1) l1 l2 l3 l4 l5 l6 σ =
(    if l5 ≤ l6 then
      J_X9_shift_150 xFU l3 l4 l5 (0 : Int32) σ
    else
      xgd (xin ((((60 : Int32) * l1) + l2) + l6) 360) <|
      xgd (xin l6 60) <|
      J_X9_shift_113 f l1 l2 l3 l4 l5 (l6 + (1 : Int32)) (yL σ 73 l6.toNatClampNeg (σ.2 72 ((((60 : Int32) * l1) + l2) + l6).toNatClampNeg))) := rfl
theorem E_X9_soonest_63 (f : Nat) (l1 : Int32) (l2 : Int32) (l3 : Int32) (σ : xS2) : J_X9_soonest_63 (f + 1) l1 l2 l3 σ =
(    if (20 : Int32) < l3 then
      some ((-2 : Int32), σ)
    else
      (J_X9_mostIn l1 σ).bind fun x8 =>
      if x8 < 0 then
        if ((σ.1 43 7) + l3) < (60 : Int32) then
          (J_X9_goOn ((σ.1 43 7) + l3) σ).bind fun x11 =>
          J_X9_soonest_63 f l1 l2 (l3 + (1 : Int32)) x11
        else
          some ((-2 : Int32), σ)
      else
        if l2 = 0 then
          some (l3, σ)
        else
          (J_X9_mostIn l1 σ).bind fun x13 =>
          some (x13, σ)) := rfl
theorem E_X9_soonest_20 (f : Nat) (l1 : Int32) (l2 : Int32) (l3 : Int32) (σ : xS2) : J_X9_soonest_20 (f + 1) l1 l2 l3 σ =
(    if (360 : Int32) ≤ l3 then
      xgd (xin (((10 : Int32) * (σ.1 43 8)) + (σ.1 43 10)) 360) <|
      J_X9_soonest_63 xFU l1 l2 (0 : Int32) (yI σ 63 (((10 : Int32) * (σ.1 43 8)) + (σ.1 43 10)).toNatClampNeg (σ.1 43 9))
    else
      xgd (xin l3 360) <|
      J_X9_soonest_20 f l1 l2 (l3 + (1 : Int32)) (yI σ 63 l3.toNatClampNeg (-1 : Int32))) := rfl
