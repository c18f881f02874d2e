set_option maxRecDepth 100000 in
set_option maxHeartbeats 4000000 in
theorem C_J13_bitCount_95d88 {G : xG} {l : Launch} {a0 : Int64} {σ : xS2} : xC G l mM_J13_bitCount_95d88 0 [.long a0] (xM σ) (some (.int (J_J13_bitCount_95d88 a0))) (xM σ) := by
  refine xC_of (by decide) rfl (Nat.le_refl _) (Nat.le_of_ble_eq_true rfl) (fun K hC hE hR _ => ?_)
  obtain ⟨r, h⟩ : ∃ r, J_J13_bitCount_95d88 a0 = r := ⟨_, rfl⟩
  rw [h] at hE
  refine x_lload_n hC dJ13_bitCount_95d88_0 rfl (j := 0) rfl <| x_lload_n hC dJ13_bitCount_95d88_1 rfl (j := 0) rfl <| x_iconst (v := (1 : Int32)) hC dJ13_bitCount_95d88_2 (by decide) <| x_lushr (v := (xlu a0 (1 : Int32))) hC dJ13_bitCount_95d88_3 rfl <| x_ldc2 hC dJ13_bitCount_95d88_4 wconstL_J13_314 <| x_land hC dJ13_bitCount_95d88_7 <| ?_
  refine x_lsub hC dJ13_bitCount_95d88_8 <| x_lstore_n hC dJ13_bitCount_95d88_9 rfl (by decide) rfl <| x_lload_n hC dJ13_bitCount_95d88_10 rfl (j := 0) rfl <| x_ldc2 hC dJ13_bitCount_95d88_11 wconstL_J13_316 <| x_land hC dJ13_bitCount_95d88_14 <| x_lload_n hC dJ13_bitCount_95d88_15 rfl (j := 0) rfl <| ?_
  refine x_iconst (v := (2 : Int32)) hC dJ13_bitCount_95d88_16 (by decide) <| x_lushr (v := (xlu (a0 - ((xlu a0 (1 : Int32)) &&& (6148914691236517205 : Int64))) (2 : Int32))) hC dJ13_bitCount_95d88_17 rfl <| x_ldc2 hC dJ13_bitCount_95d88_18 wconstL_J13_316 <| x_land hC dJ13_bitCount_95d88_21 <| x_ladd hC dJ13_bitCount_95d88_22 <| x_lstore_n hC dJ13_bitCount_95d88_23 rfl (by decide) rfl <| ?_
  refine x_lload_n hC dJ13_bitCount_95d88_24 rfl (j := 0) rfl <| x_lload_n hC dJ13_bitCount_95d88_25 rfl (j := 0) rfl <| x_iconst (v := (4 : Int32)) hC dJ13_bitCount_95d88_26 (by decide) <| x_lushr (v := (xlu (((a0 - ((xlu a0 (1 : Int32)) &&& (6148914691236517205 : Int64))) &&& (3689348814741910323 : Int64)) + ((xlu (a0 - ((xlu a0 (1 : Int32)) &&& (6148914691236517205 : Int64))) (2 : Int32)) &&& (3689348814741910323 : Int64))) (4 : Int32))) hC dJ13_bitCount_95d88_27 rfl <| x_ladd hC dJ13_bitCount_95d88_28 <| x_ldc2 hC dJ13_bitCount_95d88_29 wconstL_J13_318 <| ?_
  refine x_land hC dJ13_bitCount_95d88_32 <| x_lstore_n hC dJ13_bitCount_95d88_33 rfl (by decide) rfl <| x_lload_n hC dJ13_bitCount_95d88_34 rfl (j := 0) rfl <| x_lload_n hC dJ13_bitCount_95d88_35 rfl (j := 0) rfl <| x_bipush (v := (8 : Int32)) hC dJ13_bitCount_95d88_36 (by decide) <| x_lushr (v := (xlu (((((a0 - ((xlu a0 (1 : Int32)) &&& (6148914691236517205 : Int64))) &&& (3689348814741910323 : Int64)) + ((xlu (a0 - ((xlu a0 (1 : Int32)) &&& (6148914691236517205 : Int64))) (2 : Int32)) &&& (3689348814741910323 : Int64))) + (xlu (((a0 - ((xlu a0 (1 : Int32)) &&& (6148914691236517205 : Int64))) &&& (3689348814741910323 : Int64)) + ((xlu (a0 - ((xlu a0 (1 : Int32)) &&& (6148914691236517205 : Int64))) (2 : Int32)) &&& (3689348814741910323 : Int64))) (4 : Int32))) &&& (1085102592571150095 : Int64)) (8 : Int32))) hC dJ13_bitCount_95d88_38 rfl <| ?_
  refine x_ladd hC dJ13_bitCount_95d88_39 <| x_lstore_n hC dJ13_bitCount_95d88_40 rfl (by decide) rfl <| x_lload_n hC dJ13_bitCount_95d88_41 rfl (j := 0) rfl <| x_lload_n hC dJ13_bitCount_95d88_42 rfl (j := 0) rfl <| x_bipush (v := (16 : Int32)) hC dJ13_bitCount_95d88_43 (by decide) <| x_lushr (v := (xlu ((((((a0 - ((xlu a0 (1 : Int32)) &&& (6148914691236517205 : Int64))) &&& (3689348814741910323 : Int64)) + ((xlu (a0 - ((xlu a0 (1 : Int32)) &&& (6148914691236517205 : Int64))) (2 : Int32)) &&& (3689348814741910323 : Int64))) + (xlu (((a0 - ((xlu a0 (1 : Int32)) &&& (6148914691236517205 : Int64))) &&& (3689348814741910323 : Int64)) + ((xlu (a0 - ((xlu a0 (1 : Int32)) &&& (6148914691236517205 : Int64))) (2 : Int32)) &&& (3689348814741910323 : Int64))) (4 : Int32))) &&& (1085102592571150095 : Int64)) + (xlu (((((a0 - ((xlu a0 (1 : Int32)) &&& (6148914691236517205 : Int64))) &&& (3689348814741910323 : Int64)) + ((xlu (a0 - ((xlu a0 (1 : Int32)) &&& (6148914691236517205 : Int64))) (2 : Int32)) &&& (3689348814741910323 : Int64))) + (xlu (((a0 - ((xlu a0 (1 : Int32)) &&& (6148914691236517205 : Int64))) &&& (3689348814741910323 : Int64)) + ((xlu (a0 - ((xlu a0 (1 : Int32)) &&& (6148914691236517205 : Int64))) (2 : Int32)) &&& (3689348814741910323 : Int64))) (4 : Int32))) &&& (1085102592571150095 : Int64)) (8 : Int32))) (16 : Int32))) hC dJ13_bitCount_95d88_45 rfl <| ?_
  refine x_ladd hC dJ13_bitCount_95d88_46 <| x_lstore_n hC dJ13_bitCount_95d88_47 rfl (by decide) rfl <| x_lload_n hC dJ13_bitCount_95d88_48 rfl (j := 0) rfl <| x_lload_n hC dJ13_bitCount_95d88_49 rfl (j := 0) rfl <| x_bipush (v := (32 : Int32)) hC dJ13_bitCount_95d88_50 (by decide) <| x_lushr (v := (xlu (((((((a0 - ((xlu a0 (1 : Int32)) &&& (6148914691236517205 : Int64))) &&& (3689348814741910323 : Int64)) + ((xlu (a0 - ((xlu a0 (1 : Int32)) &&& (6148914691236517205 : Int64))) (2 : Int32)) &&& (3689348814741910323 : Int64))) + (xlu (((a0 - ((xlu a0 (1 : Int32)) &&& (6148914691236517205 : Int64))) &&& (3689348814741910323 : Int64)) + ((xlu (a0 - ((xlu a0 (1 : Int32)) &&& (6148914691236517205 : Int64))) (2 : Int32)) &&& (3689348814741910323 : Int64))) (4 : Int32))) &&& (1085102592571150095 : Int64)) + (xlu (((((a0 - ((xlu a0 (1 : Int32)) &&& (6148914691236517205 : Int64))) &&& (3689348814741910323 : Int64)) + ((xlu (a0 - ((xlu a0 (1 : Int32)) &&& (6148914691236517205 : Int64))) (2 : Int32)) &&& (3689348814741910323 : Int64))) + (xlu (((a0 - ((xlu a0 (1 : Int32)) &&& (6148914691236517205 : Int64))) &&& (3689348814741910323 : Int64)) + ((xlu (a0 - ((xlu a0 (1 : Int32)) &&& (6148914691236517205 : Int64))) (2 : Int32)) &&& (3689348814741910323 : Int64))) (4 : Int32))) &&& (1085102592571150095 : Int64)) (8 : Int32))) + (xlu ((((((a0 - ((xlu a0 (1 : Int32)) &&& (6148914691236517205 : Int64))) &&& (3689348814741910323 : Int64)) + ((xlu (a0 - ((xlu a0 (1 : Int32)) &&& (6148914691236517205 : Int64))) (2 : Int32)) &&& (3689348814741910323 : Int64))) + (xlu (((a0 - ((xlu a0 (1 : Int32)) &&& (6148914691236517205 : Int64))) &&& (3689348814741910323 : Int64)) + ((xlu (a0 - ((xlu a0 (1 : Int32)) &&& (6148914691236517205 : Int64))) (2 : Int32)) &&& (3689348814741910323 : Int64))) (4 : Int32))) &&& (1085102592571150095 : Int64)) + (xlu (((((a0 - ((xlu a0 (1 : Int32)) &&& (6148914691236517205 : Int64))) &&& (3689348814741910323 : Int64)) + ((xlu (a0 - ((xlu a0 (1 : Int32)) &&& (6148914691236517205 : Int64))) (2 : Int32)) &&& (3689348814741910323 : Int64))) + (xlu (((a0 - ((xlu a0 (1 : Int32)) &&& (6148914691236517205 : Int64))) &&& (3689348814741910323 : Int64)) + ((xlu (a0 - ((xlu a0 (1 : Int32)) &&& (6148914691236517205 : Int64))) (2 : Int32)) &&& (3689348814741910323 : Int64))) (4 : Int32))) &&& (1085102592571150095 : Int64)) (8 : Int32))) (16 : Int32))) (32 : Int32))) hC dJ13_bitCount_95d88_52 rfl <| ?_
  refine x_ladd hC dJ13_bitCount_95d88_53 <| x_lstore_n hC dJ13_bitCount_95d88_54 rfl (by decide) rfl <| x_lload_n hC dJ13_bitCount_95d88_55 rfl (j := 0) rfl <| x_l2i (v := (((((((((a0 - ((xlu a0 (1 : Int32)) &&& (6148914691236517205 : Int64))) &&& (3689348814741910323 : Int64)) + ((xlu (a0 - ((xlu a0 (1 : Int32)) &&& (6148914691236517205 : Int64))) (2 : Int32)) &&& (3689348814741910323 : Int64))) + (xlu (((a0 - ((xlu a0 (1 : Int32)) &&& (6148914691236517205 : Int64))) &&& (3689348814741910323 : Int64)) + ((xlu (a0 - ((xlu a0 (1 : Int32)) &&& (6148914691236517205 : Int64))) (2 : Int32)) &&& (3689348814741910323 : Int64))) (4 : Int32))) &&& (1085102592571150095 : Int64)) + (xlu (((((a0 - ((xlu a0 (1 : Int32)) &&& (6148914691236517205 : Int64))) &&& (3689348814741910323 : Int64)) + ((xlu (a0 - ((xlu a0 (1 : Int32)) &&& (6148914691236517205 : Int64))) (2 : Int32)) &&& (3689348814741910323 : Int64))) + (xlu (((a0 - ((xlu a0 (1 : Int32)) &&& (6148914691236517205 : Int64))) &&& (3689348814741910323 : Int64)) + ((xlu (a0 - ((xlu a0 (1 : Int32)) &&& (6148914691236517205 : Int64))) (2 : Int32)) &&& (3689348814741910323 : Int64))) (4 : Int32))) &&& (1085102592571150095 : Int64)) (8 : Int32))) + (xlu ((((((a0 - ((xlu a0 (1 : Int32)) &&& (6148914691236517205 : Int64))) &&& (3689348814741910323 : Int64)) + ((xlu (a0 - ((xlu a0 (1 : Int32)) &&& (6148914691236517205 : Int64))) (2 : Int32)) &&& (3689348814741910323 : Int64))) + (xlu (((a0 - ((xlu a0 (1 : Int32)) &&& (6148914691236517205 : Int64))) &&& (3689348814741910323 : Int64)) + ((xlu (a0 - ((xlu a0 (1 : Int32)) &&& (6148914691236517205 : Int64))) (2 : Int32)) &&& (3689348814741910323 : Int64))) (4 : Int32))) &&& (1085102592571150095 : Int64)) + (xlu (((((a0 - ((xlu a0 (1 : Int32)) &&& (6148914691236517205 : Int64))) &&& (3689348814741910323 : Int64)) + ((xlu (a0 - ((xlu a0 (1 : Int32)) &&& (6148914691236517205 : Int64))) (2 : Int32)) &&& (3689348814741910323 : Int64))) + (xlu (((a0 - ((xlu a0 (1 : Int32)) &&& (6148914691236517205 : Int64))) &&& (3689348814741910323 : Int64)) + ((xlu (a0 - ((xlu a0 (1 : Int32)) &&& (6148914691236517205 : Int64))) (2 : Int32)) &&& (3689348814741910323 : Int64))) (4 : Int32))) &&& (1085102592571150095 : Int64)) (8 : Int32))) (16 : Int32))) + (xlu (((((((a0 - ((xlu a0 (1 : Int32)) &&& (6148914691236517205 : Int64))) &&& (3689348814741910323 : Int64)) + ((xlu (a0 - ((xlu a0 (1 : Int32)) &&& (6148914691236517205 : Int64))) (2 : Int32)) &&& (3689348814741910323 : Int64))) + (xlu (((a0 - ((xlu a0 (1 : Int32)) &&& (6148914691236517205 : Int64))) &&& (3689348814741910323 : Int64)) + ((xlu (a0 - ((xlu a0 (1 : Int32)) &&& (6148914691236517205 : Int64))) (2 : Int32)) &&& (3689348814741910323 : Int64))) (4 : Int32))) &&& (1085102592571150095 : Int64)) + (xlu (((((a0 - ((xlu a0 (1 : Int32)) &&& (6148914691236517205 : Int64))) &&& (3689348814741910323 : Int64)) + ((xlu (a0 - ((xlu a0 (1 : Int32)) &&& (6148914691236517205 : Int64))) (2 : Int32)) &&& (3689348814741910323 : Int64))) + (xlu (((a0 - ((xlu a0 (1 : Int32)) &&& (6148914691236517205 : Int64))) &&& (3689348814741910323 : Int64)) + ((xlu (a0 - ((xlu a0 (1 : Int32)) &&& (6148914691236517205 : Int64))) (2 : Int32)) &&& (3689348814741910323 : Int64))) (4 : Int32))) &&& (1085102592571150095 : Int64)) (8 : Int32))) + (xlu ((((((a0 - ((xlu a0 (1 : Int32)) &&& (6148914691236517205 : Int64))) &&& (3689348814741910323 : Int64)) + ((xlu (a0 - ((xlu a0 (1 : Int32)) &&& (6148914691236517205 : Int64))) (2 : Int32)) &&& (3689348814741910323 : Int64))) + (xlu (((a0 - ((xlu a0 (1 : Int32)) &&& (6148914691236517205 : Int64))) &&& (3689348814741910323 : Int64)) + ((xlu (a0 - ((xlu a0 (1 : Int32)) &&& (6148914691236517205 : Int64))) (2 : Int32)) &&& (3689348814741910323 : Int64))) (4 : Int32))) &&& (1085102592571150095 : Int64)) + (xlu (((((a0 - ((xlu a0 (1 : Int32)) &&& (6148914691236517205 : Int64))) &&& (3689348814741910323 : Int64)) + ((xlu (a0 - ((xlu a0 (1 : Int32)) &&& (6148914691236517205 : Int64))) (2 : Int32)) &&& (3689348814741910323 : Int64))) + (xlu (((a0 - ((xlu a0 (1 : Int32)) &&& (6148914691236517205 : Int64))) &&& (3689348814741910323 : Int64)) + ((xlu (a0 - ((xlu a0 (1 : Int32)) &&& (6148914691236517205 : Int64))) (2 : Int32)) &&& (3689348814741910323 : Int64))) (4 : Int32))) &&& (1085102592571150095 : Int64)) (8 : Int32))) (16 : Int32))) (32 : Int32))).toInt32)) hC dJ13_bitCount_95d88_56 rfl <| x_bipush (v := (127 : Int32)) hC dJ13_bitCount_95d88_57 (by decide) <| x_iand hC dJ13_bitCount_95d88_59 <| ?_
  subst h
  exact x_iret (rest := []) hC hE rfl dJ13_bitCount_95d88_60
set_option maxRecDepth 100000 in
set_option maxHeartbeats 4000000 in
theorem B_J7_fill_53178_5 {G : xG} {l : Launch} {K : xK} {τ : xS2} (hC : xCX G mM_J7_fill_53178 K) (hR : xRd K 0) (hE : xE G K none (xM τ)) : ∀ (f : Nat) (l0 : Nat) (hl0 : (xSH l0).1 = 10) (l1 : Int32) (l2 : Int32) (l3 : Int32) (σ : xS2), J_J7_fill_53178_5 f l0 l1 l2 l3 σ = some τ → xV G l mM_J7_fill_53178 K 5 [(0, .ref (xad G l0)), (1, .int l1), (2, .int l2), (3, .int l3)] [] (xM σ) := by
  intro f
  induction f with
  | zero => intro l0 hl0 l1 l2 l3 σ h; cases h
  | succ f ih =>
    intro l0 hl0 l1 l2 l3 σ h
    refine x_iload_n hC dJ7_fill_53178_5 rfl (j := 2) rfl <| x_iload_n hC dJ7_fill_53178_6 rfl (j := 3) rfl <| ?_
    refine x_icmp_ge (tgt := 20) hC dJ7_fill_53178_7 (by decide) (fun c1 => ?_) (fun c1 => ?_)
    · replace h := (if_pos c1).symm.trans h
      have e1 := Option.some.inj h
      subst e1
      exact x_vret (rest := []) hC hE rfl dJ7_fill_53178_20
    · replace h := (if_neg c1).symm.trans h
      refine x_aload_n hC dJ7_fill_53178_10 rfl (j := 0) rfl <| x_iload_n hC dJ7_fill_53178_11 rfl (j := 2) rfl <| x_iload_n hC dJ7_fill_53178_12 rfl (j := 1) rfl <| ?_
      obtain ⟨h2, h⟩ := xgd_some h
      refine s_iast hC dJ7_fill_53178_13 (xkd hl0) (xlo (xkd hl0) (by decide)) h2 <| ?_
      refine x_iinc hC dJ7_fill_53178_14 (j := 2) (v := (l2 + (1 : Int32))) rfl rfl (by decide) rfl <| x_goto (tgt := 5) hC dJ7_fill_53178_17 (by decide) <| ?_
      refine x_sub [1, 2, 0, 3] rfl ?_
      exact ih l0 (congrArg Prod.fst (xkd hl0)) l1 (l2 + (1 : Int32)) l3 (yI σ l0 l2.toNatClampNeg l1) h
set_option maxRecDepth 100000 in
set_option maxHeartbeats 4000000 in
theorem C_J7_fill_53178 {G : xG} {l : Launch} {a0 : Nat} {a1 : Int32} {σ : xS2} {τ : xS2} (ha0 : (xSH a0).1 = 10) (h : J_J7_fill_53178 a0 a1 σ = some τ) : xC G l mM_J7_fill_53178 0 [.ref (xad G a0), .int a1] (xM σ) none (xM τ) := by
  refine xC_of (by decide) rfl (Nat.le_refl _) (Nat.le_of_ble_eq_true rfl) (fun K hC hE hR _ => ?_)
  refine x_iconst (v := (0 : Int32)) hC dJ7_fill_53178_0 (by decide) <| x_istore_n hC dJ7_fill_53178_1 rfl (by decide) rfl <| x_aload_n hC dJ7_fill_53178_2 rfl (j := 1) rfl <| x_alen (t := 0) (v := (Int32.ofNat (xSH a0).2)) hC dJ7_fill_53178_3 (xkd ha0) (by decide) (by decide) (xlo (xkd ha0) (by decide)) rfl <| x_istore_n hC dJ7_fill_53178_4 rfl (by decide) rfl <| ?_
  refine x_sub [2, 3, 1, 0] rfl ?_
  exact B_J7_fill_53178_5 hC hR hE xFU a0 (congrArg Prod.fst (xkd ha0)) a1 (0 : Int32) (Int32.ofNat (xSH a0).2) σ h
set_option maxRecDepth 100000 in
set_option maxHeartbeats 4000000 in
theorem B_J7_fill_d0a16_6 {G : xG} {l : Launch} {K : xK} {τ : xS2} (hC : xCX G mM_J7_fill_d0a16 K) (hR : xRd K 0) (hE : xE G K none (xM τ)) : ∀ (f : Nat) (l0 : Nat) (hl0 : (xSH l0).1 = 13) (l1 : Int64) (l3 : Int32) (l4 : Int32) (σ : xS2), J_J7_fill_d0a16_6 f l0 l1 l3 l4 σ = some τ → xV G l mM_J7_fill_d0a16 K 6 [(0, .ref (xad G l0)), (1, .long l1), (3, .int l3), (4, .int l4)] [] (xM σ) := by
  intro f
  induction f with
  | zero => intro l0 hl0 l1 l3 l4 σ h; cases h
  | succ f ih =>
    intro l0 hl0 l1 l3 l4 σ h
    refine x_iload_n hC dJ7_fill_d0a16_6 rfl (j := 2) rfl <| x_iload hC dJ7_fill_d0a16_7 (j := 3) rfl <| ?_
    refine x_icmp_ge (tgt := 22) hC dJ7_fill_d0a16_9 (by decide) (fun c1 => ?_) (fun c1 => ?_)
    · replace h := (if_pos c1).symm.trans h
      have e1 := Option.some.inj h
      subst e1
      exact x_vret (rest := []) hC hE rfl dJ7_fill_d0a16_22
    · replace h := (if_neg c1).symm.trans h
      refine x_aload_n hC dJ7_fill_d0a16_12 rfl (j := 0) rfl <| x_iload_n hC dJ7_fill_d0a16_13 rfl (j := 2) rfl <| x_lload_n hC dJ7_fill_d0a16_14 rfl (j := 1) rfl <| ?_
      obtain ⟨h2, h⟩ := xgd_some h
      refine s_last hC dJ7_fill_d0a16_15 (xkd hl0) (xlo (xkd hl0) (by decide)) h2 <| ?_
      refine x_iinc hC dJ7_fill_d0a16_16 (j := 2) (v := (l3 + (1 : Int32))) rfl rfl (by decide) rfl <| x_goto (tgt := 6) hC dJ7_fill_d0a16_19 (by decide) <| ?_
      refine x_sub [1, 2, 0, 3] rfl ?_
      exact ih l0 (congrArg Prod.fst (xkd hl0)) l1 (l3 + (1 : Int32)) l4 (yL σ l0 l3.toNatClampNeg l1) h
set_option maxRecDepth 100000 in
set_option maxHeartbeats 4000000 in
theorem C_J7_fill_d0a16 {G : xG} {l : Launch} {a0 : Nat} {a1 : Int64} {σ : xS2} {τ : xS2} (ha0 : (xSH a0).1 = 13) (h : J_J7_fill_d0a16 a0 a1 σ = some τ) : xC G l mM_J7_fill_d0a16 0 [.ref (xad G a0), .long a1] (xM σ) none (xM τ) := by
  refine xC_of (by decide) rfl (Nat.le_refl _) (Nat.le_of_ble_eq_true rfl) (fun K hC hE hR _ => ?_)
  refine x_iconst (v := (0 : Int32)) hC dJ7_fill_d0a16_0 (by decide) <| x_istore_n hC dJ7_fill_d0a16_1 rfl (by decide) rfl <| x_aload_n hC dJ7_fill_d0a16_2 rfl (j := 1) rfl <| x_alenL (v := (Int32.ofNat (xSH a0).2)) hC dJ7_fill_d0a16_3 (xkd ha0) (xlo (xkd ha0) (by decide)) rfl <| x_istore hC dJ7_fill_d0a16_4 (by decide) rfl <| ?_
  refine x_sub [2, 3, 1, 0] rfl ?_
  exact B_J7_fill_d0a16_6 hC hR hE xFU a0 (congrArg Prod.fst (xkd ha0)) a1 (0 : Int32) (Int32.ofNat (xSH a0).2) σ h
set_option maxRecDepth 100000 in
set_option maxHeartbeats 4000000 in
theorem C_X0_place {G : xG} {l : Launch} {a0 : Nat} {a1 : Int32} {a2 : Int32} {a3 : Int32} {σ : xS2} {τ : xS2} (ha0 : xSH a0 = (0, 4)) (h : J_X0_place a0 a1 a2 a3 σ = some τ) : xC G l mM_X0_place 0 [.ref (xad G a0), .int a1, .int a2, .int a3] (xM σ) none (xM τ) := by
  refine xC_of (by decide) rfl (Nat.le_refl _) (Nat.le_of_ble_eq_true rfl) (fun K hC hE hR _ => ?_)
  refine x_aload_n hC dX0_place_0 rfl (j := 0) rfl <| x_iload_n hC dX0_place_1 rfl (j := 1) rfl <| s_putI hC dX0_place_2 wfl_X0_15 ha0 (by decide) (by decide) (xlo ha0 (by decide)) (by decide) (by decide) <| x_aload_n hC dX0_place_5 rfl (j := 0) rfl <| x_iload_n hC dX0_place_6 rfl (j := 2) rfl <| s_putI hC dX0_place_7 wfl_X0_9 ha0 (by decide) (by decide) (xlo ha0 (by decide)) (by decide) (by decide) <| ?_
  refine x_aload_n hC dX0_place_10 rfl (j := 0) rfl <| x_iload_n hC dX0_place_11 rfl (j := 3) rfl <| s_putI hC dX0_place_12 wfl_X0_18 ha0 (by decide) (by decide) (xlo ha0 (by decide)) (by decide) (by decide) <| ?_
  have e1 := Option.some.inj h
  subst e1
  exact x_vret (rest := []) hC hE rfl dX0_place_15
set_option maxRecDepth 100000 in
set_option maxHeartbeats 4000000 in
theorem C_X0_become {G : xG} {l : Launch} {a0 : Nat} {a1 : Nat} {σ : xS2} {τ : xS2} (ha0 : xSH a0 = (0, 4)) (ha1 : xSH a1 = (0, 4)) (h : J_X0_become a0 a1 σ = some τ) : xC G l mM_X0_become 1 [.ref (xad G a0), .ref (xad G a1)] (xM σ) none (xM τ) := by
  refine xC_of (by decide) rfl (Nat.le_refl _) (Nat.le_of_ble_eq_true rfl) (fun K hC hE hR _ => ?_)
  refine x_aload_n hC dX0_become_0 rfl (j := 0) rfl <| x_aload_n hC dX0_become_1 rfl (j := 1) rfl <| s_getI hC dX0_become_2 wfl_X0_15 ha1 (by decide) (by decide) (xlo ha1 (by decide)) (by decide) <| x_aload_n hC dX0_become_5 rfl (j := 1) rfl <| s_getI hC dX0_become_6 wfl_X0_9 ha1 (by decide) (by decide) (xlo ha1 (by decide)) (by decide) <| x_aload_n hC dX0_become_9 rfl (j := 1) rfl <| ?_
  refine s_getI hC dX0_become_10 wfl_X0_18 ha1 (by decide) (by decide) (xlo ha1 (by decide)) (by decide) <| ?_
  obtain ⟨x1, h1, h⟩ := Option.bind_eq_some_iff.mp h
  refine x_callV hC hR dX0_become_13 mK_X0_place wml_X0_21 (C_X0_place (a0 := a0) (a1 := (σ.1 a1 0)) (a2 := (σ.1 a1 1)) (a3 := (σ.1 a1 2)) (σ := σ) ha0 h1) (by omega) ha0 (by decide) rfl rfl (xlo ha0 (by decide)) rfl (Nat.le_of_ble_eq_true rfl) rfl rfl rfl <| ?_
  refine x_aload_n hC dX0_become_16 rfl (j := 0) rfl <| x_aload_n hC dX0_become_17 rfl (j := 1) rfl <| s_getL hC dX0_become_18 wfl_X0_25 ha1 (by decide) (by decide) (xlo ha1 (by decide)) (by decide) <| s_putL hC dX0_become_21 wfl_X0_25 ha0 (by decide) (by decide) (xlo ha0 (by decide)) (by decide) (by decide) <| ?_
  have e1 := Option.some.inj h
  subst e1
  exact x_vret (rest := []) hC hE rfl dX0_become_24
set_option maxRecDepth 100000 in
set_option maxHeartbeats 4000000 in
theorem C_X0_hasLookedAt {G : xG} {l : Launch} {a0 : Nat} {a1 : Int32} {σ : xS2} (ha0 : xSH a0 = (0, 4)) : xC G l mM_X0_hasLookedAt 0 [.ref (xad G a0), .int a1] (xM σ) (some (.int (xb (J_X0_hasLookedAt a0 a1 σ)))) (xM σ) := by
  refine xC_of (by decide) rfl (Nat.le_refl _) (Nat.le_of_ble_eq_true rfl) (fun K hC hE hR _ => ?_)
  obtain ⟨r, h⟩ : ∃ r, J_X0_hasLookedAt a0 a1 σ = r := ⟨_, rfl⟩
  rw [h] at hE
  refine x_aload_n hC dX0_hasLookedAt_0 rfl (j := 0) rfl <| s_getL hC dX0_hasLookedAt_1 wfl_X0_25 ha0 (by decide) (by decide) (xlo ha0 (by decide)) (by decide) <| x_iload_n hC dX0_hasLookedAt_4 rfl (j := 1) rfl <| x_lushr (v := (xlu (σ.2 a0 3) a1)) hC dX0_hasLookedAt_5 rfl <| x_lconst (v := (1 : Int64)) hC dX0_hasLookedAt_6 (by decide) <| x_land hC dX0_hasLookedAt_7 <| ?_
  refine x_lconst (v := (0 : Int64)) hC dX0_hasLookedAt_8 (by decide) <| x_lcmp hC dX0_hasLookedAt_9 <| ?_
  refine x_if_eq (tgt := 17) hC dX0_hasLookedAt_10 (by decide) (fun c1 => ?_) (fun c1 => ?_)
  · replace h := (if_pos c1).symm.trans h
    refine x_iconst (v := (0 : Int32)) hC dX0_hasLookedAt_17 (by decide) <| ?_
    subst h
    exact x_zret (rest := []) hC hE rfl (by decide) dX0_hasLookedAt_18
  · replace h := (if_neg c1).symm.trans h
    refine x_iconst (v := (1 : Int32)) hC dX0_hasLookedAt_13 (by decide) <| x_goto (tgt := 18) hC dX0_hasLookedAt_14 (by decide) <| ?_
    subst h
    exact x_zret (rest := []) hC hE rfl (by decide) dX0_hasLookedAt_18
set_option maxRecDepth 100000 in
set_option maxHeartbeats 4000000 in
theorem C_X3_isStone {G : xG} {l : Launch} {a1 : Int32} {σ : xS2} {r : Bool} (h : J_X3_isStone a1 σ = some r) : xC G l mM_X3_isStone 0 [.ref (xad G 1), .int a1] (xM σ) (some (.int (xb r))) (xM σ) := by
  refine xC_of (by decide) rfl (Nat.le_refl _) (Nat.le_of_ble_eq_true rfl) (fun K hC hE hR _ => ?_)
  refine x_iload_n hC dX3_isStone_0 rfl (j := 1) rfl <| ?_
  refine x_if_lt (tgt := 27) hC dX3_isStone_1 (by decide) (fun c1 => ?_) (fun c1 => ?_)
  · replace h := (if_pos c1).symm.trans h
    refine x_iconst (v := (0 : Int32)) hC dX3_isStone_27 (by decide) <| ?_
    have e1 := Option.some.inj h
    subst e1
    exact x_zret (rest := []) hC hE rfl (by decide) dX3_isStone_28
  · replace h := (if_neg c1).symm.trans h
    refine x_iload_n hC dX3_isStone_4 rfl (j := 1) rfl <| x_bipush (v := (36 : Int32)) hC dX3_isStone_5 (by decide) <| ?_
    refine x_icmp_ge (tgt := 27) hC dX3_isStone_7 (by decide) (fun c2 => ?_) (fun c2 => ?_)
    · replace h := (if_pos c2).symm.trans h
      refine x_iconst (v := (0 : Int32)) hC dX3_isStone_27 (by decide) <| ?_
      have e1 := Option.some.inj h
      subst e1
      exact x_zret (rest := []) hC hE rfl (by decide) dX3_isStone_28
    · replace h := (if_neg c2).symm.trans h
      refine x_aload_n hC dX3_isStone_10 rfl (j := 0) rfl <| s_getR (q := 2) hC dX3_isStone_11 wfl_X3_9 rfl (by decide) (by decide) (by decide) (by decide) (by decide) <| x_bipush (v := (36 : Int32)) hC dX3_isStone_14 (by decide) <| x_iload_n hC dX3_isStone_16 rfl (j := 1) rfl <| x_iadd hC dX3_isStone_17 <| ?_
      obtain ⟨h3, h⟩ := xgd_some h
      refine s_iald hC dX3_isStone_18 rfl (by decide) h3 <| ?_
      refine x_iconst (v := (1 : Int32)) hC dX3_isStone_19 (by decide) <| ?_
      refine x_icmp_ne (tgt := 27) hC dX3_isStone_20 (by decide) (fun c4 => ?_) (fun c4 => ?_)
      · replace h := (if_neg c4).symm.trans h
        refine x_iconst (v := (0 : Int32)) hC dX3_isStone_27 (by decide) <| ?_
        have e1 := Option.some.inj h
        subst e1
        exact x_zret (rest := []) hC hE rfl (by decide) dX3_isStone_28
      · replace h := (if_pos c4).symm.trans h
        refine x_iconst (v := (1 : Int32)) hC dX3_isStone_23 (by decide) <| x_goto (tgt := 28) hC dX3_isStone_24 (by decide) <| ?_
        have e1 := Option.some.inj h
        subst e1
        exact x_zret (rest := []) hC hE rfl (by decide) dX3_isStone_28
set_option maxRecDepth 100000 in
set_option maxHeartbeats 4000000 in
theorem C_X0_isOnNewStone {G : xG} {l : Launch} {a0 : Nat} {σ : xS2} {r : Bool} (ha0 : xSH a0 = (0, 4)) (h : J_X0_isOnNewStone a0 σ = some r) : xC G l mM_X0_isOnNewStone 1 [.ref (xad G a0), .ref (xad G 1)] (xM σ) (some (.int (xb r))) (xM σ) := by
  refine xC_of (by decide) rfl (Nat.le_refl _) (Nat.le_of_ble_eq_true rfl) (fun K hC hE hR _ => ?_)
  refine x_aload_n hC dX0_isOnNewStone_0 rfl (j := 1) rfl <| x_aload_n hC dX0_isOnNewStone_1 rfl (j := 0) rfl <| s_getI hC dX0_isOnNewStone_2 wfl_X0_15 ha0 (by decide) (by decide) (xlo ha0 (by decide)) (by decide) <| ?_
  obtain ⟨x1, h1, h⟩ := Option.bind_eq_some_iff.mp h
  refine x_callV hC hR dX0_isOnNewStone_5 mK_X3_isStone wml_X0_29 (C_X3_isStone (a1 := (σ.1 a0 0)) (σ := σ) h1) (by omega) rfl (by decide) rfl rfl (xlt (by decide)) rfl (Nat.le_of_ble_eq_true rfl) rfl rfl rfl <| ?_
  refine x_if_eq (tgt := 26) hC dX0_isOnNewStone_8 (by decide) (fun c2 => ?_) (fun c2 => ?_)
  · replace h := (if_pos c2).symm.trans h
    refine x_iconst (v := (0 : Int32)) hC dX0_isOnNewStone_26 (by decide) <| ?_
    have e1 := Option.some.inj h
    subst e1
    exact x_zret (rest := []) hC hE rfl (by decide) dX0_isOnNewStone_27
  · replace h := (if_neg c2).symm.trans h
    refine x_aload_n hC dX0_isOnNewStone_11 rfl (j := 0) rfl <| x_aload_n hC dX0_isOnNewStone_12 rfl (j := 0) rfl <| s_getI hC dX0_isOnNewStone_13 wfl_X0_15 ha0 (by decide) (by decide) (xlo ha0 (by decide)) (by decide) <| x_callV hC hR dX0_isOnNewStone_16 mK_X0_hasLookedAt wml_X0_35 (C_X0_hasLookedAt (a0 := a0) (a1 := (σ.1 a0 0)) (σ := σ) ha0) (by omega) ha0 (by decide) rfl rfl (xlo ha0 (by decide)) rfl (Nat.le_of_ble_eq_true rfl) rfl rfl rfl <| ?_
    refine x_if_ne (tgt := 26) hC dX0_isOnNewStone_19 (by decide) (fun c4 => ?_) (fun c4 => ?_)
    · replace h := (if_neg c4).symm.trans h
      refine x_iconst (v := (0 : Int32)) hC dX0_isOnNewStone_26 (by decide) <| ?_
      have e1 := Option.some.inj h
      subst e1
      exact x_zret (rest := []) hC hE rfl (by decide) dX0_isOnNewStone_27
    · replace h := (if_pos c4).symm.trans h
      refine x_iconst (v := (1 : Int32)) hC dX0_isOnNewStone_22 (by decide) <| x_goto (tgt := 27) hC dX0_isOnNewStone_23 (by decide) <| ?_
      have e1 := Option.some.inj h
      subst e1
      exact x_zret (rest := []) hC hE rfl (by decide) dX0_isOnNewStone_27
set_option maxRecDepth 100000 in
set_option maxHeartbeats 4000000 in
theorem C_X0_lookAround {G : xG} {l : Launch} {a0 : Nat} {σ : xS2} {r : Bool} {τ : xS2} (ha0 : xSH a0 = (0, 4)) (h : J_X0_lookAround a0 σ = some (r, τ)) : xC G l mM_X0_lookAround 2 [.ref (xad G a0), .ref (xad G 1)] (xM σ) (some (.int (xb r))) (xM τ) := by
  refine xC_of (by decide) rfl (Nat.le_refl _) (Nat.le_of_ble_eq_true rfl) (fun K hC hE hR _ => ?_)
  refine x_aload_n hC dX0_lookAround_0 rfl (j := 0) rfl <| s_getI hC dX0_lookAround_1 wfl_X0_9 ha0 (by decide) (by decide) (xlo ha0 (by decide)) (by decide) <| x_iconst (v := (2 : Int32)) hC dX0_lookAround_4 (by decide) <| ?_
  refine x_icmp_lt (tgt := 16) hC dX0_lookAround_5 (by decide) (fun c1 => ?_) (fun c1 => ?_)
  · replace h := (if_pos c1).symm.trans h
    refine x_iconst (v := (0 : Int32)) hC dX0_lookAround_16 (by decide) <| ?_
    obtain ⟨e1, e2⟩ := xso2 h
    subst e1
    subst e2
    exact x_zret (rest := []) hC hE rfl (by decide) dX0_lookAround_17
  · replace h := (if_neg c1).symm.trans h
    refine x_aload_n hC dX0_lookAround_8 rfl (j := 0) rfl <| x_aload_n hC dX0_lookAround_9 rfl (j := 1) rfl <| ?_
    obtain ⟨x2, h2, h⟩ := Option.bind_eq_some_iff.mp h
    refine x_callV hC hR dX0_lookAround_10 mK_X0_isOnNewStone wml_X0_75 (C_X0_isOnNewStone (a0 := a0) (σ := σ) ha0 h2) (by omega) ha0 (by decide) rfl rfl (xlo ha0 (by decide)) rfl (Nat.le_of_ble_eq_true rfl) rfl rfl rfl <| ?_
    refine x_if_ne (tgt := 18) hC dX0_lookAround_13 (by decide) (fun c3 => ?_) (fun c3 => ?_)
    · replace h := (if_neg c3).symm.trans h
      refine x_aload_n hC dX0_lookAround_18 rfl (j := 0) rfl <| x_dup hC dX0_lookAround_19 rfl <| s_getI hC dX0_lookAround_20 wfl_X0_9 ha0 (by decide) (by decide) (xlo ha0 (by decide)) (by decide) <| x_iconst (v := (2 : Int32)) hC dX0_lookAround_23 (by decide) <| x_isub hC dX0_lookAround_24 <| s_putI hC dX0_lookAround_25 wfl_X0_9 ha0 (by decide) (by decide) (xlo ha0 (by decide)) (by decide) (by decide) <| ?_
      refine x_aload_n hC dX0_lookAround_28 rfl (j := 0) rfl <| x_dup hC dX0_lookAround_29 rfl <| s_getL hC dX0_lookAround_30 wfl_X0_25 ha0 (by decide) (by decide) (xlo ha0 (by decide)) (by decide) <| x_lconst (v := (1 : Int64)) hC dX0_lookAround_33 (by decide) <| x_aload_n hC dX0_lookAround_34 rfl (j := 0) rfl <| s_getI hC dX0_lookAround_35 wfl_X0_15 ha0 (by decide) (by decide) (xlo ha0 (by decide)) (by decide) <| ?_
      refine x_lshl (v := (xls (1 : Int64) ((yI σ a0 1 ((σ.1 a0 1) - (2 : Int32))).1 a0 0))) hC dX0_lookAround_38 rfl <| x_lor hC dX0_lookAround_39 <| s_putL hC dX0_lookAround_40 wfl_X0_25 ha0 (by decide) (by decide) (xlo ha0 (by decide)) (by decide) (by decide) <| x_iconst (v := (1 : Int32)) hC dX0_lookAround_43 (by decide) <| ?_
      obtain ⟨e1, e2⟩ := xso2 h
      subst e1
      subst e2
      exact x_zret (rest := []) hC hE rfl (by decide) dX0_lookAround_44
    · replace h := (if_pos c3).symm.trans h
      refine x_iconst (v := (0 : Int32)) hC dX0_lookAround_16 (by decide) <| ?_
      obtain ⟨e1, e2⟩ := xso2 h
      subst e1
      subst e2
      exact x_zret (rest := []) hC hE rfl (by decide) dX0_lookAround_17
set_option maxRecDepth 100000 in
set_option maxHeartbeats 4000000 in
theorem C_X3_neighbour {G : xG} {l : Launch} {a0 : Int32} {a1 : Int32} {σ : xS2} : xC G l mM_X3_neighbour 0 [.int a0, .int a1] (xM σ) (some (.int (J_X3_neighbour a0 a1))) (xM σ) := by
  refine xC_of (by decide) rfl (Nat.le_refl _) (Nat.le_of_ble_eq_true rfl) (fun K hC hE hR _ => ?_)
  obtain ⟨r, h⟩ : ∃ r, J_X3_neighbour a0 a1 = r := ⟨_, rfl⟩
  rw [h] at hE
  refine x_iload_n hC dX3_neighbour_0 rfl (j := 1) rfl <| ?_
  by_cases c1 : a1 = (1 : Int32)
  · replace h := (if_pos c1).symm.trans h
    refine x_tsw (tgt := 32) hC dX3_neighbour_1 (by decide) (by rw [c1]; decide) ?_
    refine x_iload_n hC dX3_neighbour_32 rfl (j := 0) rfl <| x_bipush (v := (6 : Int32)) hC dX3_neighbour_33 (by decide) <| ?_
    refine x_icmp_lt (tgt := 45) hC dX3_neighbour_35 (by decide) (fun c2 => ?_) (fun c2 => ?_)
    · replace h := (if_pos c2).symm.trans h
      refine x_iconst (v := (-1 : Int32)) hC dX3_neighbour_45 (by decide) <| ?_
      subst h
      exact x_iret (rest := []) hC hE rfl dX3_neighbour_46
    · replace h := (if_neg c2).symm.trans h
      refine x_iload_n hC dX3_neighbour_38 rfl (j := 0) rfl <| x_bipush (v := (6 : Int32)) hC dX3_neighbour_39 (by decide) <| x_isub hC dX3_neighbour_41 <| x_goto (tgt := 46) hC dX3_neighbour_42 (by decide) <| ?_
      subst h
      exact x_iret (rest := []) hC hE rfl dX3_neighbour_46
  · replace h := (if_neg c1).symm.trans h
    by_cases c3 : a1 = (2 : Int32)
    · replace h := (if_pos c3).symm.trans h
      refine x_tsw (tgt := 47) hC dX3_neighbour_1 (by decide) (by rw [c3]; decide) ?_
      refine x_iload_n hC dX3_neighbour_47 rfl (j := 0) rfl <| x_bipush (v := (6 : Int32)) hC dX3_neighbour_48 (by decide) <| x_irm hC dX3_neighbour_50 (by decide) <| x_iconst (v := (5 : Int32)) hC dX3_neighbour_51 (by decide) <| ?_
      refine x_icmp_ge (tgt := 61) hC dX3_neighbour_52 (by decide) (fun c4 => ?_) (fun c4 => ?_)
      · replace h := (if_pos c4).symm.trans h
        refine x_iconst (v := (-1 : Int32)) hC dX3_neighbour_61 (by decide) <| ?_
        subst h
        exact x_iret (rest := []) hC hE rfl dX3_neighbour_62
      · replace h := (if_neg c4).symm.trans h
        refine x_iload_n hC dX3_neighbour_55 rfl (j := 0) rfl <| x_iconst (v := (1 : Int32)) hC dX3_neighbour_56 (by decide) <| x_iadd hC dX3_neighbour_57 <| x_goto (tgt := 62) hC dX3_neighbour_58 (by decide) <| ?_
        subst h
        exact x_iret (rest := []) hC hE rfl dX3_neighbour_62
    · replace h := (if_neg c3).symm.trans h
      by_cases c5 : a1 = (3 : Int32)
      · replace h := (if_pos c5).symm.trans h
        refine x_tsw (tgt := 63) hC dX3_neighbour_1 (by decide) (by rw [c5]; decide) ?_
        refine x_iload_n hC dX3_neighbour_63 rfl (j := 0) rfl <| x_bipush (v := (30 : Int32)) hC dX3_neighbour_64 (by decide) <| ?_
        refine x_icmp_ge (tgt := 76) hC dX3_neighbour_66 (by decide) (fun c6 => ?_) (fun c6 => ?_)
        · replace h := (if_pos c6).symm.trans h
          refine x_iconst (v := (-1 : Int32)) hC dX3_neighbour_76 (by decide) <| ?_
          subst h
          exact x_iret (rest := []) hC hE rfl dX3_neighbour_77
        · replace h := (if_neg c6).symm.trans h
          refine x_iload_n hC dX3_neighbour_69 rfl (j := 0) rfl <| x_bipush (v := (6 : Int32)) hC dX3_neighbour_70 (by decide) <| x_iadd hC dX3_neighbour_72 <| x_goto (tgt := 77) hC dX3_neighbour_73 (by decide) <| ?_
          subst h
          exact x_iret (rest := []) hC hE rfl dX3_neighbour_77
      · replace h := (if_neg c5).symm.trans h
        by_cases c7 : a1 = (4 : Int32)
        · replace h := (if_pos c7).symm.trans h
          refine x_tsw (tgt := 78) hC dX3_neighbour_1 (by decide) (by rw [c7]; decide) ?_
          refine x_iload_n hC dX3_neighbour_78 rfl (j := 0) rfl <| x_bipush (v := (6 : Int32)) hC dX3_neighbour_79 (by decide) <| x_irm hC dX3_neighbour_81 (by decide) <| ?_
          refine x_if_le (tgt := 91) hC dX3_neighbour_82 (by decide) (fun c8 => ?_) (fun c8 => ?_)
          · replace h := (if_pos c8).symm.trans h
            refine x_iconst (v := (-1 : Int32)) hC dX3_neighbour_91 (by decide) <| ?_
            subst h
            exact x_iret (rest := []) hC hE rfl dX3_neighbour_92
          · replace h := (if_neg c8).symm.trans h
            refine x_iload_n hC dX3_neighbour_85 rfl (j := 0) rfl <| x_iconst (v := (1 : Int32)) hC dX3_neighbour_86 (by decide) <| x_isub hC dX3_neighbour_87 <| x_goto (tgt := 92) hC dX3_neighbour_88 (by decide) <| ?_
            subst h
            exact x_iret (rest := []) hC hE rfl dX3_neighbour_92
        · replace h := (if_neg c7).symm.trans h
          refine x_tsw (tgt := 93) hC dX3_neighbour_1 (by decide) ((xTs_else [1, 2, 3, 4] (by decide) (by decide +kernel) (List.forall_mem_cons.mpr ⟨lv_neT c1 (by decide), (List.forall_mem_cons.mpr ⟨lv_neT c3 (by decide), (List.forall_mem_cons.mpr ⟨lv_neT c5 (by decide), (List.forall_mem_cons.mpr ⟨lv_neT c7 (by decide), (fun _ z => absurd z List.not_mem_nil)⟩)⟩)⟩)⟩)).trans (by decide)) ?_
          refine x_iconst (v := (-1 : Int32)) hC dX3_neighbour_93 (by decide) <| ?_
          subst h
          exact x_iret (rest := []) hC hE rfl dX3_neighbour_94
set_option maxRecDepth 100000 in
set_option maxHeartbeats 4000000 in
theorem C_X3_high {G : xG} {l : Launch} {a1 : Int32} {σ : xS2} {r : Int32} (h : J_X3_high a1 σ = some r) : xC G l mM_X3_high 0 [.ref (xad G 1), .int a1] (xM σ) (some (.int r)) (xM σ) := by
  refine xC_of (by decide) rfl (Nat.le_refl _) (Nat.le_of_ble_eq_true rfl) (fun K hC hE hR _ => ?_)
  refine x_iload_n hC dX3_high_0 rfl (j := 1) rfl <| ?_
  refine x_if_lt (tgt := 19) hC dX3_high_1 (by decide) (fun c1 => ?_) (fun c1 => ?_)
  · replace h := (if_pos c1).symm.trans h
    refine x_iconst (v := (0 : Int32)) hC dX3_high_19 (by decide) <| ?_
    have e1 := Option.some.inj h
    subst e1
    exact x_iret (rest := []) hC hE rfl dX3_high_20
  · replace h := (if_neg c1).symm.trans h
    refine x_iload_n hC dX3_high_4 rfl (j := 1) rfl <| x_bipush (v := (36 : Int32)) hC dX3_high_5 (by decide) <| ?_
    refine x_icmp_ge (tgt := 19) hC dX3_high_7 (by decide) (fun c2 => ?_) (fun c2 => ?_)
    · replace h := (if_pos c2).symm.trans h
      refine x_iconst (v := (0 : Int32)) hC dX3_high_19 (by decide) <| ?_
      have e1 := Option.some.inj h
      subst e1
      exact x_iret (rest := []) hC hE rfl dX3_high_20
    · replace h := (if_neg c2).symm.trans h
      refine x_aload_n hC dX3_high_10 rfl (j := 0) rfl <| s_getR (q := 2) hC dX3_high_11 wfl_X3_9 rfl (by decide) (by decide) (by decide) (by decide) (by decide) <| x_iload_n hC dX3_high_14 rfl (j := 1) rfl <| ?_
      obtain ⟨h3, h⟩ := xgd_some h
      refine s_iald hC dX3_high_15 rfl (by decide) h3 <| ?_
      refine x_goto (tgt := 20) hC dX3_high_16 (by decide) <| ?_
      have e1 := Option.some.inj h
      subst e1
      exact x_iret (rest := []) hC hE rfl dX3_high_20
set_option maxRecDepth 100000 in
set_option maxHeartbeats 4000000 in
theorem C_X3_price {G : xG} {l : Launch} {a1 : Int32} {a2 : Int32} {σ : xS2} {r : Int32} (h : J_X3_price a1 a2 σ = some r) : xC G l mM_X3_price 1 [.ref (xad G 1), .int a1, .int a2] (xM σ) (some (.int r)) (xM σ) := by
  refine xC_of (by decide) rfl (Nat.le_refl _) (Nat.le_of_ble_eq_true rfl) (fun K hC hE hR _ => ?_)
  refine x_iconst (v := (3 : Int32)) hC dX3_price_0 (by decide) <| x_iconst (v := (2 : Int32)) hC dX3_price_1 (by decide) <| x_iconst (v := (0 : Int32)) hC dX3_price_2 (by decide) <| x_aload_n hC dX3_price_3 rfl (j := 0) rfl <| x_iload_n hC dX3_price_4 rfl (j := 2) rfl <| ?_
  obtain ⟨x1, h1, h⟩ := Option.bind_eq_some_iff.mp h
  refine x_callV hC hR dX3_price_5 mK_X3_high wml_X3_27 (C_X3_high (a1 := a2) (σ := σ) h1) (by omega) rfl (by decide) rfl rfl (xlt (by decide)) rfl (Nat.le_of_ble_eq_true rfl) rfl rfl rfl <| ?_
  refine x_aload_n hC dX3_price_8 rfl (j := 0) rfl <| x_iload_n hC dX3_price_9 rfl (j := 1) rfl <| ?_
  obtain ⟨x2, h2, h⟩ := Option.bind_eq_some_iff.mp h
  refine x_callV hC hR dX3_price_10 mK_X3_high wml_X3_27 (C_X3_high (a1 := a1) (σ := σ) h2) (by omega) rfl (by decide) rfl rfl (xlt (by decide)) rfl (Nat.le_of_ble_eq_true rfl) rfl rfl rfl <| ?_
  refine x_isub hC dX3_price_13 <| x_mmax hC hR (by omega) dX3_price_14 wml_X3_31 (Nat.le_of_ble_eq_true rfl) <| x_imul hC dX3_price_17 <| x_iadd hC dX3_price_18 <| x_bipush (v := (6 : Int32)) hC dX3_price_19 (by decide) <| x_iadd hC dX3_price_21 <| ?_
  refine x_aload_n hC dX3_price_22 rfl (j := 0) rfl <| s_getR (q := 2) hC dX3_price_23 wfl_X3_9 rfl (by decide) (by decide) (by decide) (by decide) (by decide) <| x_sipush (v := (192 : Int32)) hC dX3_price_26 (by decide) <| s_iald hC dX3_price_29 rfl (by decide) (by decide) <| ?_
  show xV _ _ _ _ _ _ (.int (σ.1 2 192) :: _) _
  refine x_isub hC dX3_price_30 <| ?_
  have e1 := Option.some.inj h
  subst e1
  exact x_iret (rest := []) hC hE rfl dX3_price_31
set_option maxRecDepth 100000 in
set_option maxHeartbeats 4000000 in
theorem C_X0_move {G : xG} {l : Launch} {a0 : Nat} {a2 : Int32} {σ : xS2} {r : Bool} {τ : xS2} (ha0 : xSH a0 = (0, 4)) (h : J_X0_move a0 a2 σ = some (r, τ)) : xC G l mM_X0_move 2 [.ref (xad G a0), .ref (xad G 1), .int a2] (xM σ) (some (.int (xb r))) (xM τ) := by
  refine xC_of (by decide) rfl (Nat.le_refl _) (Nat.le_of_ble_eq_true rfl) (fun K hC hE hR _ => ?_)
  refine x_aload_n hC dX0_move_0 rfl (j := 0) rfl <| s_getI hC dX0_move_1 wfl_X0_15 ha0 (by decide) (by decide) (xlo ha0 (by decide)) (by decide) <| x_iload_n hC dX0_move_4 rfl (j := 2) rfl <| x_callS hC hR dX0_move_5 mK_X3_neighbour wml_X0_69 (C_X3_neighbour (a0 := (σ.1 a0 0)) (a1 := a2) (σ := σ)) (by omega) rfl (Nat.le_of_ble_eq_true rfl) rfl rfl rfl <| x_istore_n hC dX0_move_8 rfl (by decide) rfl <| x_iload_n hC dX0_move_9 rfl (j := 0) rfl <| ?_
  refine x_if_ge (tgt := 15) hC dX0_move_10 (by decide) (fun c2 => ?_) (fun c2 => ?_)
  · replace h := (if_pos c2).symm.trans h
    refine x_aload_n hC dX0_move_15 rfl (j := 2) rfl <| x_aload_n hC dX0_move_16 rfl (j := 1) rfl <| s_getI hC dX0_move_17 wfl_X0_15 ha0 (by decide) (by decide) (xlo ha0 (by decide)) (by decide) <| x_iload_n hC dX0_move_20 rfl (j := 0) rfl <| ?_
    obtain ⟨x3, h3, h⟩ := Option.bind_eq_some_iff.mp h
    refine x_callV hC hR dX0_move_21 mK_X3_price wml_X0_72 (C_X3_price (a1 := (σ.1 a0 0)) (a2 := (J_X3_neighbour (σ.1 a0 0) a2)) (σ := σ) h3) (by omega) rfl (by decide) rfl rfl (xlt (by decide)) rfl (Nat.le_of_ble_eq_true rfl) rfl rfl rfl <| ?_
    refine x_istore hC dX0_move_24 (by decide) rfl <| x_aload_n hC dX0_move_26 rfl (j := 2) rfl <| s_getI hC dX0_move_27 wfl_X0_9 ha0 (by decide) (by decide) (xlo ha0 (by decide)) (by decide) <| x_iload hC dX0_move_30 (j := 0) rfl <| ?_
    refine x_icmp_ge (tgt := 37) hC dX0_move_32 (by decide) (fun c4 => ?_) (fun c4 => ?_)
    · replace h := (if_pos c4).symm.trans h
      refine x_aload_n hC dX0_move_37 rfl (j := 2) rfl <| x_dup hC dX0_move_38 rfl <| s_getI hC dX0_move_39 wfl_X0_9 ha0 (by decide) (by decide) (xlo ha0 (by decide)) (by decide) <| x_iload hC dX0_move_42 (j := 0) rfl <| x_isub hC dX0_move_44 <| s_putI hC dX0_move_45 wfl_X0_9 ha0 (by decide) (by decide) (xlo ha0 (by decide)) (by decide) (by decide) <| ?_
      refine x_aload_n hC dX0_move_48 rfl (j := 2) rfl <| x_iload_n hC dX0_move_49 rfl (j := 1) rfl <| s_putI hC dX0_move_50 wfl_X0_15 ha0 (by decide) (by decide) (xlo ha0 (by decide)) (by decide) (by decide) <| x_iconst (v := (1 : Int32)) hC dX0_move_53 (by decide) <| ?_
      obtain ⟨e1, e2⟩ := xso2 h
      subst e1
      subst e2
      exact x_zret (rest := []) hC hE rfl (by decide) dX0_move_54
    · replace h := (if_neg c4).symm.trans h
      refine x_iconst (v := (0 : Int32)) hC dX0_move_35 (by decide) <| ?_
      obtain ⟨e1, e2⟩ := xso2 h
      subst e1
      subst e2
      exact x_zret (rest := []) hC hE rfl (by decide) dX0_move_36
  · replace h := (if_neg c2).symm.trans h
    refine x_iconst (v := (0 : Int32)) hC dX0_move_13 (by decide) <| ?_
    obtain ⟨e1, e2⟩ := xso2 h
    subst e1
    subst e2
    exact x_zret (rest := []) hC hE rfl (by decide) dX0_move_14
set_option maxRecDepth 100000 in
set_option maxHeartbeats 4000000 in
theorem B_X3_isHollow_32 {G : xG} {l : Launch} {K : xK} {r : Bool} {σ : xS2} (hC : xCX G mM_X3_isHollow K) (hR : xRd K 1) (hE : xE G K (some (.int (xb r))) (xM σ)) {k2 : Int32 → Int32 → xS2 → Option Bool} (hk2 : ∀ (l1 : Int32) (l2 : Int32), k2 l1 l2 σ = some r → xV G l mM_X3_isHollow K 2 [(0, .ref (xad G 1)), (1, .int l1), (2, .int l2)] [] (xM σ)) : ∀ (l1 : Int32) (l2 : Int32), J_X3_isHollow_32 k2 l1 l2 σ = some r → xV G l mM_X3_isHollow K 32 [(0, .ref (xad G 1)), (1, .int l1), (2, .int l2)] [] (xM σ) := by
  intro l1 l2 h
  refine x_iinc hC dX3_isHollow_32 (j := 2) (v := (l2 + (1 : Int32))) rfl rfl (by decide) rfl <| x_goto (tgt := 2) hC dX3_isHollow_35 (by decide) <| ?_
  refine x_sub [1, 2, 0] rfl ?_
  exact hk2 l1 (l2 + (1 : Int32)) h
set_option maxRecDepth 100000 in
set_option maxHeartbeats 4000000 in
theorem B_X3_isHollow_2 {G : xG} {l : Launch} {K : xK} {r : Bool} {σ : xS2} (hC : xCX G mM_X3_isHollow K) (hR : xRd K 1) (hE : xE G K (some (.int (xb r))) (xM σ)) : ∀ (f : Nat) (l1 : Int32) (l2 : Int32), J_X3_isHollow_2 f l1 l2 σ = some r → xV G l mM_X3_isHollow K 2 [(0, .ref (xad G 1)), (1, .int l1), (2, .int l2)] [] (xM σ) := by
  intro f
  induction f with
  | zero => intro l1 l2 h; cases h
  | succ f ih =>
    intro l1 l2 h
    refine x_iload_n hC dX3_isHollow_2 rfl (j := 2) rfl <| x_iconst (v := (4 : Int32)) hC dX3_isHollow_3 (by decide) <| ?_
    refine x_icmp_gt (tgt := 38) hC dX3_isHollow_4 (by decide) (fun c1 => ?_) (fun c1 => ?_)
    · replace h := (if_pos c1).symm.trans h
      refine x_iconst (v := (1 : Int32)) hC dX3_isHollow_38 (by decide) <| ?_
      have e1 := Option.some.inj h
      subst e1
      exact x_zret (rest := []) hC hE rfl (by decide) dX3_isHollow_39
    · replace h := (if_neg c1).symm.trans h
      refine x_iload_n hC dX3_isHollow_7 rfl (j := 1) rfl <| x_iload_n hC dX3_isHollow_8 rfl (j := 2) rfl <| x_callS hC hR dX3_isHollow_9 mK_X3_neighbour wml_X3_37 (C_X3_neighbour (a0 := l1) (a1 := l2) (σ := σ)) (by omega) rfl (Nat.le_of_ble_eq_true rfl) rfl rfl rfl <| x_istore_n hC dX3_isHollow_12 rfl (by decide) rfl <| x_iload_n hC dX3_isHollow_13 rfl (j := 0) rfl <| ?_
      refine x_if_lt (tgt := 32) hC dX3_isHollow_14 (by decide) (fun c3 => ?_) (fun c3 => ?_)
      · replace h := (if_pos c3).symm.trans h
        refine x_sub [1, 2, 3] rfl ?_
        exact B_X3_isHollow_32 hC hR hE ih l1 l2 h
      · replace h := (if_neg c3).symm.trans h
        refine x_aload_n hC dX3_isHollow_17 rfl (j := 1) rfl <| x_iload_n hC dX3_isHollow_18 rfl (j := 0) rfl <| ?_
        obtain ⟨x4, h4, h⟩ := Option.bind_eq_some_iff.mp h
        refine x_callV hC hR dX3_isHollow_19 mK_X3_high wml_X3_27 (C_X3_high (a1 := (J_X3_neighbour l1 l2)) (σ := σ) h4) (by omega) rfl (by decide) rfl rfl (xlt (by decide)) rfl (Nat.le_of_ble_eq_true rfl) rfl rfl rfl <| ?_
        refine x_aload_n hC dX3_isHollow_22 rfl (j := 1) rfl <| x_iload_n hC dX3_isHollow_23 rfl (j := 2) rfl <| ?_
        obtain ⟨x5, h5, h⟩ := Option.bind_eq_some_iff.mp h
        refine x_callV hC hR dX3_isHollow_24 mK_X3_high wml_X3_27 (C_X3_high (a1 := l1) (σ := σ) h5) (by omega) rfl (by decide) rfl rfl (xlt (by decide)) rfl (Nat.le_of_ble_eq_true rfl) rfl rfl rfl <| ?_
        refine x_icmp_gt (tgt := 32) hC dX3_isHollow_27 (by decide) (fun c6 => ?_) (fun c6 => ?_)
        · replace h := (if_pos c6).symm.trans h
          refine x_sub [1, 2, 3] rfl ?_
          exact B_X3_isHollow_32 hC hR hE ih l1 l2 h
        · replace h := (if_neg c6).symm.trans h
          refine x_iconst (v := (0 : Int32)) hC dX3_isHollow_30 (by decide) <| ?_
          have e1 := Option.some.inj h
          subst e1
          exact x_zret (rest := []) hC hE rfl (by decide) dX3_isHollow_31
set_option maxRecDepth 100000 in
set_option maxHeartbeats 4000000 in
theorem C_X3_isHollow {G : xG} {l : Launch} {a1 : Int32} {σ : xS2} {r : Bool} (h : J_X3_isHollow a1 σ = some r) : xC G l mM_X3_isHollow 1 [.ref (xad G 1), .int a1] (xM σ) (some (.int (xb r))) (xM σ) := by
  refine xC_of (by decide) rfl (Nat.le_refl _) (Nat.le_of_ble_eq_true rfl) (fun K hC hE hR _ => ?_)
  refine x_iconst (v := (1 : Int32)) hC dX3_isHollow_0 (by decide) <| x_istore_n hC dX3_isHollow_1 rfl (by decide) rfl <| ?_
  refine x_sub [1, 2, 0] rfl ?_
  exact B_X3_isHollow_2 hC hR hE xFU a1 (1 : Int32) h
set_option maxRecDepth 100000 in
set_option maxHeartbeats 4000000 in
theorem B_X0_liveUnder_122 {G : xG} {l : Launch} {K : xK} {r : Bool} {τ : xS2} (hC : xCX G mM_X0_liveUnder K) (hR : xRd K 3) (hE : xE G K (some (.int (xb r))) (xM τ)) : ∀ (l0 : Nat) (hl0 : xSH l0 = (0, 4)) (l5 : Int32) (l6 : Bool) (l7 : Bool) (σ : xS2), J_X0_liveUnder_122 l0 l5 l6 l7 σ = some (r, τ) → xV G l mM_X0_liveUnder K 122 [(0, .ref (xad G l0)), (5, .int l5), (6, .int (xb l6)), (7, .int (xb l7))] [] (xM σ) := by
  intro l0 hl0 l5 l6 l7 σ h
  refine x_iload hC dX0_liveUnder_122 (j := 1) rfl <| x_bipush (v := (7 : Int32)) hC dX0_liveUnder_124 (by decide) <| ?_
  refine x_icmp_lt (tgt := 139) hC dX0_liveUnder_126 (by decide) (fun c6 => ?_) (fun c6 => ?_)
  · replace h := (if_pos c6).symm.trans h
    refine x_iload hC dX0_liveUnder_139 (j := 2) rfl <| ?_
    obtain ⟨e1, e2⟩ := xso2 h
    subst e1
    subst e2
    exact x_zret (rest := []) hC hE rfl (rfl) dX0_liveUnder_141
  · replace h := (if_neg c6).symm.trans h
    refine x_iload hC dX0_liveUnder_129 (j := 3) rfl <| ?_
    refine x_if_ne (tgt := 139) hC dX0_liveUnder_131 (by decide) (fun c7 => ?_) (fun c7 => ?_)
    · replace h := (if_neg c7).symm.trans h
      refine x_iload hC dX0_liveUnder_139 (j := 2) rfl <| ?_
      obtain ⟨e1, e2⟩ := xso2 h
      subst e1
      subst e2
      exact x_zret (rest := []) hC hE rfl (rfl) dX0_liveUnder_141
    · replace h := (if_pos c7).symm.trans h
      refine x_aload_n hC dX0_liveUnder_134 rfl (j := 0) rfl <| x_iconst (v := (0 : Int32)) hC dX0_liveUnder_135 (by decide) <| s_putI hC dX0_liveUnder_136 wfl_X0_18 hl0 (by decide) (by decide) (xlo hl0 (by decide)) (by decide) (by decide) <| x_iload hC dX0_liveUnder_139 (j := 2) rfl <| ?_
      obtain ⟨e1, e2⟩ := xso2 h
      subst e1
      subst e2
      exact x_zret (rest := []) hC hE rfl (rfl) dX0_liveUnder_141
set_option maxRecDepth 100000 in
set_option maxHeartbeats 4000000 in
theorem B_X0_liveUnder_80 {G : xG} {l : Launch} {K : xK} {r : Bool} {τ : xS2} (hC : xCX G mM_X0_liveUnder K) (hR : xRd K 3) (hE : xE G K (some (.int (xb r))) (xM τ)) : ∀ (l0 : Nat) (hl0 : xSH l0 = (0, 4)) (l2 : Int32) (l5 : Int32) (l6 : Bool) (l7 : Bool) (s0 : Nat) (hs0 : xSH s0 = (0, 4)) (s1 : Int32) (s2 : Int32) (σ : xS2), J_X0_liveUnder_80 l0 l2 l5 l6 l7 s0 s1 s2 σ = some (r, τ) → xV G l mM_X0_liveUnder K 80 [(0, .ref (xad G l0)), (2, .int l2), (5, .int l5), (6, .int (xb l6)), (7, .int (xb l7))] [.int s2, .int s1, .ref (xad G s0)] (xM σ) := by
  intro l0 hl0 l2 l5 l6 l7 s0 hs0 s1 s2 σ h
  refine x_isub hC dX0_liveUnder_80 <| s_putI hC dX0_liveUnder_81 wfl_X0_9 hs0 (by decide) (by decide) (xlo hs0 (by decide)) (by decide) (by decide) <| x_aload_n hC dX0_liveUnder_84 rfl (j := 0) rfl <| x_bipush (v := (99 : Int32)) hC dX0_liveUnder_85 (by decide) <| x_iconst (v := (0 : Int32)) hC dX0_liveUnder_87 (by decide) <| x_aload_n hC dX0_liveUnder_88 rfl (j := 0) rfl <| ?_
  refine s_getI hC dX0_liveUnder_89 wfl_X0_9 hl0 (by decide) (by decide) (xlo hl0 (by decide)) (by decide) <| x_mmax hC hR (by omega) dX0_liveUnder_92 wml_X0_60 (Nat.le_of_ble_eq_true rfl) <| x_mmin hC hR (by omega) dX0_liveUnder_95 wml_X0_66 (Nat.le_of_ble_eq_true rfl) <| s_putI hC dX0_liveUnder_98 wfl_X0_9 hl0 (by decide) (by decide) (xlo hl0 (by decide)) (by decide) (by decide) <| x_iload_n hC dX0_liveUnder_101 rfl (j := 1) rfl <| x_iconst (v := (3 : Int32)) hC dX0_liveUnder_102 (by decide) <| ?_
  refine x_irm hC dX0_liveUnder_103 (by decide) <| ?_
  refine x_if_ne (tgt := 122) hC dX0_liveUnder_104 (by decide) (fun c5 => ?_) (fun c5 => ?_)
  · replace h := (if_neg c5).symm.trans h
    refine x_sub [0, 2, 3, 4] rfl ?_
    exact B_X0_liveUnder_122 hC hR hE l0 hl0 l5 l6 l7 (yI (yI σ s0 1 (s1 - s2)) l0 1 (xmin (99 : Int32) (xmax (0 : Int32) ((yI σ s0 1 (s1 - s2)).1 l0 1)))) h
  · replace h := (if_pos c5).symm.trans h
    refine x_aload_n hC dX0_liveUnder_107 rfl (j := 0) rfl <| x_bipush (v := (9 : Int32)) hC dX0_liveUnder_108 (by decide) <| x_aload_n hC dX0_liveUnder_110 rfl (j := 0) rfl <| s_getI hC dX0_liveUnder_111 wfl_X0_18 hl0 (by decide) (by decide) (xlo hl0 (by decide)) (by decide) <| x_iconst (v := (1 : Int32)) hC dX0_liveUnder_114 (by decide) <| x_iadd hC dX0_liveUnder_115 <| ?_
    refine x_mmin hC hR (by omega) dX0_liveUnder_116 wml_X0_66 (Nat.le_of_ble_eq_true rfl) <| s_putI hC dX0_liveUnder_119 wfl_X0_18 hl0 (by decide) (by decide) (xlo hl0 (by decide)) (by decide) (by decide) <| ?_
    refine x_sub [0, 2, 3, 4] rfl ?_
    exact B_X0_liveUnder_122 hC hR hE l0 hl0 l5 l6 l7 (yI (yI (yI σ s0 1 (s1 - s2)) l0 1 (xmin (99 : Int32) (xmax (0 : Int32) ((yI σ s0 1 (s1 - s2)).1 l0 1)))) l0 2 (xmin (9 : Int32) (((yI (yI σ s0 1 (s1 - s2)) l0 1 (xmin (99 : Int32) (xmax (0 : Int32) ((yI σ s0 1 (s1 - s2)).1 l0 1)))).1 l0 2) + (1 : Int32)))) h
set_option maxRecDepth 100000 in
set_option maxHeartbeats 4000000 in
theorem B_X0_liveUnder_31 {G : xG} {l : Launch} {K : xK} {r : Bool} {τ : xS2} (hC : xCX G mM_X0_liveUnder K) (hR : xRd K 3) (hE : xE G K (some (.int (xb r))) (xM τ)) : ∀ (l0 : Nat) (hl0 : xSH l0 = (0, 4)) (l2 : Int32) (l4 : Int32) (l5 : Int32) (s0 : Bool) (σ : xS2), J_X0_liveUnder_31 l0 l2 l4 l5 s0 σ = some (r, τ) → xV G l mM_X0_liveUnder K 31 [(0, .ref (xad G l0)), (1, .ref (xad G 1)), (2, .int l2), (4, .int l4), (5, .int l5)] [.int (xb s0)] (xM σ) := by
  intro l0 hl0 l2 l4 l5 s0 σ h
  refine x_istore hC dX0_liveUnder_31 (by decide) rfl <| x_aload_n hC dX0_liveUnder_33 rfl (j := 2) rfl <| x_aload_n hC dX0_liveUnder_34 rfl (j := 1) rfl <| s_getI hC dX0_liveUnder_35 wfl_X0_15 hl0 (by decide) (by decide) (xlo hl0 (by decide)) (by decide) <| ?_
  obtain ⟨x3, h3, h⟩ := Option.bind_eq_some_iff.mp h
  refine x_callV hC hR dX0_liveUnder_38 mK_X3_isHollow wml_X0_57 (C_X3_isHollow (a1 := (σ.1 l0 0)) (σ := σ) h3) (by omega) rfl (by decide) rfl rfl (xlt (by decide)) rfl (Nat.le_of_ble_eq_true rfl) rfl rfl rfl <| ?_
  refine x_istore hC dX0_liveUnder_41 (by decide) rfl <| x_aload_n hC dX0_liveUnder_43 rfl (j := 2) rfl <| x_dup hC dX0_liveUnder_44 rfl <| s_getI hC dX0_liveUnder_45 wfl_X0_9 hl0 (by decide) (by decide) (xlo hl0 (by decide)) (by decide) <| x_iconst (v := (0 : Int32)) hC dX0_liveUnder_48 (by decide) <| x_iload hC dX0_liveUnder_49 (j := 5) rfl <| ?_
  refine x_aload_n hC dX0_liveUnder_51 rfl (j := 2) rfl <| s_getI hC dX0_liveUnder_52 wfl_X0_18 hl0 (by decide) (by decide) (xlo hl0 (by decide)) (by decide) <| x_iconst (v := (2 : Int32)) hC dX0_liveUnder_55 (by decide) <| x_idiv hC dX0_liveUnder_56 (by decide) <| x_isub hC dX0_liveUnder_57 <| x_mmax hC hR (by omega) dX0_liveUnder_58 wml_X0_60 (Nat.le_of_ble_eq_true rfl) <| ?_
  refine x_iadd hC dX0_liveUnder_61 <| s_putI hC dX0_liveUnder_62 wfl_X0_9 hl0 (by decide) (by decide) (xlo hl0 (by decide)) (by decide) (by decide) <| x_aload_n hC dX0_liveUnder_65 rfl (j := 2) rfl <| x_dup hC dX0_liveUnder_66 rfl <| s_getI hC dX0_liveUnder_67 wfl_X0_9 hl0 (by decide) (by decide) (xlo hl0 (by decide)) (by decide) <| x_iload hC dX0_liveUnder_70 (j := 0) rfl <| ?_
  refine x_if_eq (tgt := 79) hC dX0_liveUnder_72 (by decide) (fun c4 => ?_) (fun c4 => ?_)
  · replace h := (if_pos c4).symm.trans h
    refine x_iconst (v := (4 : Int32)) hC dX0_liveUnder_79 (by decide) <| ?_
    refine x_sub [2, 4, 6, 1, 0] rfl ?_
    exact B_X0_liveUnder_80 hC hR hE l0 hl0 l2 l5 s0 x3 l0 hl0 ((yI σ l0 1 ((σ.1 l0 1) + (xmax (0 : Int32) (l4 - ((σ.1 l0 2) / (2 : Int32)))))).1 l0 1) (4 : Int32) (yI σ l0 1 ((σ.1 l0 1) + (xmax (0 : Int32) (l4 - ((σ.1 l0 2) / (2 : Int32)))))) h
  · replace h := (if_neg c4).symm.trans h
    refine x_iconst (v := (2 : Int32)) hC dX0_liveUnder_75 (by decide) <| x_goto (tgt := 80) hC dX0_liveUnder_76 (by decide) <| ?_
    refine x_sub [2, 4, 6, 1, 0] rfl ?_
    exact B_X0_liveUnder_80 hC hR hE l0 hl0 l2 l5 s0 x3 l0 hl0 ((yI σ l0 1 ((σ.1 l0 1) + (xmax (0 : Int32) (l4 - ((σ.1 l0 2) / (2 : Int32)))))).1 l0 1) (2 : Int32) (yI σ l0 1 ((σ.1 l0 1) + (xmax (0 : Int32) (l4 - ((σ.1 l0 2) / (2 : Int32)))))) h
set_option maxRecDepth 100000 in
set_option maxHeartbeats 4000000 in
theorem B_X0_liveUnder_26 {G : xG} {l : Launch} {K : xK} {r : Bool} {τ : xS2} (hC : xCX G mM_X0_liveUnder K) (hR : xRd K 3) (hE : xE G K (some (.int (xb r))) (xM τ)) : ∀ (l0 : Nat) (hl0 : xSH l0 = (0, 4)) (l2 : Int32) (l4 : Int32) (l5 : Int32) (σ : xS2), J_X0_liveUnder_26 l0 l2 l4 l5 σ = some (r, τ) → xV G l mM_X0_liveUnder K 26 [(0, .ref (xad G l0)), (1, .ref (xad G 1)), (2, .int l2), (4, .int l4), (5, .int l5)] [] (xM σ) := by
  intro l0 hl0 l2 l4 l5 σ h
  refine x_iconst (v := (1 : Int32)) hC dX0_liveUnder_26 (by decide) <| x_goto (tgt := 31) hC dX0_liveUnder_27 (by decide) <| ?_
  refine x_sub [0, 1, 2, 3, 4] rfl ?_
  exact B_X0_liveUnder_31 hC hR hE l0 hl0 l2 l4 l5 true σ h
set_option maxRecDepth 100000 in
set_option maxHeartbeats 4000000 in
theorem C_X0_liveUnder {G : xG} {l : Launch} {a0 : Nat} {a2 : Int32} {a3 : Int32} {a4 : Int32} {a5 : Int32} {σ : xS2} {r : Bool} {τ : xS2} (ha0 : xSH a0 = (0, 4)) (h : J_X0_liveUnder a0 a2 a3 a4 a5 σ = some (r, τ)) : xC G l mM_X0_liveUnder 3 [.ref (xad G a0), .ref (xad G 1), .int a2, .int a3, .int a4, .int a5] (xM σ) (some (.int (xb r))) (xM τ) := by
  refine xC_of (by decide) rfl (Nat.le_refl _) (Nat.le_of_ble_eq_true rfl) (fun K hC hE hR _ => ?_)
  refine x_iload_n hC dX0_liveUnder_0 rfl (j := 3) rfl <| x_iconst (v := (5 : Int32)) hC dX0_liveUnder_1 (by decide) <| ?_
  refine x_icmp_ne (tgt := 13) hC dX0_liveUnder_2 (by decide) (fun c1 => ?_) (fun c1 => ?_)
  · replace h := (if_neg c1).symm.trans h
    refine x_iload_n hC dX0_liveUnder_13 rfl (j := 3) rfl <| ?_
    refine x_if_eq (tgt := 26) hC dX0_liveUnder_14 (by decide) (fun c2 => ?_) (fun c2 => ?_)
    · replace h := (if_pos c2).symm.trans h
      refine x_sub [0, 1, 2, 4, 5] rfl ?_
      exact B_X0_liveUnder_26 hC hR hE a0 ha0 a2 a4 a5 σ h
    · replace h := (if_neg c2).symm.trans h
      refine x_aload_n hC dX0_liveUnder_17 rfl (j := 0) rfl <| x_aload_n hC dX0_liveUnder_18 rfl (j := 1) rfl <| x_iload_n hC dX0_liveUnder_19 rfl (j := 3) rfl <| ?_
      obtain ⟨x8, h8, h⟩ := Option.bind_eq_some_iff.mp h
      refine x_callV hC hR dX0_liveUnder_20 mK_X0_move wml_X0_53 (C_X0_move (a0 := a0) (a2 := a3) (σ := σ) ha0 h8) (by omega) ha0 (by decide) rfl rfl (xlo ha0 (by decide)) rfl (Nat.le_of_ble_eq_true rfl) rfl rfl rfl <| ?_
      refine x_if_eq (tgt := 30) hC dX0_liveUnder_23 (by decide) (fun c9 => ?_) (fun c9 => ?_)
      · replace h := (if_pos c9).symm.trans h
        refine x_iconst (v := (0 : Int32)) hC dX0_liveUnder_30 (by decide) <| ?_
        refine x_sub [0, 1, 2, 4, 5] rfl ?_
        exact B_X0_liveUnder_31 hC hR hE a0 ha0 a2 a4 a5 false x8.2 h
      · replace h := (if_neg c9).symm.trans h
        refine x_sub [0, 1, 2, 4, 5] rfl ?_
        exact B_X0_liveUnder_26 hC hR hE a0 ha0 a2 a4 a5 x8.2 h
  · replace h := (if_pos c1).symm.trans h
    refine x_aload_n hC dX0_liveUnder_5 rfl (j := 0) rfl <| x_aload_n hC dX0_liveUnder_6 rfl (j := 1) rfl <| ?_
    obtain ⟨x10, h10, h⟩ := Option.bind_eq_some_iff.mp h
    refine x_callV hC hR dX0_liveUnder_7 mK_X0_lookAround wml_X0_49 (C_X0_lookAround (a0 := a0) (σ := σ) ha0 h10) (by omega) ha0 (by decide) rfl rfl (xlo ha0 (by decide)) rfl (Nat.le_of_ble_eq_true rfl) rfl rfl rfl <| ?_
    refine x_goto (tgt := 31) hC dX0_liveUnder_10 (by decide) <| ?_
    refine x_sub [0, 1, 2, 4, 5] rfl ?_
    exact B_X0_liveUnder_31 hC hR hE a0 ha0 a2 a4 a5 x10.1 x10.2 h
set_option maxRecDepth 100000 in
set_option maxHeartbeats 4000000 in
theorem C_X3_sun {G : xG} {l : Launch} {a1 : Int32} {σ : xS2} {r : Int32} (h : J_X3_sun a1 σ = some r) : xC G l mM_X3_sun 0 [.ref (xad G 1), .int a1] (xM σ) (some (.int r)) (xM σ) := by
  refine xC_of (by decide) rfl (Nat.le_refl _) (Nat.le_of_ble_eq_true rfl) (fun K hC hE hR _ => ?_)
  refine x_iload_n hC dX3_sun_0 rfl (j := 1) rfl <| ?_
  refine x_if_lt (tgt := 22) hC dX3_sun_1 (by decide) (fun c1 => ?_) (fun c1 => ?_)
  · replace h := (if_pos c1).symm.trans h
    refine x_iconst (v := (0 : Int32)) hC dX3_sun_22 (by decide) <| ?_
    have e1 := Option.some.inj h
    subst e1
    exact x_iret (rest := []) hC hE rfl dX3_sun_23
  · replace h := (if_neg c1).symm.trans h
    refine x_iload_n hC dX3_sun_4 rfl (j := 1) rfl <| x_bipush (v := (60 : Int32)) hC dX3_sun_5 (by decide) <| ?_
    refine x_icmp_ge (tgt := 22) hC dX3_sun_7 (by decide) (fun c2 => ?_) (fun c2 => ?_)
    · replace h := (if_pos c2).symm.trans h
      refine x_iconst (v := (0 : Int32)) hC dX3_sun_22 (by decide) <| ?_
      have e1 := Option.some.inj h
      subst e1
      exact x_iret (rest := []) hC hE rfl dX3_sun_23
    · replace h := (if_neg c2).symm.trans h
      refine x_aload_n hC dX3_sun_10 rfl (j := 0) rfl <| s_getR (q := 2) hC dX3_sun_11 wfl_X3_9 rfl (by decide) (by decide) (by decide) (by decide) (by decide) <| x_bipush (v := (72 : Int32)) hC dX3_sun_14 (by decide) <| x_iload_n hC dX3_sun_16 rfl (j := 1) rfl <| x_iadd hC dX3_sun_17 <| ?_
      obtain ⟨h3, h⟩ := xgd_some h
      refine s_iald hC dX3_sun_18 rfl (by decide) h3 <| ?_
      refine x_goto (tgt := 23) hC dX3_sun_19 (by decide) <| ?_
      have e1 := Option.some.inj h
      subst e1
      exact x_iret (rest := []) hC hE rfl dX3_sun_23
set_option maxRecDepth 100000 in
set_option maxHeartbeats 4000000 in
theorem C_X3_wind {G : xG} {l : Launch} {a1 : Int32} {σ : xS2} {r : Int32} (h : J_X3_wind a1 σ = some r) : xC G l mM_X3_wind 0 [.ref (xad G 1), .int a1] (xM σ) (some (.int r)) (xM σ) := by
  refine xC_of (by decide) rfl (Nat.le_refl _) (Nat.le_of_ble_eq_true rfl) (fun K hC hE hR _ => ?_)
  refine x_iload_n hC dX3_wind_0 rfl (j := 1) rfl <| ?_
  refine x_if_lt (tgt := 23) hC dX3_wind_1 (by decide) (fun c1 => ?_) (fun c1 => ?_)
  · replace h := (if_pos c1).symm.trans h
    refine x_iconst (v := (0 : Int32)) hC dX3_wind_23 (by decide) <| ?_
    have e1 := Option.some.inj h
    subst e1
    exact x_iret (rest := []) hC hE rfl dX3_wind_24
  · replace h := (if_neg c1).symm.trans h
    refine x_iload_n hC dX3_wind_4 rfl (j := 1) rfl <| x_bipush (v := (60 : Int32)) hC dX3_wind_5 (by decide) <| ?_
    refine x_icmp_ge (tgt := 23) hC dX3_wind_7 (by decide) (fun c2 => ?_) (fun c2 => ?_)
    · replace h := (if_pos c2).symm.trans h
      refine x_iconst (v := (0 : Int32)) hC dX3_wind_23 (by decide) <| ?_
      have e1 := Option.some.inj h
      subst e1
      exact x_iret (rest := []) hC hE rfl dX3_wind_24
    · replace h := (if_neg c2).symm.trans h
      refine x_aload_n hC dX3_wind_10 rfl (j := 0) rfl <| s_getR (q := 2) hC dX3_wind_11 wfl_X3_9 rfl (by decide) (by decide) (by decide) (by decide) (by decide) <| x_sipush (v := (132 : Int32)) hC dX3_wind_14 (by decide) <| x_iload_n hC dX3_wind_17 rfl (j := 1) rfl <| x_iadd hC dX3_wind_18 <| ?_
      obtain ⟨h3, h⟩ := xgd_some h
      refine s_iald hC dX3_wind_19 rfl (by decide) h3 <| ?_
      refine x_goto (tgt := 24) hC dX3_wind_20 (by decide) <| ?_
      have e1 := Option.some.inj h
      subst e1
      exact x_iret (rest := []) hC hE rfl dX3_wind_24
set_option maxRecDepth 100000 in
set_option maxHeartbeats 4000000 in
theorem C_X0_live {G : xG} {l : Launch} {a0 : Nat} {a2 : Int32} {a3 : Int32} {σ : xS2} {r : Bool} {τ : xS2} (ha0 : xSH a0 = (0, 4)) (h : J_X0_live a0 a2 a3 σ = some (r, τ)) : xC G l mM_X0_live 4 [.ref (xad G a0), .ref (xad G 1), .int a2, .int a3] (xM σ) (some (.int (xb r))) (xM τ) := by
  refine xC_of (by decide) rfl (Nat.le_refl _) (Nat.le_of_ble_eq_true rfl) (fun K hC hE hR _ => ?_)
  refine x_aload_n hC dX0_live_0 rfl (j := 0) rfl <| x_aload_n hC dX0_live_1 rfl (j := 1) rfl <| x_iload_n hC dX0_live_2 rfl (j := 2) rfl <| x_iload_n hC dX0_live_3 rfl (j := 3) rfl <| x_aload_n hC dX0_live_4 rfl (j := 1) rfl <| x_iload_n hC dX0_live_5 rfl (j := 2) rfl <| ?_
  obtain ⟨x1, h1, h⟩ := Option.bind_eq_some_iff.mp h
  refine x_callV hC hR dX0_live_6 mK_X3_sun wml_X0_38 (C_X3_sun (a1 := a2) (σ := σ) h1) (by omega) rfl (by decide) rfl rfl (xlt (by decide)) rfl (Nat.le_of_ble_eq_true rfl) rfl rfl rfl <| ?_
  refine x_aload_n hC dX0_live_9 rfl (j := 1) rfl <| x_iload_n hC dX0_live_10 rfl (j := 2) rfl <| ?_
  obtain ⟨x2, h2, h⟩ := Option.bind_eq_some_iff.mp h
  refine x_callV hC hR dX0_live_11 mK_X3_wind wml_X0_42 (C_X3_wind (a1 := a2) (σ := σ) h2) (by omega) rfl (by decide) rfl rfl (xlt (by decide)) rfl (Nat.le_of_ble_eq_true rfl) rfl rfl rfl <| ?_
  obtain ⟨x3, h3, h⟩ := Option.bind_eq_some_iff.mp h
  refine x_callV hC hR dX0_live_14 mK_X0_liveUnder wml_X0_45 (C_X0_liveUnder (a0 := a0) (a2 := a2) (a3 := a3) (a4 := x1) (a5 := x2) (σ := σ) ha0 h3) (by omega) ha0 (by decide) rfl rfl (xlo ha0 (by decide)) rfl (Nat.le_of_ble_eq_true rfl) rfl rfl rfl <| ?_
  obtain ⟨e1, e2⟩ := xso2 h
  subst e1
  subst e2
  exact x_zret (rest := []) hC hE rfl (rfl) dX0_live_17
set_option maxRecDepth 100000 in
set_option maxHeartbeats 4000000 in
theorem C_X3_tell {G : xG} {l : Launch} {a1 : Int32} {a2 : Int32} {σ : xS2} {τ : xS2} (h : J_X3_tell a1 a2 σ = some τ) : xC G l mM_X3_tell 0 [.ref (xad G 1), .int a1, .int a2] (xM σ) none (xM τ) := by
  refine xC_of (by decide) rfl (Nat.le_refl _) (Nat.le_of_ble_eq_true rfl) (fun K hC hE hR _ => ?_)
  refine x_iload_n hC dX3_tell_0 rfl (j := 1) rfl <| ?_
  refine x_if_lt (tgt := 20) hC dX3_tell_1 (by decide) (fun c1 => ?_) (fun c1 => ?_)
  · replace h := (if_pos c1).symm.trans h
    have e1 := Option.some.inj h
    subst e1
    exact x_vret (rest := []) hC hE rfl dX3_tell_20
  · replace h := (if_neg c1).symm.trans h
    refine x_iload_n hC dX3_tell_4 rfl (j := 1) rfl <| x_aload_n hC dX3_tell_5 rfl (j := 0) rfl <| s_getR (q := 2) hC dX3_tell_6 wfl_X3_9 rfl (by decide) (by decide) (by decide) (by decide) (by decide) <| x_alen (t := 0) (v := (194 : Int32)) hC dX3_tell_9 rfl (by decide) (by decide) (xlt (by decide)) rfl <| ?_
    refine x_icmp_ge (tgt := 20) hC dX3_tell_10 (by decide) (fun c2 => ?_) (fun c2 => ?_)
    · replace h := (if_pos c2).symm.trans h
      have e1 := Option.some.inj h
      subst e1
      exact x_vret (rest := []) hC hE rfl dX3_tell_20
    · replace h := (if_neg c2).symm.trans h
      refine x_aload_n hC dX3_tell_13 rfl (j := 0) rfl <| s_getR (q := 2) hC dX3_tell_14 wfl_X3_9 rfl (by decide) (by decide) (by decide) (by decide) (by decide) <| x_iload_n hC dX3_tell_17 rfl (j := 1) rfl <| x_iload_n hC dX3_tell_18 rfl (j := 2) rfl <| ?_
      obtain ⟨h3, h⟩ := xgd_some h
      refine s_iast hC dX3_tell_19 rfl (by decide) h3 <| ?_
      have e1 := Option.some.inj h
      subst e1
      exact x_vret (rest := []) hC hE rfl dX3_tell_20
set_option maxRecDepth 100000 in
set_option maxHeartbeats 4000000 in
theorem C_X1_bringBack {G : xG} {l : Launch} {σ : xS2} {r : Bool} {τ : xS2} (h : J_X1_bringBack σ = some (r, τ)) : xC G l mM_X1_bringBack 1 [.ref (xad G 23), .ref (xad G 1)] (xM σ) (some (.int (xb r))) (xM τ) := by
  refine xC_of (by decide) rfl (Nat.le_refl _) (Nat.le_of_ble_eq_true rfl) (fun K hC hE hR _ => ?_)
  refine x_aload_n hC dX1_bringBack_0 rfl (j := 0) rfl <| s_getI hC dX1_bringBack_1 wfl_X1_19 rfl (by decide) (by decide) (by decide) (by decide) <| x_aload_n hC dX1_bringBack_4 rfl (j := 0) rfl <| s_getI hC dX1_bringBack_5 wfl_X1_26 rfl (by decide) (by decide) (by decide) (by decide) <| ?_
  refine x_icmp_lt (tgt := 13) hC dX1_bringBack_8 (by decide) (fun c1 => ?_) (fun c1 => ?_)
  · replace h := (if_pos c1).symm.trans h
    refine x_aload_n hC dX1_bringBack_13 rfl (j := 1) rfl <| x_aload_n hC dX1_bringBack_14 rfl (j := 0) rfl <| s_getR (q := 24) hC dX1_bringBack_15 wfl_X1_9 rfl (by decide) (by decide) (by decide) (by decide) (by decide) <| x_aload_n hC dX1_bringBack_18 rfl (j := 0) rfl <| s_getI hC dX1_bringBack_19 wfl_X1_19 rfl (by decide) (by decide) (by decide) (by decide) <| ?_
    obtain ⟨h2, h⟩ := xgd_some h
    refine s_iald hC dX1_bringBack_22 rfl (by decide) h2 <| ?_
    refine x_aload_n hC dX1_bringBack_23 rfl (j := 0) rfl <| s_getR (q := 26) hC dX1_bringBack_24 wfl_X1_16 rfl (by decide) (by decide) (by decide) (by decide) (by decide) <| x_aload_n hC dX1_bringBack_27 rfl (j := 0) rfl <| s_getI hC dX1_bringBack_28 wfl_X1_19 rfl (by decide) (by decide) (by decide) (by decide) <| ?_
    obtain ⟨h3, h⟩ := xgd_some h
    refine s_iald hC dX1_bringBack_31 rfl (by decide) h3 <| ?_
    obtain ⟨x4, h4, h⟩ := Option.bind_eq_some_iff.mp h
    refine x_callV hC hR dX1_bringBack_32 mK_X3_tell wml_X1_35 (C_X3_tell (a1 := (σ.1 24 (σ.1 23 3).toNatClampNeg)) (a2 := (σ.1 26 (σ.1 23 3).toNatClampNeg)) (σ := σ) h4) (by omega) rfl (by decide) rfl rfl (xlt (by decide)) rfl (Nat.le_of_ble_eq_true rfl) rfl rfl rfl <| ?_
    refine x_aload_n hC dX1_bringBack_35 rfl (j := 0) rfl <| x_dup hC dX1_bringBack_36 rfl <| s_getI hC dX1_bringBack_37 wfl_X1_19 rfl (by decide) (by decide) (by decide) (by decide) <| x_iconst (v := (1 : Int32)) hC dX1_bringBack_40 (by decide) <| x_iadd hC dX1_bringBack_41 <| s_putI hC dX1_bringBack_42 wfl_X1_19 rfl (by decide) (by decide) (by decide) (by decide) (by decide) <| ?_
    refine x_iconst (v := (1 : Int32)) hC dX1_bringBack_45 (by decide) <| ?_
    obtain ⟨e1, e2⟩ := xso2 h
    subst e1
    subst e2
    exact x_zret (rest := []) hC hE rfl (by decide) dX1_bringBack_46
  · replace h := (if_neg c1).symm.trans h
    refine x_iconst (v := (0 : Int32)) hC dX1_bringBack_11 (by decide) <| ?_
    obtain ⟨e1, e2⟩ := xso2 h
    subst e1
    subst e2
    exact x_zret (rest := []) hC hE rfl (by decide) dX1_bringBack_12
set_option maxRecDepth 100000 in
set_option maxHeartbeats 4000000 in
theorem C_X1_dropOldest {G : xG} {l : Launch} {σ : xS2} {τ : xS2} (h : J_X1_dropOldest σ = some τ) : xC G l mM_X1_dropOldest 1 [.ref (xad G 23)] (xM σ) none (xM τ) := by
  refine xC_of (by decide) rfl (Nat.le_refl _) (Nat.le_of_ble_eq_true rfl) (fun K hC hE hR _ => ?_)
  refine x_aload_n hC dX1_dropOldest_0 rfl (j := 0) rfl <| x_bipush (v := (39 : Int32)) hC dX1_dropOldest_1 (by decide) <| s_putI hC dX1_dropOldest_3 wfl_X1_19 rfl (by decide) (by decide) (by decide) (by decide) (by decide) <| x_aload_n hC dX1_dropOldest_6 rfl (j := 0) rfl <| s_getR (q := 24) hC dX1_dropOldest_7 wfl_X1_9 rfl (by decide) (by decide) (by decide) (by decide) (by decide) <| x_iconst (v := (1 : Int32)) hC dX1_dropOldest_10 (by decide) <| ?_
  refine x_aload_n hC dX1_dropOldest_11 rfl (j := 0) rfl <| s_getR (q := 24) hC dX1_dropOldest_12 wfl_X1_9 rfl (by decide) (by decide) (by decide) (by decide) (by decide) <| x_iconst (v := (0 : Int32)) hC dX1_dropOldest_15 (by decide) <| x_aload_n hC dX1_dropOldest_16 rfl (j := 0) rfl <| s_getI hC dX1_dropOldest_17 wfl_X1_19 rfl (by decide) (by decide) (by decide) (by decide) <| ?_
  obtain ⟨h1, h⟩ := xgd_some h
  obtain ⟨h1a, h1b, h1c, h1d, h1e⟩ := xcg_some h1
  refine s_copyi hC hR (by omega) dX1_dropOldest_20 wml_X1_29 rfl rfl (by decide) (by decide) h1a h1b h1c h1d h1e (Nat.le_of_ble_eq_true rfl) <| ?_
  refine x_aload_n hC dX1_dropOldest_23 rfl (j := 0) rfl <| s_getR (q := 25) hC dX1_dropOldest_24 wfl_X1_13 rfl (by decide) (by decide) (by decide) (by decide) (by decide) <| x_iconst (v := (1 : Int32)) hC dX1_dropOldest_27 (by decide) <| x_aload_n hC dX1_dropOldest_28 rfl (j := 0) rfl <| s_getR (q := 25) hC dX1_dropOldest_29 wfl_X1_13 rfl (by decide) (by decide) (by decide) (by decide) (by decide) <| x_iconst (v := (0 : Int32)) hC dX1_dropOldest_32 (by decide) <| ?_
  refine x_aload_n hC dX1_dropOldest_33 rfl (j := 0) rfl <| s_getI hC dX1_dropOldest_34 wfl_X1_19 rfl (by decide) (by decide) (by decide) (by decide) <| ?_
  obtain ⟨h2, h⟩ := xgd_some h
  obtain ⟨h2a, h2b, h2c, h2d, h2e⟩ := xcg_some h2
  refine s_copyi hC hR (by omega) dX1_dropOldest_37 wml_X1_29 rfl rfl (by decide) (by decide) h2a h2b h2c h2d h2e (Nat.le_of_ble_eq_true rfl) <| ?_
  refine x_aload_n hC dX1_dropOldest_40 rfl (j := 0) rfl <| s_getR (q := 26) hC dX1_dropOldest_41 wfl_X1_16 rfl (by decide) (by decide) (by decide) (by decide) (by decide) <| x_iconst (v := (1 : Int32)) hC dX1_dropOldest_44 (by decide) <| x_aload_n hC dX1_dropOldest_45 rfl (j := 0) rfl <| s_getR (q := 26) hC dX1_dropOldest_46 wfl_X1_16 rfl (by decide) (by decide) (by decide) (by decide) (by decide) <| x_iconst (v := (0 : Int32)) hC dX1_dropOldest_49 (by decide) <| ?_
  refine x_aload_n hC dX1_dropOldest_50 rfl (j := 0) rfl <| s_getI hC dX1_dropOldest_51 wfl_X1_19 rfl (by decide) (by decide) (by decide) (by decide) <| ?_
  obtain ⟨h3, h⟩ := xgd_some h
  obtain ⟨h3a, h3b, h3c, h3d, h3e⟩ := xcg_some h3
  refine s_copyi hC hR (by omega) dX1_dropOldest_54 wml_X1_29 rfl rfl (by decide) (by decide) h3a h3b h3c h3d h3e (Nat.le_of_ble_eq_true rfl) <| ?_
  have e1 := Option.some.inj h
  subst e1
  exact x_vret (rest := []) hC hE rfl dX1_dropOldest_57
set_option maxRecDepth 100000 in
set_option maxHeartbeats 4000000 in
theorem B_X1_note_13 {G : xG} {l : Launch} {K : xK} {τ : xS2} (hC : xCX G mM_X1_note K) (hR : xRd K 2) (hE : xE G K none (xM τ)) : ∀ (l1 : Int32) (l2 : Int32) (l3 : Int32) (σ : xS2), J_X1_note_13 l1 l2 l3 σ = some τ → xV G l mM_X1_note K 13 [(0, .ref (xad G 23)), (1, .int l1), (2, .int l2), (3, .int l3)] [] (xM σ) := by
  intro l1 l2 l3 σ h
  refine x_aload_n hC dX1_note_13 rfl (j := 0) rfl <| s_getR (q := 24) hC dX1_note_14 wfl_X1_9 rfl (by decide) (by decide) (by decide) (by decide) (by decide) <| x_aload_n hC dX1_note_17 rfl (j := 0) rfl <| s_getI hC dX1_note_18 wfl_X1_19 rfl (by decide) (by decide) (by decide) (by decide) <| x_iload_n hC dX1_note_21 rfl (j := 1) rfl <| ?_
  obtain ⟨h2, h⟩ := xgd_some h
  refine s_iast hC dX1_note_22 rfl (by decide) h2 <| ?_
  refine x_aload_n hC dX1_note_23 rfl (j := 0) rfl <| s_getR (q := 25) hC dX1_note_24 wfl_X1_13 rfl (by decide) (by decide) (by decide) (by decide) (by decide) <| x_aload_n hC dX1_note_27 rfl (j := 0) rfl <| s_getI hC dX1_note_28 wfl_X1_19 rfl (by decide) (by decide) (by decide) (by decide) <| x_iload_n hC dX1_note_31 rfl (j := 2) rfl <| ?_
  obtain ⟨h3, h⟩ := xgd_some h
  refine s_iast hC dX1_note_32 rfl (by decide) h3 <| ?_
  refine x_aload_n hC dX1_note_33 rfl (j := 0) rfl <| s_getR (q := 26) hC dX1_note_34 wfl_X1_16 rfl (by decide) (by decide) (by decide) (by decide) (by decide) <| x_aload_n hC dX1_note_37 rfl (j := 0) rfl <| s_getI hC dX1_note_38 wfl_X1_19 rfl (by decide) (by decide) (by decide) (by decide) <| x_iload_n hC dX1_note_41 rfl (j := 3) rfl <| ?_
  obtain ⟨h4, h⟩ := xgd_some h
  refine s_iast hC dX1_note_42 rfl (by decide) h4 <| ?_
  refine x_aload_n hC dX1_note_43 rfl (j := 0) rfl <| x_dup hC dX1_note_44 rfl <| s_getI hC dX1_note_45 wfl_X1_19 rfl (by decide) (by decide) (by decide) (by decide) <| x_iconst (v := (1 : Int32)) hC dX1_note_48 (by decide) <| x_iadd hC dX1_note_49 <| s_putI hC dX1_note_50 wfl_X1_19 rfl (by decide) (by decide) (by decide) (by decide) (by decide) <| ?_
  refine x_aload_n hC dX1_note_53 rfl (j := 0) rfl <| x_aload_n hC dX1_note_54 rfl (j := 0) rfl <| s_getI hC dX1_note_55 wfl_X1_19 rfl (by decide) (by decide) (by decide) (by decide) <| s_putI hC dX1_note_58 wfl_X1_26 rfl (by decide) (by decide) (by decide) (by decide) (by decide) <| ?_
  have e1 := Option.some.inj h
  subst e1
  exact x_vret (rest := []) hC hE rfl dX1_note_61
set_option maxRecDepth 100000 in
set_option maxHeartbeats 4000000 in
theorem C_X1_note {G : xG} {l : Launch} {a1 : Int32} {a2 : Int32} {a3 : Int32} {σ : xS2} {τ : xS2} (h : J_X1_note a1 a2 a3 σ = some τ) : xC G l mM_X1_note 2 [.ref (xad G 23), .int a1, .int a2, .int a3] (xM σ) none (xM τ) := by
  refine xC_of (by decide) rfl (Nat.le_refl _) (Nat.le_of_ble_eq_true rfl) (fun K hC hE hR _ => ?_)
  refine x_aload_n hC dX1_note_0 rfl (j := 0) rfl <| s_getI hC dX1_note_1 wfl_X1_19 rfl (by decide) (by decide) (by decide) (by decide) <| x_bipush (v := (40 : Int32)) hC dX1_note_4 (by decide) <| ?_
  refine x_icmp_lt (tgt := 13) hC dX1_note_6 (by decide) (fun c1 => ?_) (fun c1 => ?_)
  · replace h := (if_pos c1).symm.trans h
    refine x_sub [0, 1, 2, 3] rfl ?_
    exact B_X1_note_13 hC hR hE a1 a2 a3 σ h
  · replace h := (if_neg c1).symm.trans h
    refine x_aload_n hC dX1_note_9 rfl (j := 0) rfl <| ?_
    obtain ⟨x5, h5, h⟩ := Option.bind_eq_some_iff.mp h
    refine x_callV hC hR dX1_note_10 mK_X1_dropOldest wml_X1_23 (C_X1_dropOldest (σ := σ) h5) (by omega) rfl (by decide) rfl rfl (xlt (by decide)) rfl (Nat.le_of_ble_eq_true rfl) rfl rfl rfl <| ?_
    refine x_sub [0, 1, 2, 3] rfl ?_
    exact B_X1_note_13 hC hR hE a1 a2 a3 x5 h
set_option maxRecDepth 100000 in
set_option maxHeartbeats 4000000 in
theorem C_X1_takeBack {G : xG} {l : Launch} {σ : xS2} {r : Bool} {τ : xS2} (h : J_X1_takeBack σ = some (r, τ)) : xC G l mM_X1_takeBack 1 [.ref (xad G 23), .ref (xad G 1)] (xM σ) (some (.int (xb r))) (xM τ) := by
  refine xC_of (by decide) rfl (Nat.le_refl _) (Nat.le_of_ble_eq_true rfl) (fun K hC hE hR _ => ?_)
  refine x_aload_n hC dX1_takeBack_0 rfl (j := 0) rfl <| s_getI hC dX1_takeBack_1 wfl_X1_19 rfl (by decide) (by decide) (by decide) (by decide) <| ?_
  refine x_if_gt (tgt := 9) hC dX1_takeBack_4 (by decide) (fun c1 => ?_) (fun c1 => ?_)
  · replace h := (if_pos c1).symm.trans h
    refine x_aload_n hC dX1_takeBack_9 rfl (j := 0) rfl <| x_dup hC dX1_takeBack_10 rfl <| s_getI hC dX1_takeBack_11 wfl_X1_19 rfl (by decide) (by decide) (by decide) (by decide) <| x_iconst (v := (1 : Int32)) hC dX1_takeBack_14 (by decide) <| x_isub hC dX1_takeBack_15 <| s_putI hC dX1_takeBack_16 wfl_X1_19 rfl (by decide) (by decide) (by decide) (by decide) (by decide) <| ?_
    refine x_aload_n hC dX1_takeBack_19 rfl (j := 1) rfl <| x_aload_n hC dX1_takeBack_20 rfl (j := 0) rfl <| s_getR (q := 24) hC dX1_takeBack_21 wfl_X1_9 rfl (by decide) (by decide) (by decide) (by decide) (by decide) <| x_aload_n hC dX1_takeBack_24 rfl (j := 0) rfl <| s_getI hC dX1_takeBack_25 wfl_X1_19 rfl (by decide) (by decide) (by decide) (by decide) <| ?_
    obtain ⟨h2, h⟩ := xgd_some h
    refine s_iald hC dX1_takeBack_28 rfl (by decide) h2 <| ?_
    refine x_aload_n hC dX1_takeBack_29 rfl (j := 0) rfl <| s_getR (q := 25) hC dX1_takeBack_30 wfl_X1_13 rfl (by decide) (by decide) (by decide) (by decide) (by decide) <| x_aload_n hC dX1_takeBack_33 rfl (j := 0) rfl <| s_getI hC dX1_takeBack_34 wfl_X1_19 rfl (by decide) (by decide) (by decide) (by decide) <| ?_
    obtain ⟨h3, h⟩ := xgd_some h
    refine s_iald hC dX1_takeBack_37 rfl (by decide) h3 <| ?_
    obtain ⟨x4, h4, h⟩ := Option.bind_eq_some_iff.mp h
    refine x_callV hC hR dX1_takeBack_38 mK_X3_tell wml_X1_35 (C_X3_tell (a1 := (σ.1 24 ((σ.1 23 3) - (1 : Int32)).toNatClampNeg)) (a2 := (σ.1 25 ((σ.1 23 3) - (1 : Int32)).toNatClampNeg)) (σ := (yI σ 23 3 ((σ.1 23 3) - (1 : Int32)))) h4) (by omega) rfl (by decide) rfl rfl (xlt (by decide)) rfl (Nat.le_of_ble_eq_true rfl) rfl rfl rfl <| ?_
    refine x_iconst (v := (1 : Int32)) hC dX1_takeBack_41 (by decide) <| ?_
    obtain ⟨e1, e2⟩ := xso2 h
    subst e1
    subst e2
    exact x_zret (rest := []) hC hE rfl (by decide) dX1_takeBack_42
  · replace h := (if_neg c1).symm.trans h
    refine x_iconst (v := (0 : Int32)) hC dX1_takeBack_7 (by decide) <| ?_
    obtain ⟨e1, e2⟩ := xso2 h
    subst e1
    subst e2
    exact x_zret (rest := []) hC hE rfl (by decide) dX1_takeBack_8
set_option maxRecDepth 100000 in
set_option maxHeartbeats 4000000 in
theorem C_X2_sign {G : xG} {l : Launch} {σ : xS2} {r : Int32} (h : J_X2_sign σ = some r) : xC G l mM_X2_sign 0 [.ref (xad G 8)] (xM σ) (some (.int r)) (xM σ) := by
  refine xC_of (by decide) rfl (Nat.le_refl _) (Nat.le_of_ble_eq_true rfl) (fun K hC hE hR _ => ?_)
  refine x_aload_n hC dX2_sign_0 rfl (j := 0) rfl <| s_getI hC dX2_sign_1 wfl_X2_34 rfl (by decide) (by decide) (by decide) (by decide) <| x_iconst (v := (-1 : Int32)) hC dX2_sign_4 (by decide) <| ?_
  refine x_icmp_ne (tgt := 31) hC dX2_sign_5 (by decide) (fun c1 => ?_) (fun c1 => ?_)
  · replace h := (if_neg c1).symm.trans h
    refine x_iconst (v := (-1 : Int32)) hC dX2_sign_31 (by decide) <| ?_
    have e1 := Option.some.inj h
    subst e1
    exact x_iret (rest := []) hC hE rfl dX2_sign_32
  · replace h := (if_pos c1).symm.trans h
    refine x_aload_n hC dX2_sign_8 rfl (j := 0) rfl <| s_getI hC dX2_sign_9 wfl_X2_31 rfl (by decide) (by decide) (by decide) (by decide) <| x_aload_n hC dX2_sign_12 rfl (j := 0) rfl <| s_getI hC dX2_sign_13 wfl_X2_24 rfl (by decide) (by decide) (by decide) (by decide) <| ?_
    refine x_icmp_ge (tgt := 31) hC dX2_sign_16 (by decide) (fun c2 => ?_) (fun c2 => ?_)
    · replace h := (if_pos c2).symm.trans h
      refine x_iconst (v := (-1 : Int32)) hC dX2_sign_31 (by decide) <| ?_
      have e1 := Option.some.inj h
      subst e1
      exact x_iret (rest := []) hC hE rfl dX2_sign_32
    · replace h := (if_neg c2).symm.trans h
      refine x_aload_n hC dX2_sign_19 rfl (j := 0) rfl <| s_getR (q := 9) hC dX2_sign_20 wfl_X2_11 rfl (by decide) (by decide) (by decide) (by decide) (by decide) <| x_aload_n hC dX2_sign_23 rfl (j := 0) rfl <| s_getI hC dX2_sign_24 wfl_X2_31 rfl (by decide) (by decide) (by decide) (by decide) <| ?_
      obtain ⟨h3, h⟩ := xgd_some h
      refine s_iald hC dX2_sign_27 rfl (by decide) h3 <| ?_
      refine x_goto (tgt := 32) hC dX2_sign_28 (by decide) <| ?_
      have e1 := Option.some.inj h
      subst e1
      exact x_iret (rest := []) hC hE rfl dX2_sign_32
set_option maxRecDepth 100000 in
set_option maxHeartbeats 4000000 in
theorem C_X2_pass {G : xG} {l : Launch} {a1 : Int32} {σ : xS2} {r : Bool} {τ : xS2} (h : J_X2_pass a1 σ = some (r, τ)) : xC G l mM_X2_pass 1 [.ref (xad G 8), .int a1] (xM σ) (some (.int (xb r))) (xM τ) := by
  refine xC_of (by decide) rfl (Nat.le_refl _) (Nat.le_of_ble_eq_true rfl) (fun K hC hE hR _ => ?_)
  refine x_aload_n hC dX2_pass_0 rfl (j := 0) rfl <| ?_
  obtain ⟨x1, h1, h⟩ := Option.bind_eq_some_iff.mp h
  refine x_callV hC hR dX2_pass_1 mK_X2_sign wml_X2_49 (C_X2_sign (σ := σ) h1) (by omega) rfl (by decide) rfl rfl (xlt (by decide)) rfl (Nat.le_of_ble_eq_true rfl) rfl rfl rfl <| ?_
  refine x_iload_n hC dX2_pass_4 rfl (j := 1) rfl <| ?_
  refine x_icmp_eq (tgt := 10) hC dX2_pass_5 (by decide) (fun c2 => ?_) (fun c2 => ?_)
  · replace h := (if_pos c2).symm.trans h
    refine x_aload_n hC dX2_pass_10 rfl (j := 0) rfl <| x_dup hC dX2_pass_11 rfl <| s_getI hC dX2_pass_12 wfl_X2_31 rfl (by decide) (by decide) (by decide) (by decide) <| x_iconst (v := (1 : Int32)) hC dX2_pass_15 (by decide) <| x_iadd hC dX2_pass_16 <| s_putI hC dX2_pass_17 wfl_X2_31 rfl (by decide) (by decide) (by decide) (by decide) (by decide) <| ?_
    refine x_iconst (v := (1 : Int32)) hC dX2_pass_20 (by decide) <| ?_
    obtain ⟨e1, e2⟩ := xso2 h
    subst e1
    subst e2
    exact x_zret (rest := []) hC hE rfl (by decide) dX2_pass_21
  · replace h := (if_neg c2).symm.trans h
    refine x_iconst (v := (0 : Int32)) hC dX2_pass_8 (by decide) <| ?_
    obtain ⟨e1, e2⟩ := xso2 h
    subst e1
    subst e2
    exact x_zret (rest := []) hC hE rfl (by decide) dX2_pass_9
set_option maxRecDepth 100000 in
set_option maxHeartbeats 4000000 in
theorem C_X2_isDigit {G : xG} {l : Launch} {a0 : Int32} {σ : xS2} : xC G l mM_X2_isDigit 0 [.int a0] (xM σ) (some (.int (xb (J_X2_isDigit a0)))) (xM σ) := by
  refine xC_of (by decide) rfl (Nat.le_refl _) (Nat.le_of_ble_eq_true rfl) (fun K hC hE hR _ => ?_)
  obtain ⟨r, h⟩ : ∃ r, J_X2_isDigit a0 = r := ⟨_, rfl⟩
  rw [h] at hE
  refine x_iload_n hC dX2_isDigit_0 rfl (j := 0) rfl <| x_bipush (v := (48 : Int32)) hC dX2_isDigit_1 (by decide) <| ?_
  refine x_icmp_lt (tgt := 16) hC dX2_isDigit_3 (by decide) (fun c1 => ?_) (fun c1 => ?_)
  · replace h := (if_pos c1).symm.trans h
    refine x_iconst (v := (0 : Int32)) hC dX2_isDigit_16 (by decide) <| ?_
    subst h
    exact x_zret (rest := []) hC hE rfl (by decide) dX2_isDigit_17
  · replace h := (if_neg c1).symm.trans h
    refine x_iload_n hC dX2_isDigit_6 rfl (j := 0) rfl <| x_bipush (v := (57 : Int32)) hC dX2_isDigit_7 (by decide) <| ?_
    refine x_icmp_gt (tgt := 16) hC dX2_isDigit_9 (by decide) (fun c2 => ?_) (fun c2 => ?_)
    · replace h := (if_pos c2).symm.trans h
      refine x_iconst (v := (0 : Int32)) hC dX2_isDigit_16 (by decide) <| ?_
      subst h
      exact x_zret (rest := []) hC hE rfl (by decide) dX2_isDigit_17
    · replace h := (if_neg c2).symm.trans h
      refine x_iconst (v := (1 : Int32)) hC dX2_isDigit_12 (by decide) <| x_goto (tgt := 17) hC dX2_isDigit_13 (by decide) <| ?_
      subst h
      exact x_zret (rest := []) hC hE rfl (by decide) dX2_isDigit_17
set_option maxRecDepth 100000 in
set_option maxHeartbeats 4000000 in
theorem C_X2_isName {G : xG} {l : Launch} {a0 : Int32} {σ : xS2} : xC G l mM_X2_isName 0 [.int a0] (xM σ) (some (.int (xb (J_X2_isName a0)))) (xM σ) := by
  refine xC_of (by decide) rfl (Nat.le_refl _) (Nat.le_of_ble_eq_true rfl) (fun K hC hE hR _ => ?_)
  obtain ⟨r, h⟩ : ∃ r, J_X2_isName a0 = r := ⟨_, rfl⟩
  rw [h] at hE
  refine x_iload_n hC dX2_isName_0 rfl (j := 0) rfl <| ?_
  by_cases c1 : a0 = (99 : Int32)
  · replace h := (if_pos c1).symm.trans h
    refine x_tsw (tgt := 100) hC dX2_isName_1 (by decide) (by rw [c1]; decide) ?_
    refine x_iconst (v := (1 : Int32)) hC dX2_isName_100 (by decide) <| ?_
    subst h
    exact x_zret (rest := []) hC hE rfl (by decide) dX2_isName_101
  · replace h := (if_neg c1).symm.trans h
    by_cases c2 : a0 = (100 : Int32)
    · replace h := (if_pos c2).symm.trans h
      refine x_tsw (tgt := 100) hC dX2_isName_1 (by decide) (by rw [c2]; decide) ?_
      refine x_iconst (v := (1 : Int32)) hC dX2_isName_100 (by decide) <| ?_
      subst h
      exact x_zret (rest := []) hC hE rfl (by decide) dX2_isName_101
    · replace h := (if_neg c2).symm.trans h
      by_cases c3 : a0 = (104 : Int32)
      · replace h := (if_pos c3).symm.trans h
        refine x_tsw (tgt := 100) hC dX2_isName_1 (by decide) (by rw [c3]; decide) ?_
        refine x_iconst (v := (1 : Int32)) hC dX2_isName_100 (by decide) <| ?_
        subst h
        exact x_zret (rest := []) hC hE rfl (by decide) dX2_isName_101
      · replace h := (if_neg c3).symm.trans h
        by_cases c4 : a0 = (111 : Int32)
        · replace h := (if_pos c4).symm.trans h
          refine x_tsw (tgt := 100) hC dX2_isName_1 (by decide) (by rw [c4]; decide) ?_
          refine x_iconst (v := (1 : Int32)) hC dX2_isName_100 (by decide) <| ?_
          subst h
          exact x_zret (rest := []) hC hE rfl (by decide) dX2_isName_101
        · replace h := (if_neg c4).symm.trans h
          by_cases c5 : a0 = (115 : Int32)
          · replace h := (if_pos c5).symm.trans h
            refine x_tsw (tgt := 100) hC dX2_isName_1 (by decide) (by rw [c5]; decide) ?_
            refine x_iconst (v := (1 : Int32)) hC dX2_isName_100 (by decide) <| ?_
            subst h
            exact x_zret (rest := []) hC hE rfl (by decide) dX2_isName_101
          · replace h := (if_neg c5).symm.trans h
            by_cases c6 : a0 = (117 : Int32)
            · replace h := (if_pos c6).symm.trans h
              refine x_tsw (tgt := 100) hC dX2_isName_1 (by decide) (by rw [c6]; decide) ?_
              refine x_iconst (v := (1 : Int32)) hC dX2_isName_100 (by decide) <| ?_
              subst h
              exact x_zret (rest := []) hC hE rfl (by decide) dX2_isName_101
            · replace h := (if_neg c6).symm.trans h
              by_cases c7 : a0 = (119 : Int32)
              · replace h := (if_pos c7).symm.trans h
                refine x_tsw (tgt := 100) hC dX2_isName_1 (by decide) (by rw [c7]; decide) ?_
                refine x_iconst (v := (1 : Int32)) hC dX2_isName_100 (by decide) <| ?_
                subst h
                exact x_zret (rest := []) hC hE rfl (by decide) dX2_isName_101
              · replace h := (if_neg c7).symm.trans h
                refine x_tsw (tgt := 102) hC dX2_isName_1 (by decide) ((xTs_else [99, 100, 104, 111, 115, 117, 119] (by decide) (by decide +kernel) (List.forall_mem_cons.mpr ⟨lv_neT c1 (by decide), (List.forall_mem_cons.mpr ⟨lv_neT c2 (by decide), (List.forall_mem_cons.mpr ⟨lv_neT c3 (by decide), (List.forall_mem_cons.mpr ⟨lv_neT c4 (by decide), (List.forall_mem_cons.mpr ⟨lv_neT c5 (by decide), (List.forall_mem_cons.mpr ⟨lv_neT c6 (by decide), (List.forall_mem_cons.mpr ⟨lv_neT c7 (by decide), (fun _ z => absurd z List.not_mem_nil)⟩)⟩)⟩)⟩)⟩)⟩)⟩)).trans (by decide)) ?_
                refine x_iconst (v := (0 : Int32)) hC dX2_isName_102 (by decide) <| ?_
                subst h
                exact x_zret (rest := []) hC hE rfl (by decide) dX2_isName_103
set_option maxRecDepth 100000 in
set_option maxHeartbeats 4000000 in
theorem C_X2_write {G : xG} {l : Launch} {a1 : Int32} {σ : xS2} {τ : xS2} (h : J_X2_write a1 σ = some τ) : xC G l mM_X2_write 0 [.ref (xad G 8), .int a1] (xM σ) none (xM τ) := by
  refine xC_of (by decide) rfl (Nat.le_refl _) (Nat.le_of_ble_eq_true rfl) (fun K hC hE hR _ => ?_)
  refine x_aload_n hC dX2_write_0 rfl (j := 0) rfl <| s_getI hC dX2_write_1 wfl_X2_28 rfl (by decide) (by decide) (by decide) (by decide) <| x_aload_n hC dX2_write_4 rfl (j := 0) rfl <| s_getR (q := 10) hC dX2_write_5 wfl_X2_15 rfl (by decide) (by decide) (by decide) (by decide) (by decide) <| x_alen (t := 0) (v := (121 : Int32)) hC dX2_write_8 rfl (by decide) (by decide) (xlt (by decide)) rfl <| ?_
  refine x_icmp_ge (tgt := 32) hC dX2_write_9 (by decide) (fun c1 => ?_) (fun c1 => ?_)
  · replace h := (if_pos c1).symm.trans h
    have e1 := Option.some.inj h
    subst e1
    exact x_vret (rest := []) hC hE rfl dX2_write_32
  · replace h := (if_neg c1).symm.trans h
    refine x_aload_n hC dX2_write_12 rfl (j := 0) rfl <| s_getR (q := 10) hC dX2_write_13 wfl_X2_15 rfl (by decide) (by decide) (by decide) (by decide) (by decide) <| x_aload_n hC dX2_write_16 rfl (j := 0) rfl <| s_getI hC dX2_write_17 wfl_X2_28 rfl (by decide) (by decide) (by decide) (by decide) <| x_iload_n hC dX2_write_20 rfl (j := 1) rfl <| ?_
    obtain ⟨h2, h⟩ := xgd_some h
    refine s_iast hC dX2_write_21 rfl (by decide) h2 <| ?_
    refine x_aload_n hC dX2_write_22 rfl (j := 0) rfl <| x_dup hC dX2_write_23 rfl <| s_getI hC dX2_write_24 wfl_X2_28 rfl (by decide) (by decide) (by decide) (by decide) <| x_iconst (v := (1 : Int32)) hC dX2_write_27 (by decide) <| x_iadd hC dX2_write_28 <| s_putI hC dX2_write_29 wfl_X2_28 rfl (by decide) (by decide) (by decide) (by decide) (by decide) <| ?_
    have e1 := Option.some.inj h
    subst e1
    exact x_vret (rest := []) hC hE rfl dX2_write_32
set_option maxRecDepth 100000 in
set_option maxHeartbeats 4000000 in
theorem B_X2_readNumber_48 {G : xG} {l : Launch} {K : xK} {τ : xS2} (hC : xCX G mM_X2_readNumber K) (hR : xRd K 1) (hE : xE G K none (xM τ)) : ∀ (l1 : Int32) (σ : xS2), J_X2_readNumber_48 l1 σ = some τ → xV G l mM_X2_readNumber K 48 [(0, .ref (xad G 8)), (1, .int l1)] [] (xM σ) := by
  intro l1 σ h
  refine x_aload_n hC dX2_readNumber_48 rfl (j := 0) rfl <| x_iload_n hC dX2_readNumber_49 rfl (j := 1) rfl <| ?_
  obtain ⟨x2, h2, h⟩ := Option.bind_eq_some_iff.mp h
  refine x_callV hC hR dX2_readNumber_50 mK_X2_write wml_X2_61 (C_X2_write (a1 := l1) (σ := σ) h2) (by omega) rfl (by decide) rfl rfl (xlt (by decide)) rfl (Nat.le_of_ble_eq_true rfl) rfl rfl rfl <| ?_
  have e1 := Option.some.inj h
  subst e1
  exact x_vret (rest := []) hC hE rfl dX2_readNumber_53
set_option maxRecDepth 100000 in
set_option maxHeartbeats 4000000 in
theorem B_X2_readNumber_4 {G : xG} {l : Launch} {K : xK} {τ : xS2} (hC : xCX G mM_X2_readNumber K) (hR : xRd K 1) (hE : xE G K none (xM τ)) : ∀ (f : Nat) (l1 : Int32) (l2 : Int32) (σ : xS2), J_X2_readNumber_4 f l1 l2 σ = some τ → xV G l mM_X2_readNumber K 4 [(0, .ref (xad G 8)), (1, .int l1), (2, .int l2)] [] (xM σ) := by
  intro f
  induction f with
  | zero => intro l1 l2 σ h; cases h
  | succ f ih =>
    intro l1 l2 σ h
    refine x_iload_n hC dX2_readNumber_4 rfl (j := 2) rfl <| x_iconst (v := (4 : Int32)) hC dX2_readNumber_5 (by decide) <| ?_
    refine x_icmp_ge (tgt := 48) hC dX2_readNumber_6 (by decide) (fun c1 => ?_) (fun c1 => ?_)
    · replace h := (if_pos c1).symm.trans h
      refine x_sub [0, 1] rfl ?_
      exact B_X2_readNumber_48 hC hR hE l1 σ h
    · replace h := (if_neg c1).symm.trans h
      refine x_aload_n hC dX2_readNumber_9 rfl (j := 0) rfl <| ?_
      obtain ⟨x3, h3, h⟩ := Option.bind_eq_some_iff.mp h
      refine x_callV hC hR dX2_readNumber_10 mK_X2_sign wml_X2_49 (C_X2_sign (σ := σ) h3) (by omega) rfl (by decide) rfl rfl (xlt (by decide)) rfl (Nat.le_of_ble_eq_true rfl) rfl rfl rfl <| ?_
      refine x_callS hC hR dX2_readNumber_13 mK_X2_isDigit wml_X2_82 (C_X2_isDigit (a0 := x3) (σ := σ)) (by omega) rfl (Nat.le_of_ble_eq_true rfl) rfl rfl rfl <| ?_
      refine x_if_eq (tgt := 48) hC dX2_readNumber_16 (by decide) (fun c5 => ?_) (fun c5 => ?_)
      · replace h := (if_pos c5).symm.trans h
        refine x_sub [0, 1] rfl ?_
        exact B_X2_readNumber_48 hC hR hE l1 σ h
      · replace h := (if_neg c5).symm.trans h
        refine x_iload_n hC dX2_readNumber_19 rfl (j := 1) rfl <| x_bipush (v := (10 : Int32)) hC dX2_readNumber_20 (by decide) <| x_imul hC dX2_readNumber_22 <| x_aload_n hC dX2_readNumber_23 rfl (j := 0) rfl <| ?_
        obtain ⟨x6, h6, h⟩ := Option.bind_eq_some_iff.mp h
        refine x_callV hC hR dX2_readNumber_24 mK_X2_sign wml_X2_49 (C_X2_sign (σ := σ) h6) (by omega) rfl (by decide) rfl rfl (xlt (by decide)) rfl (Nat.le_of_ble_eq_true rfl) rfl rfl rfl <| ?_
        refine x_iadd hC dX2_readNumber_27 <| x_bipush (v := (48 : Int32)) hC dX2_readNumber_28 (by decide) <| x_isub hC dX2_readNumber_30 <| x_istore_n hC dX2_readNumber_31 rfl (by decide) rfl <| x_aload_n hC dX2_readNumber_32 rfl (j := 1) rfl <| x_dup hC dX2_readNumber_33 rfl <| ?_
        refine s_getI hC dX2_readNumber_34 wfl_X2_31 rfl (by decide) (by decide) (by decide) (by decide) <| x_iconst (v := (1 : Int32)) hC dX2_readNumber_37 (by decide) <| x_iadd hC dX2_readNumber_38 <| s_putI hC dX2_readNumber_39 wfl_X2_31 rfl (by decide) (by decide) (by decide) (by decide) (by decide) <| x_iinc hC dX2_readNumber_42 (j := 2) (v := (l2 + (1 : Int32))) rfl rfl (by decide) rfl <| x_goto (tgt := 4) hC dX2_readNumber_45 (by decide) <| ?_
        refine x_sub [2, 1, 0] rfl ?_
        exact ih (((l1 * (10 : Int32)) + x6) - (48 : Int32)) (l2 + (1 : Int32)) (yI σ 8 7 ((σ.1 8 7) + (1 : Int32))) h
set_option maxRecDepth 100000 in
set_option maxHeartbeats 4000000 in
theorem C_X2_readNumber {G : xG} {l : Launch} {σ : xS2} {τ : xS2} (h : J_X2_readNumber σ = some τ) : xC G l mM_X2_readNumber 1 [.ref (xad G 8)] (xM σ) none (xM τ) := by
  refine xC_of (by decide) rfl (Nat.le_refl _) (Nat.le_of_ble_eq_true rfl) (fun K hC hE hR _ => ?_)
  refine x_iconst (v := (0 : Int32)) hC dX2_readNumber_0 (by decide) <| x_istore_n hC dX2_readNumber_1 rfl (by decide) rfl <| x_iconst (v := (0 : Int32)) hC dX2_readNumber_2 (by decide) <| x_istore_n hC dX2_readNumber_3 rfl (by decide) rfl <| ?_
  refine x_sub [2, 1, 0] rfl ?_
  exact B_X2_readNumber_4 hC hR hE xFU (0 : Int32) (0 : Int32) σ h
set_option maxRecDepth 100000 in
set_option maxHeartbeats 4000000 in
theorem C_X2_refuse {G : xG} {l : Launch} {σ : xS2} {τ : xS2} (h : J_X2_refuse σ = some τ) : xC G l mM_X2_refuse 0 [.ref (xad G 8)] (xM σ) none (xM τ) := by
  refine xC_of (by decide) rfl (Nat.le_refl _) (Nat.le_of_ble_eq_true rfl) (fun K hC hE hR _ => ?_)
  refine x_aload_n hC dX2_refuse_0 rfl (j := 0) rfl <| s_getI hC dX2_refuse_1 wfl_X2_34 rfl (by decide) (by decide) (by decide) (by decide) <| x_iconst (v := (-1 : Int32)) hC dX2_refuse_4 (by decide) <| ?_
  refine x_icmp_ne (tgt := 16) hC dX2_refuse_5 (by decide) (fun c1 => ?_) (fun c1 => ?_)
  · replace h := (if_neg c1).symm.trans h
    have e1 := Option.some.inj h
    subst e1
    exact x_vret (rest := []) hC hE rfl dX2_refuse_16
  · replace h := (if_pos c1).symm.trans h
    refine x_aload_n hC dX2_refuse_8 rfl (j := 0) rfl <| x_aload_n hC dX2_refuse_9 rfl (j := 0) rfl <| s_getI hC dX2_refuse_10 wfl_X2_31 rfl (by decide) (by decide) (by decide) (by decide) <| s_putI hC dX2_refuse_13 wfl_X2_34 rfl (by decide) (by decide) (by decide) (by decide) (by decide) <| ?_
    have e1 := Option.some.inj h
    subst e1
    exact x_vret (rest := []) hC hE rfl dX2_refuse_16
set_option maxRecDepth 100000 in
set_option maxHeartbeats 4000000 in
theorem B_X2_readAnd_7 {G : xG} {l : Launch} {K : xK} {τ : xS2} {n : Nat} {p_X2_readCompared : (Int32 → xS2 → Option xS2)} (hp_X2_readCompared : ∀ (a1 : Int32) (σ : xS2) (τ : xS2), p_X2_readCompared a1 σ = some τ → xC G l mM_X2_readCompared (2 + n) [.ref (xad G 8), .int a1] (xM σ) none (xM τ)) (hC : xCX G mM_X2_readAnd K) (hR : xRd K (2 + (n + 1))) (hE : xE G K none (xM τ)) : ∀ (f : Nat) (l1 : Int32) (l2 : Int32) (σ : xS2), J_X2_readAnd_7 p_X2_readCompared f l1 l2 σ = some τ → xV G l mM_X2_readAnd K 7 [(0, .ref (xad G 8)), (1, .int l1), (2, .int l2)] [] (xM σ) := by
  intro f
  induction f with
  | zero => intro l1 l2 σ h; cases h
  | succ f ih =>
    intro l1 l2 σ h
    refine x_iload_n hC dX2_readAnd_7 rfl (j := 2) rfl <| x_bipush (v := (120 : Int32)) hC dX2_readAnd_8 (by decide) <| ?_
    refine x_icmp_ge (tgt := 39) hC dX2_readAnd_10 (by decide) (fun c2 => ?_) (fun c2 => ?_)
    · replace h := (if_pos c2).symm.trans h
      have e1 := Option.some.inj h
      subst e1
      exact x_vret (rest := []) hC hE rfl dX2_readAnd_39
    · replace h := (if_neg c2).symm.trans h
      refine x_aload_n hC dX2_readAnd_13 rfl (j := 0) rfl <| x_bipush (v := (38 : Int32)) hC dX2_readAnd_14 (by decide) <| ?_
      obtain ⟨x3, h3, h⟩ := Option.bind_eq_some_iff.mp h
      refine x_callV hC hR dX2_readAnd_16 mK_X2_pass wml_X2_57 (C_X2_pass (a1 := (38 : Int32)) (σ := σ) h3) (by omega) rfl (by decide) rfl rfl (xlt (by decide)) rfl (Nat.le_of_ble_eq_true rfl) rfl rfl rfl <| ?_
      refine x_if_eq (tgt := 39) hC dX2_readAnd_19 (by decide) (fun c4 => ?_) (fun c4 => ?_)
      · replace h := (if_pos c4).symm.trans h
        have e1 := Option.some.inj h
        subst e1
        exact x_vret (rest := []) hC hE rfl dX2_readAnd_39
      · replace h := (if_neg c4).symm.trans h
        refine x_aload_n hC dX2_readAnd_22 rfl (j := 0) rfl <| x_iload_n hC dX2_readAnd_23 rfl (j := 1) rfl <| ?_
        obtain ⟨x5, h5, h⟩ := Option.bind_eq_some_iff.mp h
        refine x_callV hC hR dX2_readAnd_24 mK_X2_readCompared wml_X2_70 (hp_X2_readCompared l1 x3.2 _ h5) (by omega) rfl (by decide) rfl rfl (xlt (by decide)) rfl (Nat.le_of_ble_eq_true rfl) rfl rfl rfl <| ?_
        refine x_aload_n hC dX2_readAnd_27 rfl (j := 0) rfl <| x_bipush (v := (-38 : Int32)) hC dX2_readAnd_28 (by decide) <| ?_
        obtain ⟨x6, h6, h⟩ := Option.bind_eq_some_iff.mp h
        refine x_callV hC hR dX2_readAnd_30 mK_X2_write wml_X2_61 (C_X2_write (a1 := (-38 : Int32)) (σ := x5) h6) (by omega) rfl (by decide) rfl rfl (xlt (by decide)) rfl (Nat.le_of_ble_eq_true rfl) rfl rfl rfl <| ?_
        refine x_iinc hC dX2_readAnd_33 (j := 2) (v := (l2 + (1 : Int32))) rfl rfl (by decide) rfl <| x_goto (tgt := 7) hC dX2_readAnd_36 (by decide) <| ?_
        refine x_sub [1, 2, 0] rfl ?_
        exact ih l1 (l2 + (1 : Int32)) x6 h
set_option maxRecDepth 100000 in
set_option maxHeartbeats 4000000 in
theorem D_X2_readAnd {G : xG} {l : Launch} {n : Nat} {p_X2_readCompared : (Int32 → xS2 → Option xS2)} (hp_X2_readCompared : ∀ (a1 : Int32) (σ : xS2) (τ : xS2), p_X2_readCompared a1 σ = some τ → xC G l mM_X2_readCompared (2 + n) [.ref (xad G 8), .int a1] (xM σ) none (xM τ)) {a1 : Int32} {σ : xS2} {τ : xS2} (h : J_X2_readAnd_b p_X2_readCompared a1 σ = some τ) : xC G l mM_X2_readAnd (2 + (n + 1)) [.ref (xad G 8), .int a1] (xM σ) none (xM τ) := by
  refine xC_of (by decide) rfl (Nat.le_refl _) (Nat.le_of_ble_eq_true rfl) (fun K hC hE hR _ => ?_)
  refine x_aload_n hC dX2_readAnd_0 rfl (j := 0) rfl <| x_iload_n hC dX2_readAnd_1 rfl (j := 1) rfl <| ?_
  obtain ⟨x1, h1, h⟩ := Option.bind_eq_some_iff.mp h
  refine x_callV hC hR dX2_readAnd_2 mK_X2_readCompared wml_X2_70 (hp_X2_readCompared a1 σ _ h1) (by omega) rfl (by decide) rfl rfl (xlt (by decide)) rfl (Nat.le_of_ble_eq_true rfl) rfl rfl rfl <| ?_
  refine x_iconst (v := (0 : Int32)) hC dX2_readAnd_5 (by decide) <| x_istore_n hC dX2_readAnd_6 rfl (by decide) rfl <| ?_
  refine x_sub [1, 2, 0] rfl ?_
  exact B_X2_readAnd_7 hp_X2_readCompared hC hR hE xFU a1 (0 : Int32) x1 h
set_option maxRecDepth 100000 in
set_option maxHeartbeats 4000000 in
theorem B_X2_readCompared_28 {G : xG} {l : Launch} {K : xK} {τ : xS2} {n : Nat} {p_X2_readSum : (Int32 → xS2 → Option xS2)} (hp_X2_readSum : ∀ (a1 : Int32) (σ : xS2) (τ : xS2), p_X2_readSum a1 σ = some τ → xC G l mM_X2_readSum (2 + n) [.ref (xad G 8), .int a1] (xM σ) none (xM τ)) (hC : xCX G mM_X2_readCompared K) (hR : xRd K (2 + (n + 1))) (hE : xE G K none (xM τ)) : ∀ (l1 : Int32) (l2 : Int32) (σ : xS2), J_X2_readCompared_28 p_X2_readSum l1 l2 σ = some τ → xV G l mM_X2_readCompared K 28 [(0, .ref (xad G 8)), (1, .int l1), (2, .int l2)] [] (xM σ) := by
  intro l1 l2 σ h
  refine x_aload_n hC dX2_readCompared_28 rfl (j := 0) rfl <| x_dup hC dX2_readCompared_29 rfl <| s_getI hC dX2_readCompared_30 wfl_X2_31 rfl (by decide) (by decide) (by decide) (by decide) <| x_iconst (v := (1 : Int32)) hC dX2_readCompared_33 (by decide) <| x_iadd hC dX2_readCompared_34 <| s_putI hC dX2_readCompared_35 wfl_X2_31 rfl (by decide) (by decide) (by decide) (by decide) (by decide) <| ?_
  refine x_aload_n hC dX2_readCompared_38 rfl (j := 0) rfl <| x_iload_n hC dX2_readCompared_39 rfl (j := 1) rfl <| ?_
  obtain ⟨x4, h4, h⟩ := Option.bind_eq_some_iff.mp h
  refine x_callV hC hR dX2_readCompared_40 mK_X2_readSum wml_X2_73 (hp_X2_readSum l1 (yI σ 8 7 ((σ.1 8 7) + (1 : Int32))) _ h4) (by omega) rfl (by decide) rfl rfl (xlt (by decide)) rfl (Nat.le_of_ble_eq_true rfl) rfl rfl rfl <| ?_
  refine x_aload_n hC dX2_readCompared_43 rfl (j := 0) rfl <| x_iload_n hC dX2_readCompared_44 rfl (j := 2) rfl <| x_ineg hC dX2_readCompared_45 <| ?_
  obtain ⟨x5, h5, h⟩ := Option.bind_eq_some_iff.mp h
  refine x_callV hC hR dX2_readCompared_46 mK_X2_write wml_X2_61 (C_X2_write (a1 := (-l2)) (σ := x4) h5) (by omega) rfl (by decide) rfl rfl (xlt (by decide)) rfl (Nat.le_of_ble_eq_true rfl) rfl rfl rfl <| ?_
  have e1 := Option.some.inj h
  subst e1
  exact x_vret (rest := []) hC hE rfl dX2_readCompared_49
set_option maxRecDepth 100000 in
set_option maxHeartbeats 4000000 in
theorem D_X2_readCompared {G : xG} {l : Launch} {n : Nat} {p_X2_readSum : (Int32 → xS2 → Option xS2)} (hp_X2_readSum : ∀ (a1 : Int32) (σ : xS2) (τ : xS2), p_X2_readSum a1 σ = some τ → xC G l mM_X2_readSum (2 + n) [.ref (xad G 8), .int a1] (xM σ) none (xM τ)) {a1 : Int32} {σ : xS2} {τ : xS2} (h : J_X2_readCompared_b p_X2_readSum a1 σ = some τ) : xC G l mM_X2_readCompared (2 + (n + 1)) [.ref (xad G 8), .int a1] (xM σ) none (xM τ) := by
  refine xC_of (by decide) rfl (Nat.le_refl _) (Nat.le_of_ble_eq_true rfl) (fun K hC hE hR _ => ?_)
  refine x_aload_n hC dX2_readCompared_0 rfl (j := 0) rfl <| x_iload_n hC dX2_readCompared_1 rfl (j := 1) rfl <| ?_
  obtain ⟨x1, h1, h⟩ := Option.bind_eq_some_iff.mp h
  refine x_callV hC hR dX2_readCompared_2 mK_X2_readSum wml_X2_73 (hp_X2_readSum a1 σ _ h1) (by omega) rfl (by decide) rfl rfl (xlt (by decide)) rfl (Nat.le_of_ble_eq_true rfl) rfl rfl rfl <| ?_
  refine x_aload_n hC dX2_readCompared_5 rfl (j := 0) rfl <| ?_
  obtain ⟨x2, h2, h⟩ := Option.bind_eq_some_iff.mp h
  refine x_callV hC hR dX2_readCompared_6 mK_X2_sign wml_X2_49 (C_X2_sign (σ := x1) h2) (by omega) rfl (by decide) rfl rfl (xlt (by decide)) rfl (Nat.le_of_ble_eq_true rfl) rfl rfl rfl <| ?_
  refine x_istore_n hC dX2_readCompared_9 rfl (by decide) rfl <| x_iload_n hC dX2_readCompared_10 rfl (j := 0) rfl <| x_bipush (v := (60 : Int32)) hC dX2_readCompared_11 (by decide) <| ?_
  refine x_icmp_eq (tgt := 28) hC dX2_readCompared_13 (by decide) (fun c3 => ?_) (fun c3 => ?_)
  · replace h := (if_pos c3).symm.trans h
    refine x_sub [1, 2, 0] rfl ?_
    exact B_X2_readCompared_28 hp_X2_readSum hC hR hE a1 x2 x1 h
  · replace h := (if_neg c3).symm.trans h
    refine x_iload_n hC dX2_readCompared_16 rfl (j := 0) rfl <| x_bipush (v := (61 : Int32)) hC dX2_readCompared_17 (by decide) <| ?_
    refine x_icmp_eq (tgt := 28) hC dX2_readCompared_19 (by decide) (fun c6 => ?_) (fun c6 => ?_)
    · replace h := (if_pos c6).symm.trans h
      refine x_sub [1, 2, 0] rfl ?_
      exact B_X2_readCompared_28 hp_X2_readSum hC hR hE a1 x2 x1 h
    · replace h := (if_neg c6).symm.trans h
      refine x_iload_n hC dX2_readCompared_22 rfl (j := 0) rfl <| x_bipush (v := (62 : Int32)) hC dX2_readCompared_23 (by decide) <| ?_
      refine x_icmp_ne (tgt := 49) hC dX2_readCompared_25 (by decide) (fun c7 => ?_) (fun c7 => ?_)
      · replace h := (if_neg c7).symm.trans h
        have e1 := Option.some.inj h
        subst e1
        exact x_vret (rest := []) hC hE rfl dX2_readCompared_49
      · replace h := (if_pos c7).symm.trans h
        refine x_sub [1, 2, 0] rfl ?_
        exact B_X2_readCompared_28 hp_X2_readSum hC hR hE a1 x2 x1 h
set_option maxRecDepth 100000 in
set_option maxHeartbeats 4000000 in
theorem B_X2_readOpened_46 {G : xG} {l : Launch} {K : xK} {τ : xS2} {n : Nat} {p_X2_readOperand : (Int32 → xS2 → Option xS2)} (hp_X2_readOperand : ∀ (a1 : Int32) (σ : xS2) (τ : xS2), p_X2_readOperand a1 σ = some τ → xC G l mM_X2_readOperand (2 + n) [.ref (xad G 8), .int a1] (xM σ) none (xM τ)) {p_X2_readOr : (Int32 → xS2 → Option xS2)} (hp_X2_readOr : ∀ (a1 : Int32) (σ : xS2) (τ : xS2), p_X2_readOr a1 σ = some τ → xC G l mM_X2_readOr (2 + n) [.ref (xad G 8), .int a1] (xM σ) none (xM τ)) (hC : xCX G mM_X2_readOpened K) (hR : xRd K (2 + (n + 1))) (hE : xE G K none (xM τ)) : ∀ (s1 : Int32) (σ : xS2), J_X2_readOpened_46 p_X2_readOperand p_X2_readOr s1 σ = some τ → xV G l mM_X2_readOpened K 46 [] [.int s1, .ref (xad G 8)] (xM σ) := by
  intro s1 σ h
  obtain ⟨x4, h4, h⟩ := Option.bind_eq_some_iff.mp h
  refine x_callV hC hR dX2_readOpened_46 mK_X2_write wml_X2_61 (C_X2_write (a1 := s1) (σ := σ) h4) (by omega) rfl (by decide) rfl rfl (xlt (by decide)) rfl (Nat.le_of_ble_eq_true rfl) rfl rfl rfl <| ?_
  have e1 := Option.some.inj h
  subst e1
  exact x_vret (rest := []) hC hE rfl dX2_readOpened_49
set_option maxRecDepth 100000 in
set_option maxHeartbeats 4000000 in
theorem D_X2_readOpened {G : xG} {l : Launch} {n : Nat} {p_X2_readOperand : (Int32 → xS2 → Option xS2)} (hp_X2_readOperand : ∀ (a1 : Int32) (σ : xS2) (τ : xS2), p_X2_readOperand a1 σ = some τ → xC G l mM_X2_readOperand (2 + n) [.ref (xad G 8), .int a1] (xM σ) none (xM τ)) {p_X2_readOr : (Int32 → xS2 → Option xS2)} (hp_X2_readOr : ∀ (a1 : Int32) (σ : xS2) (τ : xS2), p_X2_readOr a1 σ = some τ → xC G l mM_X2_readOr (2 + n) [.ref (xad G 8), .int a1] (xM σ) none (xM τ)) {a1 : Int32} {a2 : Int32} {σ : xS2} {τ : xS2} (h : J_X2_readOpened_b p_X2_readOperand p_X2_readOr a1 a2 σ = some τ) : xC G l mM_X2_readOpened (2 + (n + 1)) [.ref (xad G 8), .int a1, .int a2] (xM σ) none (xM τ) := by
  refine xC_of (by decide) rfl (Nat.le_refl _) (Nat.le_of_ble_eq_true rfl) (fun K hC hE hR _ => ?_)
  refine x_iload_n hC dX2_readOpened_0 rfl (j := 1) rfl <| x_bipush (v := (40 : Int32)) hC dX2_readOpened_1 (by decide) <| ?_
  refine x_icmp_ne (tgt := 27) hC dX2_readOpened_3 (by decide) (fun c1 => ?_) (fun c1 => ?_)
  · replace h := (if_neg c1).symm.trans h
    refine x_aload_n hC dX2_readOpened_27 rfl (j := 0) rfl <| x_iload_n hC dX2_readOpened_28 rfl (j := 2) rfl <| ?_
    obtain ⟨x2, h2, h⟩ := Option.bind_eq_some_iff.mp h
    refine x_callV hC hR dX2_readOpened_29 mK_X2_readOperand wml_X2_79 (hp_X2_readOperand a2 σ _ h2) (by omega) rfl (by decide) rfl rfl (xlt (by decide)) rfl (Nat.le_of_ble_eq_true rfl) rfl rfl rfl <| ?_
    refine x_aload_n hC dX2_readOpened_32 rfl (j := 0) rfl <| x_iload_n hC dX2_readOpened_33 rfl (j := 1) rfl <| x_bipush (v := (33 : Int32)) hC dX2_readOpened_34 (by decide) <| ?_
    refine x_icmp_ne (tgt := 44) hC dX2_readOpened_36 (by decide) (fun c3 => ?_) (fun c3 => ?_)
    · replace h := (if_neg c3).symm.trans h
      refine x_bipush (v := (-126 : Int32)) hC dX2_readOpened_44 (by decide) <| ?_
      refine x_sub [] rfl ?_
      exact B_X2_readOpened_46 hp_X2_readOperand hp_X2_readOr hC hR hE (-126 : Int32) x2 h
    · replace h := (if_pos c3).symm.trans h
      refine x_bipush (v := (-33 : Int32)) hC dX2_readOpened_39 (by decide) <| x_goto (tgt := 46) hC dX2_readOpened_41 (by decide) <| ?_
      refine x_sub [] rfl ?_
      exact B_X2_readOpened_46 hp_X2_readOperand hp_X2_readOr hC hR hE (-33 : Int32) x2 h
  · replace h := (if_pos c1).symm.trans h
    refine x_aload_n hC dX2_readOpened_6 rfl (j := 0) rfl <| x_iload_n hC dX2_readOpened_7 rfl (j := 2) rfl <| ?_
    obtain ⟨x5, h5, h⟩ := Option.bind_eq_some_iff.mp h
    refine x_callV hC hR dX2_readOpened_8 mK_X2_readOr wml_X2_53 (hp_X2_readOr a2 σ _ h5) (by omega) rfl (by decide) rfl rfl (xlt (by decide)) rfl (Nat.le_of_ble_eq_true rfl) rfl rfl rfl <| ?_
    refine x_aload_n hC dX2_readOpened_11 rfl (j := 0) rfl <| x_bipush (v := (41 : Int32)) hC dX2_readOpened_12 (by decide) <| ?_
    obtain ⟨x6, h6, h⟩ := Option.bind_eq_some_iff.mp h
    refine x_callV hC hR dX2_readOpened_14 mK_X2_pass wml_X2_57 (C_X2_pass (a1 := (41 : Int32)) (σ := x5) h6) (by omega) rfl (by decide) rfl rfl (xlt (by decide)) rfl (Nat.le_of_ble_eq_true rfl) rfl rfl rfl <| ?_
    refine x_if_ne (tgt := 49) hC dX2_readOpened_17 (by decide) (fun c7 => ?_) (fun c7 => ?_)
    · replace h := (if_neg c7).symm.trans h
      have e1 := Option.some.inj h
      subst e1
      exact x_vret (rest := []) hC hE rfl dX2_readOpened_49
    · replace h := (if_pos c7).symm.trans h
      refine x_aload_n hC dX2_readOpened_20 rfl (j := 0) rfl <| ?_
      obtain ⟨x8, h8, h⟩ := Option.bind_eq_some_iff.mp h
      refine x_callV hC hR dX2_readOpened_21 mK_X2_refuse wml_X2_64 (C_X2_refuse (σ := x6.2) h8) (by omega) rfl (by decide) rfl rfl (xlt (by decide)) rfl (Nat.le_of_ble_eq_true rfl) rfl rfl rfl <| ?_
      refine x_goto (tgt := 49) hC dX2_readOpened_24 (by decide) <| ?_
      have e1 := Option.some.inj h
      subst e1
      exact x_vret (rest := []) hC hE rfl dX2_readOpened_49
set_option maxRecDepth 100000 in
set_option maxHeartbeats 4000000 in
theorem B_X2_readOperand_90 {G : xG} {l : Launch} {K : xK} {τ : xS2} {n : Nat} {p_X2_readOpened : (Int32 → Int32 → xS2 → Option xS2)} (hp_X2_readOpened : ∀ (a1 : Int32) (a2 : Int32) (σ : xS2) (τ : xS2), p_X2_readOpened a1 a2 σ = some τ → xC G l mM_X2_readOpened (2 + n) [.ref (xad G 8), .int a1, .int a2] (xM σ) none (xM τ)) (hC : xCX G mM_X2_readOperand K) (hR : xRd K (2 + (n + 1))) (hE : xE G K none (xM τ)) : ∀ (σ : xS2), J_X2_readOperand_90 p_X2_readOpened σ = some τ → xV G l mM_X2_readOperand K 90 [(0, .ref (xad G 8))] [] (xM σ) := by
  intro σ h
  refine x_aload_n hC dX2_readOperand_90 rfl (j := 0) rfl <| ?_
  obtain ⟨x7, h7, h⟩ := Option.bind_eq_some_iff.mp h
  refine x_callV hC hR dX2_readOperand_91 mK_X2_refuse wml_X2_64 (C_X2_refuse (σ := σ) h7) (by omega) rfl (by decide) rfl rfl (xlt (by decide)) rfl (Nat.le_of_ble_eq_true rfl) rfl rfl rfl <| ?_
  have e1 := Option.some.inj h
  subst e1
  exact x_vret (rest := []) hC hE rfl dX2_readOperand_94
set_option maxRecDepth 100000 in
set_option maxHeartbeats 4000000 in
theorem B_X2_readOperand_69 {G : xG} {l : Launch} {K : xK} {τ : xS2} {n : Nat} {p_X2_readOpened : (Int32 → Int32 → xS2 → Option xS2)} (hp_X2_readOpened : ∀ (a1 : Int32) (a2 : Int32) (σ : xS2) (τ : xS2), p_X2_readOpened a1 a2 σ = some τ → xC G l mM_X2_readOpened (2 + n) [.ref (xad G 8), .int a1, .int a2] (xM σ) none (xM τ)) (hC : xCX G mM_X2_readOperand K) (hR : xRd K (2 + (n + 1))) (hE : xE G K none (xM τ)) : ∀ (l1 : Int32) (l2 : Int32) (σ : xS2), J_X2_readOperand_69 p_X2_readOpened l1 l2 σ = some τ → xV G l mM_X2_readOperand K 69 [(0, .ref (xad G 8)), (1, .int l1), (2, .int l2)] [] (xM σ) := by
  intro l1 l2 σ h
  refine x_aload_n hC dX2_readOperand_69 rfl (j := 0) rfl <| x_dup hC dX2_readOperand_70 rfl <| s_getI hC dX2_readOperand_71 wfl_X2_31 rfl (by decide) (by decide) (by decide) (by decide) <| x_iconst (v := (1 : Int32)) hC dX2_readOperand_74 (by decide) <| x_iadd hC dX2_readOperand_75 <| s_putI hC dX2_readOperand_76 wfl_X2_31 rfl (by decide) (by decide) (by decide) (by decide) (by decide) <| ?_
  refine x_aload_n hC dX2_readOperand_79 rfl (j := 0) rfl <| x_iload_n hC dX2_readOperand_80 rfl (j := 2) rfl <| x_iload_n hC dX2_readOperand_81 rfl (j := 1) rfl <| x_iconst (v := (1 : Int32)) hC dX2_readOperand_82 (by decide) <| x_iadd hC dX2_readOperand_83 <| ?_
  obtain ⟨x9, h9, h⟩ := Option.bind_eq_some_iff.mp h
  refine x_callV hC hR dX2_readOperand_84 mK_X2_readOpened wml_X2_91 (hp_X2_readOpened l2 (l1 + (1 : Int32)) (yI σ 8 7 ((σ.1 8 7) + (1 : Int32))) _ h9) (by omega) rfl (by decide) rfl rfl (xlt (by decide)) rfl (Nat.le_of_ble_eq_true rfl) rfl rfl rfl <| ?_
  refine x_goto (tgt := 94) hC dX2_readOperand_87 (by decide) <| ?_
  have e1 := Option.some.inj h
  subst e1
  exact x_vret (rest := []) hC hE rfl dX2_readOperand_94
set_option maxRecDepth 100000 in
set_option maxHeartbeats 4000000 in
theorem D_X2_readOperand {G : xG} {l : Launch} {n : Nat} {p_X2_readOpened : (Int32 → Int32 → xS2 → Option xS2)} (hp_X2_readOpened : ∀ (a1 : Int32) (a2 : Int32) (σ : xS2) (τ : xS2), p_X2_readOpened a1 a2 σ = some τ → xC G l mM_X2_readOpened (2 + n) [.ref (xad G 8), .int a1, .int a2] (xM σ) none (xM τ)) {a1 : Int32} {σ : xS2} {τ : xS2} (h : J_X2_readOperand_b p_X2_readOpened a1 σ = some τ) : xC G l mM_X2_readOperand (2 + (n + 1)) [.ref (xad G 8), .int a1] (xM σ) none (xM τ) := by
  refine xC_of (by decide) rfl (Nat.le_refl _) (Nat.le_of_ble_eq_true rfl) (fun K hC hE hR _ => ?_)
  refine x_aload_n hC dX2_readOperand_0 rfl (j := 0) rfl <| ?_
  obtain ⟨x1, h1, h⟩ := Option.bind_eq_some_iff.mp h
  refine x_callV hC hR dX2_readOperand_1 mK_X2_sign wml_X2_49 (C_X2_sign (σ := σ) h1) (by omega) rfl (by decide) rfl rfl (xlt (by decide)) rfl (Nat.le_of_ble_eq_true rfl) rfl rfl rfl <| ?_
  refine x_istore_n hC dX2_readOperand_4 rfl (by decide) rfl <| x_iload_n hC dX2_readOperand_5 rfl (j := 0) rfl <| x_callS hC hR dX2_readOperand_6 mK_X2_isDigit wml_X2_82 (C_X2_isDigit (a0 := x1) (σ := σ)) (by omega) rfl (Nat.le_of_ble_eq_true rfl) rfl rfl rfl <| ?_
  refine x_if_eq (tgt := 19) hC dX2_readOperand_9 (by decide) (fun c3 => ?_) (fun c3 => ?_)
  · replace h := (if_pos c3).symm.trans h
    refine x_iload_n hC dX2_readOperand_19 rfl (j := 0) rfl <| x_callS hC hR dX2_readOperand_20 mK_X2_isName wml_X2_88 (C_X2_isName (a0 := x1) (σ := σ)) (by omega) rfl (Nat.le_of_ble_eq_true rfl) rfl rfl rfl <| ?_
    refine x_if_eq (tgt := 45) hC dX2_readOperand_23 (by decide) (fun c5 => ?_) (fun c5 => ?_)
    · replace h := (if_pos c5).symm.trans h
      refine x_iload_n hC dX2_readOperand_45 rfl (j := 2) rfl <| x_bipush (v := (6 : Int32)) hC dX2_readOperand_46 (by decide) <| ?_
      refine x_icmp_ge (tgt := 90) hC dX2_readOperand_48 (by decide) (fun c6 => ?_) (fun c6 => ?_)
      · replace h := (if_pos c6).symm.trans h
        refine x_sub [1] rfl ?_
        exact B_X2_readOperand_90 hp_X2_readOpened hC hR hE σ h
      · replace h := (if_neg c6).symm.trans h
        refine x_iload_n hC dX2_readOperand_51 rfl (j := 0) rfl <| x_bipush (v := (40 : Int32)) hC dX2_readOperand_52 (by decide) <| ?_
        refine x_icmp_eq (tgt := 69) hC dX2_readOperand_54 (by decide) (fun c8 => ?_) (fun c8 => ?_)
        · replace h := (if_pos c8).symm.trans h
          refine x_sub [1, 2, 0] rfl ?_
          exact B_X2_readOperand_69 hp_X2_readOpened hC hR hE a1 x1 σ h
        · replace h := (if_neg c8).symm.trans h
          refine x_iload_n hC dX2_readOperand_57 rfl (j := 0) rfl <| x_bipush (v := (33 : Int32)) hC dX2_readOperand_58 (by decide) <| ?_
          refine x_icmp_eq (tgt := 69) hC dX2_readOperand_60 (by decide) (fun c10 => ?_) (fun c10 => ?_)
          · replace h := (if_pos c10).symm.trans h
            refine x_sub [1, 2, 0] rfl ?_
            exact B_X2_readOperand_69 hp_X2_readOpened hC hR hE a1 x1 σ h
          · replace h := (if_neg c10).symm.trans h
            refine x_iload_n hC dX2_readOperand_63 rfl (j := 0) rfl <| x_bipush (v := (45 : Int32)) hC dX2_readOperand_64 (by decide) <| ?_
            refine x_icmp_ne (tgt := 90) hC dX2_readOperand_66 (by decide) (fun c11 => ?_) (fun c11 => ?_)
            · replace h := (if_neg c11).symm.trans h
              refine x_sub [1] rfl ?_
              exact B_X2_readOperand_90 hp_X2_readOpened hC hR hE σ h
            · replace h := (if_pos c11).symm.trans h
              refine x_sub [1, 2, 0] rfl ?_
              exact B_X2_readOperand_69 hp_X2_readOpened hC hR hE a1 x1 σ h
    · replace h := (if_neg c5).symm.trans h
      refine x_aload_n hC dX2_readOperand_26 rfl (j := 1) rfl <| x_dup hC dX2_readOperand_27 rfl <| s_getI hC dX2_readOperand_28 wfl_X2_31 rfl (by decide) (by decide) (by decide) (by decide) <| x_iconst (v := (1 : Int32)) hC dX2_readOperand_31 (by decide) <| x_iadd hC dX2_readOperand_32 <| s_putI hC dX2_readOperand_33 wfl_X2_31 rfl (by decide) (by decide) (by decide) (by decide) (by decide) <| ?_
      refine x_aload_n hC dX2_readOperand_36 rfl (j := 1) rfl <| x_iload_n hC dX2_readOperand_37 rfl (j := 0) rfl <| x_ineg hC dX2_readOperand_38 <| ?_
      obtain ⟨x12, h12, h⟩ := Option.bind_eq_some_iff.mp h
      refine x_callV hC hR dX2_readOperand_39 mK_X2_write wml_X2_61 (C_X2_write (a1 := (-x1)) (σ := (yI σ 8 7 ((σ.1 8 7) + (1 : Int32)))) h12) (by omega) rfl (by decide) rfl rfl (xlt (by decide)) rfl (Nat.le_of_ble_eq_true rfl) rfl rfl rfl <| ?_
      refine x_goto (tgt := 94) hC dX2_readOperand_42 (by decide) <| ?_
      have e1 := Option.some.inj h
      subst e1
      exact x_vret (rest := []) hC hE rfl dX2_readOperand_94
  · replace h := (if_neg c3).symm.trans h
    refine x_aload_n hC dX2_readOperand_12 rfl (j := 1) rfl <| ?_
    obtain ⟨x13, h13, h⟩ := Option.bind_eq_some_iff.mp h
    refine x_callV hC hR dX2_readOperand_13 mK_X2_readNumber wml_X2_85 (C_X2_readNumber (σ := σ) h13) (by omega) rfl (by decide) rfl rfl (xlt (by decide)) rfl (Nat.le_of_ble_eq_true rfl) rfl rfl rfl <| ?_
    refine x_goto (tgt := 94) hC dX2_readOperand_16 (by decide) <| ?_
    have e1 := Option.some.inj h
    subst e1
    exact x_vret (rest := []) hC hE rfl dX2_readOperand_94
set_option maxRecDepth 100000 in
set_option maxHeartbeats 4000000 in
theorem B_X2_readOr_7 {G : xG} {l : Launch} {K : xK} {τ : xS2} {n : Nat} {p_X2_readAnd : (Int32 → xS2 → Option xS2)} (hp_X2_readAnd : ∀ (a1 : Int32) (σ : xS2) (τ : xS2), p_X2_readAnd a1 σ = some τ → xC G l mM_X2_readAnd (2 + n) [.ref (xad G 8), .int a1] (xM σ) none (xM τ)) (hC : xCX G mM_X2_readOr K) (hR : xRd K (2 + (n + 1))) (hE : xE G K none (xM τ)) : ∀ (f : Nat) (l1 : Int32) (l2 : Int32) (σ : xS2), J_X2_readOr_7 p_X2_readAnd f l1 l2 σ = some τ → xV G l mM_X2_readOr K 7 [(0, .ref (xad G 8)), (1, .int l1), (2, .int l2)] [] (xM σ) := by
  intro f
  induction f with
  | zero => intro l1 l2 σ h; cases h
  | succ f ih =>
    intro l1 l2 σ h
    refine x_iload_n hC dX2_readOr_7 rfl (j := 2) rfl <| x_bipush (v := (120 : Int32)) hC dX2_readOr_8 (by decide) <| ?_
    refine x_icmp_ge (tgt := 39) hC dX2_readOr_10 (by decide) (fun c2 => ?_) (fun c2 => ?_)
    · replace h := (if_pos c2).symm.trans h
      have e1 := Option.some.inj h
      subst e1
      exact x_vret (rest := []) hC hE rfl dX2_readOr_39
    · replace h := (if_neg c2).symm.trans h
      refine x_aload_n hC dX2_readOr_13 rfl (j := 0) rfl <| x_bipush (v := (124 : Int32)) hC dX2_readOr_14 (by decide) <| ?_
      obtain ⟨x3, h3, h⟩ := Option.bind_eq_some_iff.mp h
      refine x_callV hC hR dX2_readOr_16 mK_X2_pass wml_X2_57 (C_X2_pass (a1 := (124 : Int32)) (σ := σ) h3) (by omega) rfl (by decide) rfl rfl (xlt (by decide)) rfl (Nat.le_of_ble_eq_true rfl) rfl rfl rfl <| ?_
      refine x_if_eq (tgt := 39) hC dX2_readOr_19 (by decide) (fun c4 => ?_) (fun c4 => ?_)
      · replace h := (if_pos c4).symm.trans h
        have e1 := Option.some.inj h
        subst e1
        exact x_vret (rest := []) hC hE rfl dX2_readOr_39
      · replace h := (if_neg c4).symm.trans h
        refine x_aload_n hC dX2_readOr_22 rfl (j := 0) rfl <| x_iload_n hC dX2_readOr_23 rfl (j := 1) rfl <| ?_
        obtain ⟨x5, h5, h⟩ := Option.bind_eq_some_iff.mp h
        refine x_callV hC hR dX2_readOr_24 mK_X2_readAnd wml_X2_67 (hp_X2_readAnd l1 x3.2 _ h5) (by omega) rfl (by decide) rfl rfl (xlt (by decide)) rfl (Nat.le_of_ble_eq_true rfl) rfl rfl rfl <| ?_
        refine x_aload_n hC dX2_readOr_27 rfl (j := 0) rfl <| x_bipush (v := (-124 : Int32)) hC dX2_readOr_28 (by decide) <| ?_
        obtain ⟨x6, h6, h⟩ := Option.bind_eq_some_iff.mp h
        refine x_callV hC hR dX2_readOr_30 mK_X2_write wml_X2_61 (C_X2_write (a1 := (-124 : Int32)) (σ := x5) h6) (by omega) rfl (by decide) rfl rfl (xlt (by decide)) rfl (Nat.le_of_ble_eq_true rfl) rfl rfl rfl <| ?_
        refine x_iinc hC dX2_readOr_33 (j := 2) (v := (l2 + (1 : Int32))) rfl rfl (by decide) rfl <| x_goto (tgt := 7) hC dX2_readOr_36 (by decide) <| ?_
        refine x_sub [1, 2, 0] rfl ?_
        exact ih l1 (l2 + (1 : Int32)) x6 h
set_option maxRecDepth 100000 in
set_option maxHeartbeats 4000000 in
theorem D_X2_readOr {G : xG} {l : Launch} {n : Nat} {p_X2_readAnd : (Int32 → xS2 → Option xS2)} (hp_X2_readAnd : ∀ (a1 : Int32) (σ : xS2) (τ : xS2), p_X2_readAnd a1 σ = some τ → xC G l mM_X2_readAnd (2 + n) [.ref (xad G 8), .int a1] (xM σ) none (xM τ)) {a1 : Int32} {σ : xS2} {τ : xS2} (h : J_X2_readOr_b p_X2_readAnd a1 σ = some τ) : xC G l mM_X2_readOr (2 + (n + 1)) [.ref (xad G 8), .int a1] (xM σ) none (xM τ) := by
  refine xC_of (by decide) rfl (Nat.le_refl _) (Nat.le_of_ble_eq_true rfl) (fun K hC hE hR _ => ?_)
  refine x_aload_n hC dX2_readOr_0 rfl (j := 0) rfl <| x_iload_n hC dX2_readOr_1 rfl (j := 1) rfl <| ?_
  obtain ⟨x1, h1, h⟩ := Option.bind_eq_some_iff.mp h
  refine x_callV hC hR dX2_readOr_2 mK_X2_readAnd wml_X2_67 (hp_X2_readAnd a1 σ _ h1) (by omega) rfl (by decide) rfl rfl (xlt (by decide)) rfl (Nat.le_of_ble_eq_true rfl) rfl rfl rfl <| ?_
  refine x_iconst (v := (0 : Int32)) hC dX2_readOr_5 (by decide) <| x_istore_n hC dX2_readOr_6 rfl (by decide) rfl <| ?_
  refine x_sub [1, 2, 0] rfl ?_
  exact B_X2_readOr_7 hp_X2_readAnd hC hR hE xFU a1 (0 : Int32) x1 h
set_option maxRecDepth 100000 in
set_option maxHeartbeats 4000000 in
theorem B_X2_readProduct_39 {G : xG} {l : Launch} {K : xK} {τ : xS2} {n : Nat} {p_X2_readOperand : (Int32 → xS2 → Option xS2)} (hp_X2_readOperand : ∀ (a1 : Int32) (σ : xS2) (τ : xS2), p_X2_readOperand a1 σ = some τ → xC G l mM_X2_readOperand (2 + n) [.ref (xad G 8), .int a1] (xM σ) none (xM τ)) (hC : xCX G mM_X2_readProduct K) (hR : xRd K (2 + (n + 1))) (hE : xE G K none (xM τ)) {k7 : Int32 → Int32 → xS2 → Option xS2} (hk7 : ∀ (l1 : Int32) (l2 : Int32) (σ : xS2), k7 l1 l2 σ = some τ → xV G l mM_X2_readProduct K 7 [(0, .ref (xad G 8)), (1, .int l1), (2, .int l2)] [] (xM σ)) : ∀ (l1 : Int32) (l2 : Int32) (l3 : Int32) (σ : xS2), J_X2_readProduct_39 p_X2_readOperand k7 l1 l2 l3 σ = some τ → xV G l mM_X2_readProduct K 39 [(0, .ref (xad G 8)), (1, .int l1), (2, .int l2), (3, .int l3)] [] (xM σ) := by
  intro l1 l2 l3 σ h
  refine x_aload_n hC dX2_readProduct_39 rfl (j := 0) rfl <| x_dup hC dX2_readProduct_40 rfl <| s_getI hC dX2_readProduct_41 wfl_X2_31 rfl (by decide) (by decide) (by decide) (by decide) <| x_iconst (v := (1 : Int32)) hC dX2_readProduct_44 (by decide) <| x_iadd hC dX2_readProduct_45 <| s_putI hC dX2_readProduct_46 wfl_X2_31 rfl (by decide) (by decide) (by decide) (by decide) (by decide) <| ?_
  refine x_aload_n hC dX2_readProduct_49 rfl (j := 0) rfl <| x_iload_n hC dX2_readProduct_50 rfl (j := 1) rfl <| ?_
  obtain ⟨x5, h5, h⟩ := Option.bind_eq_some_iff.mp h
  refine x_callV hC hR dX2_readProduct_51 mK_X2_readOperand wml_X2_79 (hp_X2_readOperand l1 (yI σ 8 7 ((σ.1 8 7) + (1 : Int32))) _ h5) (by omega) rfl (by decide) rfl rfl (xlt (by decide)) rfl (Nat.le_of_ble_eq_true rfl) rfl rfl rfl <| ?_
  refine x_aload_n hC dX2_readProduct_54 rfl (j := 0) rfl <| x_iload_n hC dX2_readProduct_55 rfl (j := 3) rfl <| x_ineg hC dX2_readProduct_56 <| ?_
  obtain ⟨x6, h6, h⟩ := Option.bind_eq_some_iff.mp h
  refine x_callV hC hR dX2_readProduct_57 mK_X2_write wml_X2_61 (C_X2_write (a1 := (-l3)) (σ := x5) h6) (by omega) rfl (by decide) rfl rfl (xlt (by decide)) rfl (Nat.le_of_ble_eq_true rfl) rfl rfl rfl <| ?_
  refine x_iinc hC dX2_readProduct_60 (j := 2) (v := (l2 + (1 : Int32))) rfl rfl (by decide) rfl <| x_goto (tgt := 7) hC dX2_readProduct_63 (by decide) <| ?_
  refine x_sub [1, 2, 0] rfl ?_
  exact hk7 l1 (l2 + (1 : Int32)) x6 h
set_option maxRecDepth 100000 in
set_option maxHeartbeats 4000000 in
theorem B_X2_readProduct_7 {G : xG} {l : Launch} {K : xK} {τ : xS2} {n : Nat} {p_X2_readOperand : (Int32 → xS2 → Option xS2)} (hp_X2_readOperand : ∀ (a1 : Int32) (σ : xS2) (τ : xS2), p_X2_readOperand a1 σ = some τ → xC G l mM_X2_readOperand (2 + n) [.ref (xad G 8), .int a1] (xM σ) none (xM τ)) (hC : xCX G mM_X2_readProduct K) (hR : xRd K (2 + (n + 1))) (hE : xE G K none (xM τ)) : ∀ (f : Nat) (l1 : Int32) (l2 : Int32) (σ : xS2), J_X2_readProduct_7 p_X2_readOperand f l1 l2 σ = some τ → xV G l mM_X2_readProduct K 7 [(0, .ref (xad G 8)), (1, .int l1), (2, .int l2)] [] (xM σ) := by
  intro f
  induction f with
  | zero => intro l1 l2 σ h; cases h
  | succ f ih =>
    intro l1 l2 σ h
    refine x_iload_n hC dX2_readProduct_7 rfl (j := 2) rfl <| x_bipush (v := (120 : Int32)) hC dX2_readProduct_8 (by decide) <| ?_
    refine x_icmp_ge (tgt := 66) hC dX2_readProduct_10 (by decide) (fun c2 => ?_) (fun c2 => ?_)
    · replace h := (if_pos c2).symm.trans h
      have e1 := Option.some.inj h
      subst e1
      exact x_vret (rest := []) hC hE rfl dX2_readProduct_66
    · replace h := (if_neg c2).symm.trans h
      refine x_aload_n hC dX2_readProduct_13 rfl (j := 0) rfl <| ?_
      obtain ⟨x3, h3, h⟩ := Option.bind_eq_some_iff.mp h
      refine x_callV hC hR dX2_readProduct_14 mK_X2_sign wml_X2_49 (C_X2_sign (σ := σ) h3) (by omega) rfl (by decide) rfl rfl (xlt (by decide)) rfl (Nat.le_of_ble_eq_true rfl) rfl rfl rfl <| ?_
      refine x_istore_n hC dX2_readProduct_17 rfl (by decide) rfl <| x_iload_n hC dX2_readProduct_18 rfl (j := 0) rfl <| x_bipush (v := (42 : Int32)) hC dX2_readProduct_19 (by decide) <| ?_
      refine x_icmp_eq (tgt := 39) hC dX2_readProduct_21 (by decide) (fun c4 => ?_) (fun c4 => ?_)
      · replace h := (if_pos c4).symm.trans h
        refine x_sub [1, 2, 3, 0] rfl ?_
        exact B_X2_readProduct_39 hp_X2_readOperand hC hR hE ih l1 l2 x3 σ h
      · replace h := (if_neg c4).symm.trans h
        refine x_iload_n hC dX2_readProduct_24 rfl (j := 0) rfl <| x_bipush (v := (47 : Int32)) hC dX2_readProduct_25 (by decide) <| ?_
        refine x_icmp_eq (tgt := 39) hC dX2_readProduct_27 (by decide) (fun c7 => ?_) (fun c7 => ?_)
        · replace h := (if_pos c7).symm.trans h
          refine x_sub [1, 2, 3, 0] rfl ?_
          exact B_X2_readProduct_39 hp_X2_readOperand hC hR hE ih l1 l2 x3 σ h
        · replace h := (if_neg c7).symm.trans h
          refine x_iload_n hC dX2_readProduct_30 rfl (j := 0) rfl <| x_bipush (v := (37 : Int32)) hC dX2_readProduct_31 (by decide) <| ?_
          refine x_icmp_eq (tgt := 39) hC dX2_readProduct_33 (by decide) (fun c8 => ?_) (fun c8 => ?_)
          · replace h := (if_pos c8).symm.trans h
            refine x_sub [1, 2, 3, 0] rfl ?_
            exact B_X2_readProduct_39 hp_X2_readOperand hC hR hE ih l1 l2 x3 σ h
          · replace h := (if_neg c8).symm.trans h
            refine x_goto (tgt := 66) hC dX2_readProduct_36 (by decide) <| ?_
            have e1 := Option.some.inj h
            subst e1
            exact x_vret (rest := []) hC hE rfl dX2_readProduct_66
set_option maxRecDepth 100000 in
set_option maxHeartbeats 4000000 in
theorem D_X2_readProduct {G : xG} {l : Launch} {n : Nat} {p_X2_readOperand : (Int32 → xS2 → Option xS2)} (hp_X2_readOperand : ∀ (a1 : Int32) (σ : xS2) (τ : xS2), p_X2_readOperand a1 σ = some τ → xC G l mM_X2_readOperand (2 + n) [.ref (xad G 8), .int a1] (xM σ) none (xM τ)) {a1 : Int32} {σ : xS2} {τ : xS2} (h : J_X2_readProduct_b p_X2_readOperand a1 σ = some τ) : xC G l mM_X2_readProduct (2 + (n + 1)) [.ref (xad G 8), .int a1] (xM σ) none (xM τ) := by
  refine xC_of (by decide) rfl (Nat.le_refl _) (Nat.le_of_ble_eq_true rfl) (fun K hC hE hR _ => ?_)
  refine x_aload_n hC dX2_readProduct_0 rfl (j := 0) rfl <| x_iload_n hC dX2_readProduct_1 rfl (j := 1) rfl <| ?_
  obtain ⟨x1, h1, h⟩ := Option.bind_eq_some_iff.mp h
  refine x_callV hC hR dX2_readProduct_2 mK_X2_readOperand wml_X2_79 (hp_X2_readOperand a1 σ _ h1) (by omega) rfl (by decide) rfl rfl (xlt (by decide)) rfl (Nat.le_of_ble_eq_true rfl) rfl rfl rfl <| ?_
  refine x_iconst (v := (0 : Int32)) hC dX2_readProduct_5 (by decide) <| x_istore_n hC dX2_readProduct_6 rfl (by decide) rfl <| ?_
  refine x_sub [1, 2, 0] rfl ?_
  exact B_X2_readProduct_7 hp_X2_readOperand hC hR hE xFU a1 (0 : Int32) x1 h
set_option maxRecDepth 100000 in
set_option maxHeartbeats 4000000 in
theorem B_X2_readSum_33 {G : xG} {l : Launch} {K : xK} {τ : xS2} {n : Nat} {p_X2_readProduct : (Int32 → xS2 → Option xS2)} (hp_X2_readProduct : ∀ (a1 : Int32) (σ : xS2) (τ : xS2), p_X2_readProduct a1 σ = some τ → xC G l mM_X2_readProduct (2 + n) [.ref (xad G 8), .int a1] (xM σ) none (xM τ)) (hC : xCX G mM_X2_readSum K) (hR : xRd K (2 + (n + 1))) (hE : xE G K none (xM τ)) {k7 : Int32 → Int32 → xS2 → Option xS2} (hk7 : ∀ (l1 : Int32) (l2 : Int32) (σ : xS2), k7 l1 l2 σ = some τ → xV G l mM_X2_readSum K 7 [(0, .ref (xad G 8)), (1, .int l1), (2, .int l2)] [] (xM σ)) : ∀ (l1 : Int32) (l2 : Int32) (l3 : Int32) (σ : xS2), J_X2_readSum_33 p_X2_readProduct k7 l1 l2 l3 σ = some τ → xV G l mM_X2_readSum K 33 [(0, .ref (xad G 8)), (1, .int l1), (2, .int l2), (3, .int l3)] [] (xM σ) := by
  intro l1 l2 l3 σ h
  refine x_aload_n hC dX2_readSum_33 rfl (j := 0) rfl <| x_dup hC dX2_readSum_34 rfl <| s_getI hC dX2_readSum_35 wfl_X2_31 rfl (by decide) (by decide) (by decide) (by decide) <| x_iconst (v := (1 : Int32)) hC dX2_readSum_38 (by decide) <| x_iadd hC dX2_readSum_39 <| s_putI hC dX2_readSum_40 wfl_X2_31 rfl (by decide) (by decide) (by decide) (by decide) (by decide) <| ?_
  refine x_aload_n hC dX2_readSum_43 rfl (j := 0) rfl <| x_iload_n hC dX2_readSum_44 rfl (j := 1) rfl <| ?_
  obtain ⟨x5, h5, h⟩ := Option.bind_eq_some_iff.mp h
  refine x_callV hC hR dX2_readSum_45 mK_X2_readProduct wml_X2_76 (hp_X2_readProduct l1 (yI σ 8 7 ((σ.1 8 7) + (1 : Int32))) _ h5) (by omega) rfl (by decide) rfl rfl (xlt (by decide)) rfl (Nat.le_of_ble_eq_true rfl) rfl rfl rfl <| ?_
  refine x_aload_n hC dX2_readSum_48 rfl (j := 0) rfl <| x_iload_n hC dX2_readSum_49 rfl (j := 3) rfl <| x_ineg hC dX2_readSum_50 <| ?_
  obtain ⟨x6, h6, h⟩ := Option.bind_eq_some_iff.mp h
  refine x_callV hC hR dX2_readSum_51 mK_X2_write wml_X2_61 (C_X2_write (a1 := (-l3)) (σ := x5) h6) (by omega) rfl (by decide) rfl rfl (xlt (by decide)) rfl (Nat.le_of_ble_eq_true rfl) rfl rfl rfl <| ?_
  refine x_iinc hC dX2_readSum_54 (j := 2) (v := (l2 + (1 : Int32))) rfl rfl (by decide) rfl <| x_goto (tgt := 7) hC dX2_readSum_57 (by decide) <| ?_
  refine x_sub [1, 2, 0] rfl ?_
  exact hk7 l1 (l2 + (1 : Int32)) x6 h
set_option maxRecDepth 100000 in
set_option maxHeartbeats 4000000 in
theorem B_X2_readSum_7 {G : xG} {l : Launch} {K : xK} {τ : xS2} {n : Nat} {p_X2_readProduct : (Int32 → xS2 → Option xS2)} (hp_X2_readProduct : ∀ (a1 : Int32) (σ : xS2) (τ : xS2), p_X2_readProduct a1 σ = some τ → xC G l mM_X2_readProduct (2 + n) [.ref (xad G 8), .int a1] (xM σ) none (xM τ)) (hC : xCX G mM_X2_readSum K) (hR : xRd K (2 + (n + 1))) (hE : xE G K none (xM τ)) : ∀ (f : Nat) (l1 : Int32) (l2 : Int32) (σ : xS2), J_X2_readSum_7 p_X2_readProduct f l1 l2 σ = some τ → xV G l mM_X2_readSum K 7 [(0, .ref (xad G 8)), (1, .int l1), (2, .int l2)] [] (xM σ) := by
  intro f
  induction f with
  | zero => intro l1 l2 σ h; cases h
  | succ f ih =>
    intro l1 l2 σ h
    refine x_iload_n hC dX2_readSum_7 rfl (j := 2) rfl <| x_bipush (v := (120 : Int32)) hC dX2_readSum_8 (by decide) <| ?_
    refine x_icmp_ge (tgt := 60) hC dX2_readSum_10 (by decide) (fun c2 => ?_) (fun c2 => ?_)
    · replace h := (if_pos c2).symm.trans h
      have e1 := Option.some.inj h
      subst e1
      exact x_vret (rest := []) hC hE rfl dX2_readSum_60
    · replace h := (if_neg c2).symm.trans h
      refine x_aload_n hC dX2_readSum_13 rfl (j := 0) rfl <| ?_
      obtain ⟨x3, h3, h⟩ := Option.bind_eq_some_iff.mp h
      refine x_callV hC hR dX2_readSum_14 mK_X2_sign wml_X2_49 (C_X2_sign (σ := σ) h3) (by omega) rfl (by decide) rfl rfl (xlt (by decide)) rfl (Nat.le_of_ble_eq_true rfl) rfl rfl rfl <| ?_
      refine x_istore_n hC dX2_readSum_17 rfl (by decide) rfl <| x_iload_n hC dX2_readSum_18 rfl (j := 0) rfl <| x_bipush (v := (43 : Int32)) hC dX2_readSum_19 (by decide) <| ?_
      refine x_icmp_eq (tgt := 33) hC dX2_readSum_21 (by decide) (fun c4 => ?_) (fun c4 => ?_)
      · replace h := (if_pos c4).symm.trans h
        refine x_sub [1, 2, 3, 0] rfl ?_
        exact B_X2_readSum_33 hp_X2_readProduct hC hR hE ih l1 l2 x3 σ h
      · replace h := (if_neg c4).symm.trans h
        refine x_iload_n hC dX2_readSum_24 rfl (j := 0) rfl <| x_bipush (v := (45 : Int32)) hC dX2_readSum_25 (by decide) <| ?_
        refine x_icmp_eq (tgt := 33) hC dX2_readSum_27 (by decide) (fun c7 => ?_) (fun c7 => ?_)
        · replace h := (if_pos c7).symm.trans h
          refine x_sub [1, 2, 3, 0] rfl ?_
          exact B_X2_readSum_33 hp_X2_readProduct hC hR hE ih l1 l2 x3 σ h
        · replace h := (if_neg c7).symm.trans h
          refine x_goto (tgt := 60) hC dX2_readSum_30 (by decide) <| ?_
          have e1 := Option.some.inj h
          subst e1
          exact x_vret (rest := []) hC hE rfl dX2_readSum_60
set_option maxRecDepth 100000 in
set_option maxHeartbeats 4000000 in
theorem D_X2_readSum {G : xG} {l : Launch} {n : Nat} {p_X2_readProduct : (Int32 → xS2 → Option xS2)} (hp_X2_readProduct : ∀ (a1 : Int32) (σ : xS2) (τ : xS2), p_X2_readProduct a1 σ = some τ → xC G l mM_X2_readProduct (2 + n) [.ref (xad G 8), .int a1] (xM σ) none (xM τ)) {a1 : Int32} {σ : xS2} {τ : xS2} (h : J_X2_readSum_b p_X2_readProduct a1 σ = some τ) : xC G l mM_X2_readSum (2 + (n + 1)) [.ref (xad G 8), .int a1] (xM σ) none (xM τ) := by
  refine xC_of (by decide) rfl (Nat.le_refl _) (Nat.le_of_ble_eq_true rfl) (fun K hC hE hR _ => ?_)
  refine x_aload_n hC dX2_readSum_0 rfl (j := 0) rfl <| x_iload_n hC dX2_readSum_1 rfl (j := 1) rfl <| ?_
  obtain ⟨x1, h1, h⟩ := Option.bind_eq_some_iff.mp h
  refine x_callV hC hR dX2_readSum_2 mK_X2_readProduct wml_X2_76 (hp_X2_readProduct a1 σ _ h1) (by omega) rfl (by decide) rfl rfl (xlt (by decide)) rfl (Nat.le_of_ble_eq_true rfl) rfl rfl rfl <| ?_
  refine x_iconst (v := (0 : Int32)) hC dX2_readSum_5 (by decide) <| x_istore_n hC dX2_readSum_6 rfl (by decide) rfl <| ?_
  refine x_sub [1, 2, 0] rfl ?_
  exact B_X2_readSum_7 hp_X2_readProduct hC hR hE xFU a1 (0 : Int32) x1 h
set_option maxRecDepth 100000 in
set_option maxHeartbeats 4000000 in
theorem CG_X2_readAnd {G : xG} {l : Launch} : ∀ n : Nat, (∀ (a1 : Int32) (σ : xS2) (τ : xS2), (G_X2_readAnd n).1 a1 σ = some τ → xC G l mM_X2_readAnd (2 + n) [.ref (xad G 8), .int a1] (xM σ) none (xM τ)) ∧ (∀ (a1 : Int32) (σ : xS2) (τ : xS2), (G_X2_readAnd n).2.1 a1 σ = some τ → xC G l mM_X2_readCompared (2 + n) [.ref (xad G 8), .int a1] (xM σ) none (xM τ)) ∧ (∀ (a1 : Int32) (a2 : Int32) (σ : xS2) (τ : xS2), (G_X2_readAnd n).2.2.1 a1 a2 σ = some τ → xC G l mM_X2_readOpened (2 + n) [.ref (xad G 8), .int a1, .int a2] (xM σ) none (xM τ)) ∧ (∀ (a1 : Int32) (σ : xS2) (τ : xS2), (G_X2_readAnd n).2.2.2.1 a1 σ = some τ → xC G l mM_X2_readOperand (2 + n) [.ref (xad G 8), .int a1] (xM σ) none (xM τ)) ∧ (∀ (a1 : Int32) (σ : xS2) (τ : xS2), (G_X2_readAnd n).2.2.2.2.1 a1 σ = some τ → xC G l mM_X2_readOr (2 + n) [.ref (xad G 8), .int a1] (xM σ) none (xM τ)) ∧ (∀ (a1 : Int32) (σ : xS2) (τ : xS2), (G_X2_readAnd n).2.2.2.2.2.1 a1 σ = some τ → xC G l mM_X2_readProduct (2 + n) [.ref (xad G 8), .int a1] (xM σ) none (xM τ)) ∧ (∀ (a1 : Int32) (σ : xS2) (τ : xS2), (G_X2_readAnd n).2.2.2.2.2.2 a1 σ = some τ → xC G l mM_X2_readSum (2 + n) [.ref (xad G 8), .int a1] (xM σ) none (xM τ)) := by
  intro n
  induction n with
  | zero => exact ⟨fun _ _ _ h => (by cases h), fun _ _ _ h => (by cases h), fun _ _ _ _ h => (by cases h), fun _ _ _ h => (by cases h), fun _ _ _ h => (by cases h), fun _ _ _ h => (by cases h), fun _ _ _ h => (by cases h)⟩
  | succ n ih =>
    obtain ⟨i_X2_readAnd, i_X2_readCompared, i_X2_readOpened, i_X2_readOperand, i_X2_readOr, i_X2_readProduct, i_X2_readSum⟩ := ih
    exact ⟨fun a1 σ τ h => D_X2_readAnd i_X2_readCompared h, fun a1 σ τ h => D_X2_readCompared i_X2_readSum h, fun a1 a2 σ τ h => D_X2_readOpened i_X2_readOperand i_X2_readOr h, fun a1 σ τ h => D_X2_readOperand i_X2_readOpened h, fun a1 σ τ h => D_X2_readOr i_X2_readAnd h, fun a1 σ τ h => D_X2_readProduct i_X2_readOperand h, fun a1 σ τ h => D_X2_readSum i_X2_readProduct h⟩
theorem C_X2_readAnd {G : xG} {l : Launch} {a1 : Int32} {σ : xS2} {τ : xS2} (h : J_X2_readAnd a1 σ = some τ) : xC G l mM_X2_readAnd 102 [.ref (xad G 8), .int a1] (xM σ) none (xM τ) := (CG_X2_readAnd 100).1 a1 σ τ h
theorem C_X2_readCompared {G : xG} {l : Launch} {a1 : Int32} {σ : xS2} {τ : xS2} (h : J_X2_readCompared a1 σ = some τ) : xC G l mM_X2_readCompared 102 [.ref (xad G 8), .int a1] (xM σ) none (xM τ) := (CG_X2_readAnd 100).2.1 a1 σ τ h
theorem C_X2_readOpened {G : xG} {l : Launch} {a1 : Int32} {a2 : Int32} {σ : xS2} {τ : xS2} (h : J_X2_readOpened a1 a2 σ = some τ) : xC G l mM_X2_readOpened 102 [.ref (xad G 8), .int a1, .int a2] (xM σ) none (xM τ) := (CG_X2_readAnd 100).2.2.1 a1 a2 σ τ h
theorem C_X2_readOperand {G : xG} {l : Launch} {a1 : Int32} {σ : xS2} {τ : xS2} (h : J_X2_readOperand a1 σ = some τ) : xC G l mM_X2_readOperand 102 [.ref (xad G 8), .int a1] (xM σ) none (xM τ) := (CG_X2_readAnd 100).2.2.2.1 a1 σ τ h
theorem C_X2_readOr {G : xG} {l : Launch} {a1 : Int32} {σ : xS2} {τ : xS2} (h : J_X2_readOr a1 σ = some τ) : xC G l mM_X2_readOr 102 [.ref (xad G 8), .int a1] (xM σ) none (xM τ) := (CG_X2_readAnd 100).2.2.2.2.1 a1 σ τ h
theorem C_X2_readProduct {G : xG} {l : Launch} {a1 : Int32} {σ : xS2} {τ : xS2} (h : J_X2_readProduct a1 σ = some τ) : xC G l mM_X2_readProduct 102 [.ref (xad G 8), .int a1] (xM σ) none (xM τ) := (CG_X2_readAnd 100).2.2.2.2.2.1 a1 σ τ h
theorem C_X2_readSum {G : xG} {l : Launch} {a1 : Int32} {σ : xS2} {τ : xS2} (h : J_X2_readSum a1 σ = some τ) : xC G l mM_X2_readSum 102 [.ref (xad G 8), .int a1] (xM σ) none (xM τ) := (CG_X2_readAnd 100).2.2.2.2.2.2 a1 σ τ h
set_option maxRecDepth 100000 in
set_option maxHeartbeats 4000000 in
theorem B_X2_readLines_57 {G : xG} {l : Launch} {K : xK} {τ : xS2} (hC : xCX G mM_X2_readLines K) (hR : xRd K 103) (hE : xE G K none (xM τ)) : ∀ (σ : xS2), J_X2_readLines_57 σ = some τ → xV G l mM_X2_readLines K 57 [(0, .ref (xad G 8))] [] (xM σ) := by
  intro σ h
  refine x_aload_n hC dX2_readLines_57 rfl (j := 0) rfl <| s_getI hC dX2_readLines_58 wfl_X2_31 rfl (by decide) (by decide) (by decide) (by decide) <| x_aload_n hC dX2_readLines_61 rfl (j := 0) rfl <| s_getI hC dX2_readLines_62 wfl_X2_24 rfl (by decide) (by decide) (by decide) (by decide) <| ?_
  refine x_icmp_ge (tgt := 72) hC dX2_readLines_65 (by decide) (fun c2 => ?_) (fun c2 => ?_)
  · replace h := (if_pos c2).symm.trans h
    have e1 := Option.some.inj h
    subst e1
    exact x_vret (rest := []) hC hE rfl dX2_readLines_72
  · replace h := (if_neg c2).symm.trans h
    refine x_aload_n hC dX2_readLines_68 rfl (j := 0) rfl <| ?_
    obtain ⟨x3, h3, h⟩ := Option.bind_eq_some_iff.mp h
    refine x_callV hC hR dX2_readLines_69 mK_X2_refuse wml_X2_64 (C_X2_refuse (σ := σ) h3) (by omega) rfl (by decide) rfl rfl (xlt (by decide)) rfl (Nat.le_of_ble_eq_true rfl) rfl rfl rfl <| ?_
    have e1 := Option.some.inj h
    subst e1
    exact x_vret (rest := []) hC hE rfl dX2_readLines_72
set_option maxRecDepth 100000 in
set_option maxHeartbeats 4000000 in
theorem B_X2_readLines_33 {G : xG} {l : Launch} {K : xK} {τ : xS2} (hC : xCX G mM_X2_readLines K) (hR : xRd K 103) (hE : xE G K none (xM τ)) {k2 : Int32 → xS2 → Option xS2} (hk2 : ∀ (l1 : Int32) (σ : xS2), k2 l1 σ = some τ → xV G l mM_X2_readLines K 2 [(0, .ref (xad G 8)), (1, .int l1)] [] (xM σ)) : ∀ (l1 : Int32) (σ : xS2), J_X2_readLines_33 k2 l1 σ = some τ → xV G l mM_X2_readLines K 33 [(0, .ref (xad G 8)), (1, .int l1)] [] (xM σ) := by
  intro l1 σ h
  refine x_aload_n hC dX2_readLines_33 rfl (j := 0) rfl <| x_bipush (v := (-59 : Int32)) hC dX2_readLines_34 (by decide) <| ?_
  obtain ⟨x7, h7, h⟩ := Option.bind_eq_some_iff.mp h
  refine x_callV hC hR dX2_readLines_36 mK_X2_write wml_X2_61 (C_X2_write (a1 := (-59 : Int32)) (σ := σ) h7) (by omega) rfl (by decide) rfl rfl (xlt (by decide)) rfl (Nat.le_of_ble_eq_true rfl) rfl rfl rfl <| ?_
  refine x_aload_n hC dX2_readLines_39 rfl (j := 0) rfl <| x_bipush (v := (59 : Int32)) hC dX2_readLines_40 (by decide) <| ?_
  obtain ⟨x8, h8, h⟩ := Option.bind_eq_some_iff.mp h
  refine x_callV hC hR dX2_readLines_42 mK_X2_pass wml_X2_57 (C_X2_pass (a1 := (59 : Int32)) (σ := x7) h8) (by omega) rfl (by decide) rfl rfl (xlt (by decide)) rfl (Nat.le_of_ble_eq_true rfl) rfl rfl rfl <| ?_
  refine x_if_ne (tgt := 51) hC dX2_readLines_45 (by decide) (fun c9 => ?_) (fun c9 => ?_)
  · replace h := (if_neg c9).symm.trans h
    refine x_iinc hC dX2_readLines_51 (j := 1) (v := (l1 + (1 : Int32))) rfl rfl (by decide) rfl <| x_goto (tgt := 2) hC dX2_readLines_54 (by decide) <| ?_
    refine x_sub [1, 0] rfl ?_
    exact hk2 (l1 + (1 : Int32)) x8.2 h
  · replace h := (if_pos c9).symm.trans h
    refine x_goto (tgt := 57) hC dX2_readLines_48 (by decide) <| ?_
    refine x_sub [0] rfl ?_
    exact B_X2_readLines_57 hC hR hE x8.2 h
set_option maxRecDepth 100000 in
set_option maxHeartbeats 4000000 in
theorem B_X2_readLines_2 {G : xG} {l : Launch} {K : xK} {τ : xS2} (hC : xCX G mM_X2_readLines K) (hR : xRd K 103) (hE : xE G K none (xM τ)) : ∀ (f : Nat) (l1 : Int32) (σ : xS2), J_X2_readLines_2 f l1 σ = some τ → xV G l mM_X2_readLines K 2 [(0, .ref (xad G 8)), (1, .int l1)] [] (xM σ) := by
  intro f
  induction f with
  | zero => intro l1 σ h; cases h
  | succ f ih =>
    intro l1 σ h
    refine x_iload_n hC dX2_readLines_2 rfl (j := 1) rfl <| x_bipush (v := (120 : Int32)) hC dX2_readLines_3 (by decide) <| ?_
    refine x_icmp_gt (tgt := 57) hC dX2_readLines_5 (by decide) (fun c1 => ?_) (fun c1 => ?_)
    · replace h := (if_pos c1).symm.trans h
      refine x_sub [0] rfl ?_
      exact B_X2_readLines_57 hC hR hE σ h
    · replace h := (if_neg c1).symm.trans h
      refine x_aload_n hC dX2_readLines_8 rfl (j := 0) rfl <| x_iconst (v := (0 : Int32)) hC dX2_readLines_9 (by decide) <| ?_
      obtain ⟨x4, h4, h⟩ := Option.bind_eq_some_iff.mp h
      refine x_callV hC hR dX2_readLines_10 mK_X2_readOr wml_X2_53 (C_X2_readOr (a1 := (0 : Int32)) (σ := σ) h4) (by omega) rfl (by decide) rfl rfl (xlt (by decide)) rfl (Nat.le_of_ble_eq_true rfl) rfl rfl rfl <| ?_
      refine x_aload_n hC dX2_readLines_13 rfl (j := 0) rfl <| x_bipush (v := (63 : Int32)) hC dX2_readLines_14 (by decide) <| ?_
      obtain ⟨x5, h5, h⟩ := Option.bind_eq_some_iff.mp h
      refine x_callV hC hR dX2_readLines_16 mK_X2_pass wml_X2_57 (C_X2_pass (a1 := (63 : Int32)) (σ := x4) h5) (by omega) rfl (by decide) rfl rfl (xlt (by decide)) rfl (Nat.le_of_ble_eq_true rfl) rfl rfl rfl <| ?_
      refine x_if_eq (tgt := 33) hC dX2_readLines_19 (by decide) (fun c6 => ?_) (fun c6 => ?_)
      · replace h := (if_pos c6).symm.trans h
        refine x_sub [0, 1] rfl ?_
        exact B_X2_readLines_33 hC hR hE ih l1 x5.2 h
      · replace h := (if_neg c6).symm.trans h
        refine x_aload_n hC dX2_readLines_22 rfl (j := 0) rfl <| x_bipush (v := (-63 : Int32)) hC dX2_readLines_23 (by decide) <| ?_
        obtain ⟨x10, h10, h⟩ := Option.bind_eq_some_iff.mp h
        refine x_callV hC hR dX2_readLines_25 mK_X2_write wml_X2_61 (C_X2_write (a1 := (-63 : Int32)) (σ := x5.2) h10) (by omega) rfl (by decide) rfl rfl (xlt (by decide)) rfl (Nat.le_of_ble_eq_true rfl) rfl rfl rfl <| ?_
        refine x_aload_n hC dX2_readLines_28 rfl (j := 0) rfl <| x_iconst (v := (0 : Int32)) hC dX2_readLines_29 (by decide) <| ?_
        obtain ⟨x11, h11, h⟩ := Option.bind_eq_some_iff.mp h
        refine x_callV hC hR dX2_readLines_30 mK_X2_readOr wml_X2_53 (C_X2_readOr (a1 := (0 : Int32)) (σ := x10) h11) (by omega) rfl (by decide) rfl rfl (xlt (by decide)) rfl (Nat.le_of_ble_eq_true rfl) rfl rfl rfl <| ?_
        refine x_sub [0, 1] rfl ?_
        exact B_X2_readLines_33 hC hR hE ih l1 x11 h
set_option maxRecDepth 100000 in
set_option maxHeartbeats 4000000 in
theorem C_X2_readLines {G : xG} {l : Launch} {σ : xS2} {τ : xS2} (h : J_X2_readLines σ = some τ) : xC G l mM_X2_readLines 103 [.ref (xad G 8)] (xM σ) none (xM τ) := by
  refine xC_of (by decide) rfl (Nat.le_refl _) (Nat.le_of_ble_eq_true rfl) (fun K hC hE hR _ => ?_)
  refine x_iconst (v := (0 : Int32)) hC dX2_readLines_0 (by decide) <| x_istore_n hC dX2_readLines_1 rfl (by decide) rfl <| ?_
  refine x_sub [1, 0] rfl ?_
  exact B_X2_readLines_2 hC hR hE xFU (0 : Int32) σ h
set_option maxRecDepth 100000 in
set_option maxHeartbeats 4000000 in
theorem B_X2_become_52 {G : xG} {l : Launch} {K : xK} {r : Int32} {τ : xS2} (hC : xCX G mM_X2_become K) (hR : xRd K 104) (hE : xE G K (some (.int r)) (xM τ)) : ∀ (σ : xS2), J_X2_become_52 σ = some (r, τ) → xV G l mM_X2_become K 52 [(0, .ref (xad G 8))] [] (xM σ) := by
  intro σ h
  refine x_aload_n hC dX2_become_52 rfl (j := 0) rfl <| x_iconst (v := (0 : Int32)) hC dX2_become_53 (by decide) <| s_putI hC dX2_become_54 wfl_X2_24 rfl (by decide) (by decide) (by decide) (by decide) (by decide) <| x_aload_n hC dX2_become_57 rfl (j := 0) rfl <| s_getI hC dX2_become_58 wfl_X2_34 rfl (by decide) (by decide) (by decide) (by decide) <| ?_
  obtain ⟨e1, e2⟩ := xso2 h
  subst e1
  subst e2
  exact x_iret (rest := []) hC hE rfl dX2_become_61
set_option maxRecDepth 100000 in
set_option maxHeartbeats 4000000 in
theorem C_X2_become {G : xG} {l : Launch} {σ : xS2} {r : Int32} {τ : xS2} (h : J_X2_become σ = some (r, τ)) : xC G l mM_X2_become 104 [.ref (xad G 8)] (xM σ) (some (.int r)) (xM τ) := by
  refine xC_of (by decide) rfl (Nat.le_refl _) (Nat.le_of_ble_eq_true rfl) (fun K hC hE hR _ => ?_)
  refine x_aload_n hC dX2_become_0 rfl (j := 0) rfl <| x_iconst (v := (0 : Int32)) hC dX2_become_1 (by decide) <| s_putI hC dX2_become_2 wfl_X2_28 rfl (by decide) (by decide) (by decide) (by decide) (by decide) <| x_aload_n hC dX2_become_5 rfl (j := 0) rfl <| x_iconst (v := (0 : Int32)) hC dX2_become_6 (by decide) <| s_putI hC dX2_become_7 wfl_X2_31 rfl (by decide) (by decide) (by decide) (by decide) (by decide) <| ?_
  refine x_aload_n hC dX2_become_10 rfl (j := 0) rfl <| x_iconst (v := (-1 : Int32)) hC dX2_become_11 (by decide) <| s_putI hC dX2_become_12 wfl_X2_34 rfl (by decide) (by decide) (by decide) (by decide) (by decide) <| x_aload_n hC dX2_become_15 rfl (j := 0) rfl <| ?_
  obtain ⟨x1, h1, h⟩ := Option.bind_eq_some_iff.mp h
  refine x_callV hC hR dX2_become_16 mK_X2_readLines wml_X2_37 (C_X2_readLines (σ := (yI (yI (yI σ 8 4 (0 : Int32)) 8 7 (0 : Int32)) 8 8 (-1 : Int32))) h1) (by omega) rfl (by decide) rfl rfl (xlt (by decide)) rfl (Nat.le_of_ble_eq_true rfl) rfl rfl rfl <| ?_
  refine x_aload_n hC dX2_become_19 rfl (j := 0) rfl <| s_getI hC dX2_become_20 wfl_X2_34 rfl (by decide) (by decide) (by decide) (by decide) <| x_iconst (v := (-1 : Int32)) hC dX2_become_23 (by decide) <| ?_
  refine x_icmp_ne (tgt := 52) hC dX2_become_24 (by decide) (fun c2 => ?_) (fun c2 => ?_)
  · replace h := (if_neg c2).symm.trans h
    refine x_sub [0] rfl ?_
    exact B_X2_become_52 hC hR hE x1 h
  · replace h := (if_pos c2).symm.trans h
    refine x_aload_n hC dX2_become_27 rfl (j := 0) rfl <| s_getR (q := 10) hC dX2_become_28 wfl_X2_15 rfl (by decide) (by decide) (by decide) (by decide) (by decide) <| x_iconst (v := (0 : Int32)) hC dX2_become_31 (by decide) <| x_aload_n hC dX2_become_32 rfl (j := 0) rfl <| s_getR (q := 11) hC dX2_become_33 wfl_X2_18 rfl (by decide) (by decide) (by decide) (by decide) (by decide) <| x_iconst (v := (0 : Int32)) hC dX2_become_36 (by decide) <| ?_
    refine x_aload_n hC dX2_become_37 rfl (j := 0) rfl <| s_getI hC dX2_become_38 wfl_X2_28 rfl (by decide) (by decide) (by decide) (by decide) <| ?_
    obtain ⟨h3, h⟩ := xgd_some h
    obtain ⟨h3a, h3b, h3c, h3d, h3e⟩ := xcg_some h3
    refine s_copyi hC hR (by omega) dX2_become_41 wml_X2_40 rfl rfl (by decide) (by decide) h3a h3b h3c h3d h3e (Nat.le_of_ble_eq_true rfl) <| ?_
    refine x_aload_n hC dX2_become_44 rfl (j := 0) rfl <| x_aload_n hC dX2_become_45 rfl (j := 0) rfl <| s_getI hC dX2_become_46 wfl_X2_28 rfl (by decide) (by decide) (by decide) (by decide) <| s_putI hC dX2_become_49 wfl_X2_46 rfl (by decide) (by decide) (by decide) (by decide) (by decide) <| ?_
    refine x_sub [0] rfl ?_
    exact B_X2_become_52 hC hR hE (yI (yCI x1 10 (0 : Int32).toNatClampNeg 11 (0 : Int32).toNatClampNeg (x1.1 8 4).toNatClampNeg) 8 5 ((yCI x1 10 (0 : Int32).toNatClampNeg 11 (0 : Int32).toNatClampNeg (x1.1 8 4).toNatClampNeg).1 8 4)) h
set_option maxRecDepth 100000 in
set_option maxHeartbeats 4000000 in
theorem B_X2_joined_211 {G : xG} {l : Launch} {K : xK} {r : Int32} {σ : xS2} (hC : xCX G mM_X2_joined K) (hR : xRd K 0) (hE : xE G K (some (.int r)) (xM σ)) : J_X2_joined_211 = some r → xV G l mM_X2_joined K 211 [] [] (xM σ) := by
  intro  h
  refine x_iconst (v := (1 : Int32)) hC dX2_joined_211 (by decide) <| x_goto (tgt := 216) hC dX2_joined_212 (by decide) <| ?_
  have e1 := Option.some.inj h
  subst e1
  exact x_iret (rest := []) hC hE rfl dX2_joined_216
set_option maxRecDepth 100000 in
set_option maxHeartbeats 4000000 in
theorem B_X2_joined_203 {G : xG} {l : Launch} {K : xK} {r : Int32} {σ : xS2} (hC : xCX G mM_X2_joined K) (hR : xRd K 0) (hE : xE G K (some (.int r)) (xM σ)) : ∀ (l1 : Int32) (l2 : Int32), J_X2_joined_203 l1 l2 = some r → xV G l mM_X2_joined K 203 [(1, .int l1), (2, .int l2)] [] (xM σ) := by
  intro l1 l2 h
  refine x_iload_n hC dX2_joined_203 rfl (j := 0) rfl <| ?_
  refine x_if_ne (tgt := 211) hC dX2_joined_204 (by decide) (fun c19 => ?_) (fun c19 => ?_)
  · replace h := (if_neg c19).symm.trans h
    refine x_sub [] rfl ?_
    exact B_X2_joined_211 hC hR hE  h
  · replace h := (if_pos c19).symm.trans h
    refine x_iload_n hC dX2_joined_207 rfl (j := 1) rfl <| ?_
    refine x_if_eq (tgt := 215) hC dX2_joined_208 (by decide) (fun c20 => ?_) (fun c20 => ?_)
    · replace h := (if_pos c20).symm.trans h
      refine x_iconst (v := (0 : Int32)) hC dX2_joined_215 (by decide) <| ?_
      have e1 := Option.some.inj h
      subst e1
      exact x_iret (rest := []) hC hE rfl dX2_joined_216
    · replace h := (if_neg c20).symm.trans h
      refine x_sub [] rfl ?_
      exact B_X2_joined_211 hC hR hE  h
set_option maxRecDepth 100000 in
set_option maxHeartbeats 4000000 in
theorem C_X2_joined {G : xG} {l : Launch} {a0 : Int32} {a1 : Int32} {a2 : Int32} {σ : xS2} {r : Int32} (h : J_X2_joined a0 a1 a2 = some r) : xC G l mM_X2_joined 0 [.int a0, .int a1, .int a2] (xM σ) (some (.int r)) (xM σ) := by
  refine xC_of (by decide) rfl (Nat.le_refl _) (Nat.le_of_ble_eq_true rfl) (fun K hC hE hR _ => ?_)
  refine x_iload_n hC dX2_joined_0 rfl (j := 0) rfl <| ?_
  by_cases c1 : a0 = (37 : Int32)
  · replace h := (if_pos c1).symm.trans h
    refine x_tsw (tgt := 144) hC dX2_joined_1 (by decide) (by rw [c1]; decide) ?_
    refine x_iload_n hC dX2_joined_144 rfl (j := 2) rfl <| ?_
    refine x_if_ne (tgt := 152) hC dX2_joined_145 (by decide) (fun c2 => ?_) (fun c2 => ?_)
    · replace h := (if_neg c2).symm.trans h
      refine x_iload_n hC dX2_joined_152 rfl (j := 1) rfl <| x_iload_n hC dX2_joined_153 rfl (j := 2) rfl <| ?_
      obtain ⟨h3, h⟩ := xgd_some h
      refine x_irm hC dX2_joined_154 (xnz_ne h3) <| ?_
      have e1 := Option.some.inj h
      subst e1
      exact x_iret (rest := []) hC hE rfl dX2_joined_155
    · replace h := (if_pos c2).symm.trans h
      refine x_iconst (v := (0 : Int32)) hC dX2_joined_148 (by decide) <| x_goto (tgt := 155) hC dX2_joined_149 (by decide) <| ?_
      have e1 := Option.some.inj h
      subst e1
      exact x_iret (rest := []) hC hE rfl dX2_joined_155
  · replace h := (if_neg c1).symm.trans h
    by_cases c4 : a0 = (38 : Int32)
    · replace h := (if_pos c4).symm.trans h
      refine x_tsw (tgt := 189) hC dX2_joined_1 (by decide) (by rw [c4]; decide) ?_
      refine x_iload_n hC dX2_joined_189 rfl (j := 1) rfl <| ?_
      refine x_if_eq (tgt := 201) hC dX2_joined_190 (by decide) (fun c5 => ?_) (fun c5 => ?_)
      · replace h := (if_pos c5).symm.trans h
        refine x_iconst (v := (0 : Int32)) hC dX2_joined_201 (by decide) <| ?_
        have e1 := Option.some.inj h
        subst e1
        exact x_iret (rest := []) hC hE rfl dX2_joined_202
      · replace h := (if_neg c5).symm.trans h
        refine x_iload_n hC dX2_joined_193 rfl (j := 2) rfl <| ?_
        refine x_if_eq (tgt := 201) hC dX2_joined_194 (by decide) (fun c6 => ?_) (fun c6 => ?_)
        · replace h := (if_pos c6).symm.trans h
          refine x_iconst (v := (0 : Int32)) hC dX2_joined_201 (by decide) <| ?_
          have e1 := Option.some.inj h
          subst e1
          exact x_iret (rest := []) hC hE rfl dX2_joined_202
        · replace h := (if_neg c6).symm.trans h
          refine x_iconst (v := (1 : Int32)) hC dX2_joined_197 (by decide) <| x_goto (tgt := 202) hC dX2_joined_198 (by decide) <| ?_
          have e1 := Option.some.inj h
          subst e1
          exact x_iret (rest := []) hC hE rfl dX2_joined_202
    · replace h := (if_neg c4).symm.trans h
      by_cases c7 : a0 = (42 : Int32)
      · replace h := (if_pos c7).symm.trans h
        refine x_tsw (tgt := 128) hC dX2_joined_1 (by decide) (by rw [c7]; decide) ?_
        refine x_iload_n hC dX2_joined_128 rfl (j := 1) rfl <| x_iload_n hC dX2_joined_129 rfl (j := 2) rfl <| x_imul hC dX2_joined_130 <| ?_
        have e1 := Option.some.inj h
        subst e1
        exact x_iret (rest := []) hC hE rfl dX2_joined_131
      · replace h := (if_neg c7).symm.trans h
        by_cases c8 : a0 = (43 : Int32)
        · replace h := (if_pos c8).symm.trans h
          refine x_tsw (tgt := 120) hC dX2_joined_1 (by decide) (by rw [c8]; decide) ?_
          refine x_iload_n hC dX2_joined_120 rfl (j := 1) rfl <| x_iload_n hC dX2_joined_121 rfl (j := 2) rfl <| x_iadd hC dX2_joined_122 <| ?_
          have e1 := Option.some.inj h
          subst e1
          exact x_iret (rest := []) hC hE rfl dX2_joined_123
        · replace h := (if_neg c8).symm.trans h
          by_cases c9 : a0 = (45 : Int32)
          · replace h := (if_pos c9).symm.trans h
            refine x_tsw (tgt := 124) hC dX2_joined_1 (by decide) (by rw [c9]; decide) ?_
            refine x_iload_n hC dX2_joined_124 rfl (j := 1) rfl <| x_iload_n hC dX2_joined_125 rfl (j := 2) rfl <| x_isub hC dX2_joined_126 <| ?_
            have e1 := Option.some.inj h
            subst e1
            exact x_iret (rest := []) hC hE rfl dX2_joined_127
          · replace h := (if_neg c9).symm.trans h
            by_cases c10 : a0 = (47 : Int32)
            · replace h := (if_pos c10).symm.trans h
              refine x_tsw (tgt := 132) hC dX2_joined_1 (by decide) (by rw [c10]; decide) ?_
              refine x_iload_n hC dX2_joined_132 rfl (j := 2) rfl <| ?_
              refine x_if_ne (tgt := 140) hC dX2_joined_133 (by decide) (fun c11 => ?_) (fun c11 => ?_)
              · replace h := (if_neg c11).symm.trans h
                refine x_iload_n hC dX2_joined_140 rfl (j := 1) rfl <| x_iload_n hC dX2_joined_141 rfl (j := 2) rfl <| ?_
                obtain ⟨h12, h⟩ := xgd_some h
                refine x_idiv hC dX2_joined_142 (xnz_ne h12) <| ?_
                have e1 := Option.some.inj h
                subst e1
                exact x_iret (rest := []) hC hE rfl dX2_joined_143
              · replace h := (if_pos c11).symm.trans h
                refine x_iconst (v := (0 : Int32)) hC dX2_joined_136 (by decide) <| x_goto (tgt := 143) hC dX2_joined_137 (by decide) <| ?_
                have e1 := Option.some.inj h
                subst e1
                exact x_iret (rest := []) hC hE rfl dX2_joined_143
            · replace h := (if_neg c10).symm.trans h
              by_cases c13 : a0 = (60 : Int32)
              · replace h := (if_pos c13).symm.trans h
                refine x_tsw (tgt := 156) hC dX2_joined_1 (by decide) (by rw [c13]; decide) ?_
                refine x_iload_n hC dX2_joined_156 rfl (j := 1) rfl <| x_iload_n hC dX2_joined_157 rfl (j := 2) rfl <| ?_
                refine x_icmp_ge (tgt := 165) hC dX2_joined_158 (by decide) (fun c14 => ?_) (fun c14 => ?_)
                · replace h := (if_pos c14).symm.trans h
                  refine x_iconst (v := (0 : Int32)) hC dX2_joined_165 (by decide) <| ?_
                  have e1 := Option.some.inj h
                  subst e1
                  exact x_iret (rest := []) hC hE rfl dX2_joined_166
                · replace h := (if_neg c14).symm.trans h
                  refine x_iconst (v := (1 : Int32)) hC dX2_joined_161 (by decide) <| x_goto (tgt := 166) hC dX2_joined_162 (by decide) <| ?_
                  have e1 := Option.some.inj h
                  subst e1
                  exact x_iret (rest := []) hC hE rfl dX2_joined_166
              · replace h := (if_neg c13).symm.trans h
                by_cases c15 : a0 = (61 : Int32)
                · replace h := (if_pos c15).symm.trans h
                  refine x_tsw (tgt := 167) hC dX2_joined_1 (by decide) (by rw [c15]; decide) ?_
                  refine x_iload_n hC dX2_joined_167 rfl (j := 1) rfl <| x_iload_n hC dX2_joined_168 rfl (j := 2) rfl <| ?_
                  refine x_icmp_ne (tgt := 176) hC dX2_joined_169 (by decide) (fun c16 => ?_) (fun c16 => ?_)
                  · replace h := (if_neg c16).symm.trans h
                    refine x_iconst (v := (0 : Int32)) hC dX2_joined_176 (by decide) <| ?_
                    have e1 := Option.some.inj h
                    subst e1
                    exact x_iret (rest := []) hC hE rfl dX2_joined_177
                  · replace h := (if_pos c16).symm.trans h
                    refine x_iconst (v := (1 : Int32)) hC dX2_joined_172 (by decide) <| x_goto (tgt := 177) hC dX2_joined_173 (by decide) <| ?_
                    have e1 := Option.some.inj h
                    subst e1
                    exact x_iret (rest := []) hC hE rfl dX2_joined_177
                · replace h := (if_neg c15).symm.trans h
                  by_cases c17 : a0 = (62 : Int32)
                  · replace h := (if_pos c17).symm.trans h
                    refine x_tsw (tgt := 178) hC dX2_joined_1 (by decide) (by rw [c17]; decide) ?_
                    refine x_iload_n hC dX2_joined_178 rfl (j := 1) rfl <| x_iload_n hC dX2_joined_179 rfl (j := 2) rfl <| ?_
                    refine x_icmp_le (tgt := 187) hC dX2_joined_180 (by decide) (fun c18 => ?_) (fun c18 => ?_)
                    · replace h := (if_pos c18).symm.trans h
                      refine x_iconst (v := (0 : Int32)) hC dX2_joined_187 (by decide) <| ?_
                      have e1 := Option.some.inj h
                      subst e1
                      exact x_iret (rest := []) hC hE rfl dX2_joined_188
                    · replace h := (if_neg c18).symm.trans h
                      refine x_iconst (v := (1 : Int32)) hC dX2_joined_183 (by decide) <| x_goto (tgt := 188) hC dX2_joined_184 (by decide) <| ?_
                      have e1 := Option.some.inj h
                      subst e1
                      exact x_iret (rest := []) hC hE rfl dX2_joined_188
                  · replace h := (if_neg c17).symm.trans h
                    refine x_tsw (tgt := 203) hC dX2_joined_1 (by decide) ((xTs_else [37, 38, 42, 43, 45, 47, 60, 61, 62] (by decide) (by decide +kernel) (List.forall_mem_cons.mpr ⟨lv_neT c1 (by decide), (List.forall_mem_cons.mpr ⟨lv_neT c4 (by decide), (List.forall_mem_cons.mpr ⟨lv_neT c7 (by decide), (List.forall_mem_cons.mpr ⟨lv_neT c8 (by decide), (List.forall_mem_cons.mpr ⟨lv_neT c9 (by decide), (List.forall_mem_cons.mpr ⟨lv_neT c10 (by decide), (List.forall_mem_cons.mpr ⟨lv_neT c13 (by decide), (List.forall_mem_cons.mpr ⟨lv_neT c15 (by decide), (List.forall_mem_cons.mpr ⟨lv_neT c17 (by decide), (fun _ z => absurd z List.not_mem_nil)⟩)⟩)⟩)⟩)⟩)⟩)⟩)⟩)⟩)).trans (by decide)) ?_
                    refine x_sub [1, 2] rfl ?_
                    exact B_X2_joined_203 hC hR hE a1 a2 h
set_option maxRecDepth 100000 in
set_option maxHeartbeats 4000000 in
theorem C_X2_named {G : xG} {l : Launch} {a0 : Int32} {a2 : Nat} {a3 : Int32} {σ : xS2} {r : Int32} (ha2 : xSH a2 = (0, 4)) (h : J_X2_named a0 a2 a3 σ = some r) : xC G l mM_X2_named 2 [.int a0, .ref (xad G 1), .ref (xad G a2), .int a3] (xM σ) (some (.int r)) (xM σ) := by
  refine xC_of (by decide) rfl (Nat.le_refl _) (Nat.le_of_ble_eq_true rfl) (fun K hC hE hR _ => ?_)
  refine x_iload_n hC dX2_named_0 rfl (j := 0) rfl <| ?_
  by_cases c1 : a0 = (100 : Int32)
  · replace h := (if_pos c1).symm.trans h
    refine x_tsw (tgt := 106) hC dX2_named_1 (by decide) (by rw [c1]; decide) ?_
    refine x_iload_n hC dX2_named_106 rfl (j := 3) rfl <| ?_
    have e1 := Option.some.inj h
    subst e1
    exact x_iret (rest := []) hC hE rfl dX2_named_107
  · replace h := (if_neg c1).symm.trans h
    by_cases c2 : a0 = (104 : Int32)
    · replace h := (if_pos c2).symm.trans h
      refine x_tsw (tgt := 108) hC dX2_named_1 (by decide) (by rw [c2]; decide) ?_
      refine x_aload_n hC dX2_named_108 rfl (j := 1) rfl <| x_aload_n hC dX2_named_109 rfl (j := 2) rfl <| s_getI hC dX2_named_110 wfl_X2_132 ha2 (by decide) (by decide) (xlo ha2 (by decide)) (by decide) <| ?_
      obtain ⟨x3, h3, h⟩ := Option.bind_eq_some_iff.mp h
      refine x_callV hC hR dX2_named_113 mK_X3_high wml_X2_135 (C_X3_high (a1 := (σ.1 a2 0)) (σ := σ) h3) (by omega) rfl (by decide) rfl rfl (xlt (by decide)) rfl (Nat.le_of_ble_eq_true rfl) rfl rfl rfl <| ?_
      have e1 := Option.some.inj h
      subst e1
      exact x_iret (rest := []) hC hE rfl dX2_named_116
    · replace h := (if_neg c2).symm.trans h
      by_cases c4 : a0 = (111 : Int32)
      · replace h := (if_pos c4).symm.trans h
        refine x_tsw (tgt := 117) hC dX2_named_1 (by decide) (by rw [c4]; decide) ?_
        refine x_aload_n hC dX2_named_117 rfl (j := 2) rfl <| x_aload_n hC dX2_named_118 rfl (j := 1) rfl <| ?_
        obtain ⟨x5, h5, h⟩ := Option.bind_eq_some_iff.mp h
        refine x_callV hC hR dX2_named_119 mK_X0_isOnNewStone wml_X2_95 (C_X0_isOnNewStone (a0 := a2) (σ := σ) ha2 h5) (by omega) ha2 (by decide) rfl rfl (xlo ha2 (by decide)) rfl (Nat.le_of_ble_eq_true rfl) rfl rfl rfl <| ?_
        refine x_if_eq (tgt := 129) hC dX2_named_122 (by decide) (fun c6 => ?_) (fun c6 => ?_)
        · replace h := (if_pos c6).symm.trans h
          refine x_iconst (v := (0 : Int32)) hC dX2_named_129 (by decide) <| ?_
          have e1 := Option.some.inj h
          subst e1
          exact x_iret (rest := []) hC hE rfl dX2_named_130
        · replace h := (if_neg c6).symm.trans h
          refine x_iconst (v := (1 : Int32)) hC dX2_named_125 (by decide) <| x_goto (tgt := 130) hC dX2_named_126 (by decide) <| ?_
          have e1 := Option.some.inj h
          subst e1
          exact x_iret (rest := []) hC hE rfl dX2_named_130
      · replace h := (if_neg c4).symm.trans h
        by_cases c7 : a0 = (115 : Int32)
        · replace h := (if_pos c7).symm.trans h
          refine x_tsw (tgt := 96) hC dX2_named_1 (by decide) (by rw [c7]; decide) ?_
          refine x_aload_n hC dX2_named_96 rfl (j := 2) rfl <| s_getI hC dX2_named_97 wfl_X2_126 ha2 (by decide) (by decide) (xlo ha2 (by decide)) (by decide) <| ?_
          have e1 := Option.some.inj h
          subst e1
          exact x_iret (rest := []) hC hE rfl dX2_named_100
        · replace h := (if_neg c7).symm.trans h
          by_cases c8 : a0 = (117 : Int32)
          · replace h := (if_pos c8).symm.trans h
            refine x_tsw (tgt := 101) hC dX2_named_1 (by decide) (by rw [c8]; decide) ?_
            refine x_aload_n hC dX2_named_101 rfl (j := 2) rfl <| s_getI hC dX2_named_102 wfl_X2_129 ha2 (by decide) (by decide) (xlo ha2 (by decide)) (by decide) <| ?_
            have e1 := Option.some.inj h
            subst e1
            exact x_iret (rest := []) hC hE rfl dX2_named_105
          · replace h := (if_neg c8).symm.trans h
            by_cases c9 : a0 = (119 : Int32)
            · replace h := (if_pos c9).symm.trans h
              refine x_tsw (tgt := 131) hC dX2_named_1 (by decide) (by rw [c9]; decide) ?_
              refine x_aload_n hC dX2_named_131 rfl (j := 1) rfl <| x_iload_n hC dX2_named_132 rfl (j := 3) rfl <| ?_
              obtain ⟨x10, h10, h⟩ := Option.bind_eq_some_iff.mp h
              refine x_callV hC hR dX2_named_133 mK_X3_wind wml_X2_140 (C_X3_wind (a1 := a3) (σ := σ) h10) (by omega) rfl (by decide) rfl rfl (xlt (by decide)) rfl (Nat.le_of_ble_eq_true rfl) rfl rfl rfl <| ?_
              have e1 := Option.some.inj h
              subst e1
              exact x_iret (rest := []) hC hE rfl dX2_named_136
            · replace h := (if_neg c9).symm.trans h
              refine x_tsw (tgt := 137) hC dX2_named_1 (by decide) ((xTs_else [100, 104, 111, 115, 117, 119] (by decide) (by decide +kernel) (List.forall_mem_cons.mpr ⟨lv_neT c1 (by decide), (List.forall_mem_cons.mpr ⟨lv_neT c2 (by decide), (List.forall_mem_cons.mpr ⟨lv_neT c4 (by decide), (List.forall_mem_cons.mpr ⟨lv_neT c7 (by decide), (List.forall_mem_cons.mpr ⟨lv_neT c8 (by decide), (List.forall_mem_cons.mpr ⟨lv_neT c9 (by decide), (fun _ z => absurd z List.not_mem_nil)⟩)⟩)⟩)⟩)⟩)⟩)).trans (by decide)) ?_
              refine x_aload_n hC dX2_named_137 rfl (j := 2) rfl <| s_getI hC dX2_named_138 wfl_X2_132 ha2 (by decide) (by decide) (xlo ha2 (by decide)) (by decide) <| ?_
              have e1 := Option.some.inj h
              subst e1
              exact x_iret (rest := []) hC hE rfl dX2_named_141
set_option maxRecDepth 100000 in
set_option maxHeartbeats 4000000 in
theorem C_X2_pop {G : xG} {l : Launch} {σ : xS2} {r : Int32} {τ : xS2} (h : J_X2_pop σ = some (r, τ)) : xC G l mM_X2_pop 0 [.ref (xad G 8)] (xM σ) (some (.int r)) (xM τ) := by
  refine xC_of (by decide) rfl (Nat.le_refl _) (Nat.le_of_ble_eq_true rfl) (fun K hC hE hR _ => ?_)
  refine x_aload_n hC dX2_pop_0 rfl (j := 0) rfl <| s_getI hC dX2_pop_1 wfl_X2_105 rfl (by decide) (by decide) (by decide) (by decide) <| ?_
  refine x_if_gt (tgt := 9) hC dX2_pop_4 (by decide) (fun c1 => ?_) (fun c1 => ?_)
  · replace h := (if_pos c1).symm.trans h
    refine x_aload_n hC dX2_pop_9 rfl (j := 0) rfl <| x_dup hC dX2_pop_10 rfl <| s_getI hC dX2_pop_11 wfl_X2_105 rfl (by decide) (by decide) (by decide) (by decide) <| x_iconst (v := (1 : Int32)) hC dX2_pop_14 (by decide) <| x_isub hC dX2_pop_15 <| s_putI hC dX2_pop_16 wfl_X2_105 rfl (by decide) (by decide) (by decide) (by decide) (by decide) <| ?_
    refine x_aload_n hC dX2_pop_19 rfl (j := 0) rfl <| s_getR (q := 12) hC dX2_pop_20 wfl_X2_21 rfl (by decide) (by decide) (by decide) (by decide) (by decide) <| x_aload_n hC dX2_pop_23 rfl (j := 0) rfl <| s_getI hC dX2_pop_24 wfl_X2_105 rfl (by decide) (by decide) (by decide) (by decide) <| ?_
    obtain ⟨h2, h⟩ := xgd_some h
    refine s_iald hC dX2_pop_27 rfl (by decide) h2 <| ?_
    obtain ⟨e1, e2⟩ := xso2 h
    subst e1
    subst e2
    exact x_iret (rest := []) hC hE rfl dX2_pop_28
  · replace h := (if_neg c1).symm.trans h
    refine x_iconst (v := (0 : Int32)) hC dX2_pop_7 (by decide) <| ?_
    obtain ⟨e1, e2⟩ := xso2 h
    subst e1
    subst e2
    exact x_iret (rest := []) hC hE rfl dX2_pop_8
set_option maxRecDepth 100000 in
set_option maxHeartbeats 4000000 in
theorem C_X2_push {G : xG} {l : Launch} {a1 : Int32} {σ : xS2} {τ : xS2} (h : J_X2_push a1 σ = some τ) : xC G l mM_X2_push 0 [.ref (xad G 8), .int a1] (xM σ) none (xM τ) := by
  refine xC_of (by decide) rfl (Nat.le_refl _) (Nat.le_of_ble_eq_true rfl) (fun K hC hE hR _ => ?_)
  refine x_aload_n hC dX2_push_0 rfl (j := 0) rfl <| s_getI hC dX2_push_1 wfl_X2_105 rfl (by decide) (by decide) (by decide) (by decide) <| x_aload_n hC dX2_push_4 rfl (j := 0) rfl <| s_getR (q := 12) hC dX2_push_5 wfl_X2_21 rfl (by decide) (by decide) (by decide) (by decide) (by decide) <| x_alen (t := 0) (v := (121 : Int32)) hC dX2_push_8 rfl (by decide) (by decide) (xlt (by decide)) rfl <| ?_
  refine x_icmp_ge (tgt := 32) hC dX2_push_9 (by decide) (fun c1 => ?_) (fun c1 => ?_)
  · replace h := (if_pos c1).symm.trans h
    have e1 := Option.some.inj h
    subst e1
    exact x_vret (rest := []) hC hE rfl dX2_push_32
  · replace h := (if_neg c1).symm.trans h
    refine x_aload_n hC dX2_push_12 rfl (j := 0) rfl <| s_getR (q := 12) hC dX2_push_13 wfl_X2_21 rfl (by decide) (by decide) (by decide) (by decide) (by decide) <| x_aload_n hC dX2_push_16 rfl (j := 0) rfl <| s_getI hC dX2_push_17 wfl_X2_105 rfl (by decide) (by decide) (by decide) (by decide) <| x_iload_n hC dX2_push_20 rfl (j := 1) rfl <| ?_
    obtain ⟨h2, h⟩ := xgd_some h
    refine s_iast hC dX2_push_21 rfl (by decide) h2 <| ?_
    refine x_aload_n hC dX2_push_22 rfl (j := 0) rfl <| x_dup hC dX2_push_23 rfl <| s_getI hC dX2_push_24 wfl_X2_105 rfl (by decide) (by decide) (by decide) (by decide) <| x_iconst (v := (1 : Int32)) hC dX2_push_27 (by decide) <| x_iadd hC dX2_push_28 <| s_putI hC dX2_push_29 wfl_X2_105 rfl (by decide) (by decide) (by decide) (by decide) (by decide) <| ?_
    have e1 := Option.some.inj h
    subst e1
    exact x_vret (rest := []) hC hE rfl dX2_push_32
set_option maxRecDepth 100000 in
set_option maxHeartbeats 4000000 in
theorem B_X2_step_73 {G : xG} {l : Launch} {K : xK} {τ : xS2} (hC : xCX G mM_X2_step K) (hR : xRd K 3) (hE : xE G K none (xM τ)) : ∀ (s1 : Bool) (σ : xS2), J_X2_step_73 s1 σ = some τ → xV G l mM_X2_step K 73 [] [.int (xb s1), .ref (xad G 8)] (xM σ) := by
  intro s1 σ h
  obtain ⟨x12, h12, h⟩ := Option.bind_eq_some_iff.mp h
  refine x_callV hC hR dX2_step_73 mK_X2_push wml_X2_115 (C_X2_push (a1 := (xb s1)) (σ := σ) h12) (by omega) rfl (by decide) rfl rfl (xlt (by decide)) rfl (Nat.le_of_ble_eq_true rfl) rfl rfl rfl <| ?_
  refine x_goto (tgt := 100) hC dX2_step_76 (by decide) <| ?_
  have e1 := Option.some.inj h
  subst e1
  exact x_vret (rest := []) hC hE rfl dX2_step_100
set_option maxRecDepth 100000 in
set_option maxHeartbeats 4000000 in
theorem C_X2_step {G : xG} {l : Launch} {a1 : Int32} {a3 : Nat} {a4 : Int32} {σ : xS2} {τ : xS2} (ha3 : xSH a3 = (0, 4)) (h : J_X2_step a1 a3 a4 σ = some τ) : xC G l mM_X2_step 3 [.ref (xad G 8), .int a1, .ref (xad G 1), .ref (xad G a3), .int a4] (xM σ) none (xM τ) := by
  refine xC_of (by decide) rfl (Nat.le_refl _) (Nat.le_of_ble_eq_true rfl) (fun K hC hE hR _ => ?_)
  refine x_iload_n hC dX2_step_0 rfl (j := 1) rfl <| ?_
  refine x_if_lt (tgt := 12) hC dX2_step_1 (by decide) (fun c1 => ?_) (fun c1 => ?_)
  · replace h := (if_pos c1).symm.trans h
    refine x_iload_n hC dX2_step_12 rfl (j := 1) rfl <| x_ineg hC dX2_step_13 <| x_callS hC hR dX2_step_14 mK_X2_isName wml_X2_88 (C_X2_isName (a0 := (-a1)) (σ := σ)) (by omega) rfl (Nat.le_of_ble_eq_true rfl) rfl rfl rfl <| ?_
    refine x_if_eq (tgt := 36) hC dX2_step_17 (by decide) (fun c3 => ?_) (fun c3 => ?_)
    · replace h := (if_pos c3).symm.trans h
      refine x_iload_n hC dX2_step_36 rfl (j := 1) rfl <| x_bipush (v := (-126 : Int32)) hC dX2_step_37 (by decide) <| ?_
      refine x_icmp_ne (tgt := 54) hC dX2_step_39 (by decide) (fun c4 => ?_) (fun c4 => ?_)
      · replace h := (if_neg c4).symm.trans h
        refine x_iload_n hC dX2_step_54 rfl (j := 1) rfl <| x_bipush (v := (-33 : Int32)) hC dX2_step_55 (by decide) <| ?_
        refine x_icmp_ne (tgt := 79) hC dX2_step_57 (by decide) (fun c5 => ?_) (fun c5 => ?_)
        · replace h := (if_neg c5).symm.trans h
          refine x_aload_n hC dX2_step_79 rfl (j := 0) rfl <| ?_
          obtain ⟨x6, h6, h⟩ := Option.bind_eq_some_iff.mp h
          refine x_callV hC hR dX2_step_80 mK_X2_pop wml_X2_108 (C_X2_pop (σ := σ) h6) (by omega) rfl (by decide) rfl rfl (xlt (by decide)) rfl (Nat.le_of_ble_eq_true rfl) rfl rfl rfl <| ?_
          refine x_istore hC dX2_step_83 (by decide) rfl <| x_aload_n hC dX2_step_85 rfl (j := 1) rfl <| x_iload_n hC dX2_step_86 rfl (j := 2) rfl <| x_ineg hC dX2_step_87 <| x_aload_n hC dX2_step_88 rfl (j := 1) rfl <| ?_
          obtain ⟨x7, h7, h⟩ := Option.bind_eq_some_iff.mp h
          refine x_callV hC hR dX2_step_89 mK_X2_pop wml_X2_108 (C_X2_pop (σ := x6.2) h7) (by omega) rfl (by decide) rfl rfl (xlt (by decide)) rfl (Nat.le_of_ble_eq_true rfl) rfl rfl rfl <| ?_
          refine x_iload hC dX2_step_92 (j := 0) rfl <| ?_
          obtain ⟨x8, h8, h⟩ := Option.bind_eq_some_iff.mp h
          refine x_callS hC hR dX2_step_94 mK_X2_joined wml_X2_122 (C_X2_joined (a0 := (-a1)) (a1 := x7.1) (a2 := x6.1) (σ := x7.2) h8) (by omega) rfl (Nat.le_of_ble_eq_true rfl) rfl rfl rfl <| ?_
          obtain ⟨x9, h9, h⟩ := Option.bind_eq_some_iff.mp h
          refine x_callV hC hR dX2_step_97 mK_X2_push wml_X2_115 (C_X2_push (a1 := x8) (σ := x7.2) h9) (by omega) rfl (by decide) rfl rfl (xlt (by decide)) rfl (Nat.le_of_ble_eq_true rfl) rfl rfl rfl <| ?_
          have e1 := Option.some.inj h
          subst e1
          exact x_vret (rest := []) hC hE rfl dX2_step_100
        · replace h := (if_pos c5).symm.trans h
          refine x_aload_n hC dX2_step_60 rfl (j := 0) rfl <| x_aload_n hC dX2_step_61 rfl (j := 0) rfl <| ?_
          obtain ⟨x10, h10, h⟩ := Option.bind_eq_some_iff.mp h
          refine x_callV hC hR dX2_step_62 mK_X2_pop wml_X2_108 (C_X2_pop (σ := σ) h10) (by omega) rfl (by decide) rfl rfl (xlt (by decide)) rfl (Nat.le_of_ble_eq_true rfl) rfl rfl rfl <| ?_
          refine x_if_ne (tgt := 72) hC dX2_step_65 (by decide) (fun c11 => ?_) (fun c11 => ?_)
          · replace h := (if_neg c11).symm.trans h
            refine x_iconst (v := (0 : Int32)) hC dX2_step_72 (by decide) <| ?_
            refine x_sub [] rfl ?_
            exact B_X2_step_73 hC hR hE false x10.2 h
          · replace h := (if_pos c11).symm.trans h
            refine x_iconst (v := (1 : Int32)) hC dX2_step_68 (by decide) <| x_goto (tgt := 73) hC dX2_step_69 (by decide) <| ?_
            refine x_sub [] rfl ?_
            exact B_X2_step_73 hC hR hE true x10.2 h
      · replace h := (if_pos c4).symm.trans h
        refine x_aload_n hC dX2_step_42 rfl (j := 0) rfl <| x_aload_n hC dX2_step_43 rfl (j := 0) rfl <| ?_
        obtain ⟨x13, h13, h⟩ := Option.bind_eq_some_iff.mp h
        refine x_callV hC hR dX2_step_44 mK_X2_pop wml_X2_108 (C_X2_pop (σ := σ) h13) (by omega) rfl (by decide) rfl rfl (xlt (by decide)) rfl (Nat.le_of_ble_eq_true rfl) rfl rfl rfl <| ?_
        refine x_ineg hC dX2_step_47 <| ?_
        obtain ⟨x14, h14, h⟩ := Option.bind_eq_some_iff.mp h
        refine x_callV hC hR dX2_step_48 mK_X2_push wml_X2_115 (C_X2_push (a1 := (-x13.1)) (σ := x13.2) h14) (by omega) rfl (by decide) rfl rfl (xlt (by decide)) rfl (Nat.le_of_ble_eq_true rfl) rfl rfl rfl <| ?_
        refine x_goto (tgt := 100) hC dX2_step_51 (by decide) <| ?_
        have e1 := Option.some.inj h
        subst e1
        exact x_vret (rest := []) hC hE rfl dX2_step_100
    · replace h := (if_neg c3).symm.trans h
      refine x_aload_n hC dX2_step_20 rfl (j := 0) rfl <| x_iload_n hC dX2_step_21 rfl (j := 1) rfl <| x_ineg hC dX2_step_22 <| x_aload_n hC dX2_step_23 rfl (j := 2) rfl <| x_aload_n hC dX2_step_24 rfl (j := 3) rfl <| x_iload hC dX2_step_25 (j := 4) rfl <| ?_
      obtain ⟨x15, h15, h⟩ := Option.bind_eq_some_iff.mp h
      refine x_callS hC hR dX2_step_27 mK_X2_named wml_X2_118 (C_X2_named (a0 := (-a1)) (a2 := a3) (a3 := a4) (σ := σ) ha3 h15) (by omega) rfl (Nat.le_of_ble_eq_true rfl) rfl rfl rfl <| ?_
      obtain ⟨x16, h16, h⟩ := Option.bind_eq_some_iff.mp h
      refine x_callV hC hR dX2_step_30 mK_X2_push wml_X2_115 (C_X2_push (a1 := x15) (σ := σ) h16) (by omega) rfl (by decide) rfl rfl (xlt (by decide)) rfl (Nat.le_of_ble_eq_true rfl) rfl rfl rfl <| ?_
      refine x_goto (tgt := 100) hC dX2_step_33 (by decide) <| ?_
      have e1 := Option.some.inj h
      subst e1
      exact x_vret (rest := []) hC hE rfl dX2_step_100
  · replace h := (if_neg c1).symm.trans h
    refine x_aload_n hC dX2_step_4 rfl (j := 0) rfl <| x_iload_n hC dX2_step_5 rfl (j := 1) rfl <| ?_
    obtain ⟨x17, h17, h⟩ := Option.bind_eq_some_iff.mp h
    refine x_callV hC hR dX2_step_6 mK_X2_push wml_X2_115 (C_X2_push (a1 := a1) (σ := σ) h17) (by omega) rfl (by decide) rfl rfl (xlt (by decide)) rfl (Nat.le_of_ble_eq_true rfl) rfl rfl rfl <| ?_
    refine x_goto (tgt := 100) hC dX2_step_9 (by decide) <| ?_
    have e1 := Option.some.inj h
    subst e1
    exact x_vret (rest := []) hC hE rfl dX2_step_100
set_option maxRecDepth 100000 in
set_option maxHeartbeats 4000000 in
theorem B_X2_workOut_90 {G : xG} {l : Launch} {K : xK} {r : Int32} {τ : xS2} (hC : xCX G mM_X2_workOut K) (hR : xRd K 4) (hE : xE G K (some (.int r)) (xM τ)) {k11 : Nat → Int32 → Bool → Int32 → xS2 → Option (Int32 × xS2)} (hk11 : ∀ (l2 : Nat) (hl2 : xSH l2 = (0, 4)) (l3 : Int32) (l4 : Bool) (l5 : Int32) (σ : xS2), k11 l2 l3 l4 l5 σ = some (r, τ) → xV G l mM_X2_workOut K 11 [(0, .ref (xad G 8)), (1, .ref (xad G 1)), (2, .ref (xad G l2)), (3, .int l3), (4, .int (xb l4)), (5, .int l5)] [] (xM σ)) : ∀ (l2 : Nat) (hl2 : xSH l2 = (0, 4)) (l3 : Int32) (l4 : Bool) (l5 : Int32) (σ : xS2), J_X2_workOut_90 k11 l2 l3 l4 l5 σ = some (r, τ) → xV G l mM_X2_workOut K 90 [(0, .ref (xad G 8)), (1, .ref (xad G 1)), (2, .ref (xad G l2)), (3, .int l3), (4, .int (xb l4)), (5, .int l5)] [] (xM σ) := by
  intro l2 hl2 l3 l4 l5 σ h
  refine x_iinc hC dX2_workOut_90 (j := 5) (v := (l5 + (1 : Int32))) rfl rfl (by decide) rfl <| x_goto (tgt := 11) hC dX2_workOut_93 (by decide) <| ?_
  refine x_sub [1, 2, 3, 4, 5, 0] rfl ?_
  exact hk11 l2 hl2 l3 l4 (l5 + (1 : Int32)) σ h
set_option maxRecDepth 100000 in
set_option maxHeartbeats 4000000 in
theorem B_X2_workOut_76 {G : xG} {l : Launch} {K : xK} {r : Int32} {τ : xS2} (hC : xCX G mM_X2_workOut K) (hR : xRd K 4) (hE : xE G K (some (.int r)) (xM τ)) {k11 : Nat → Int32 → Bool → Int32 → xS2 → Option (Int32 × xS2)} (hk11 : ∀ (l2 : Nat) (hl2 : xSH l2 = (0, 4)) (l3 : Int32) (l4 : Bool) (l5 : Int32) (σ : xS2), k11 l2 l3 l4 l5 σ = some (r, τ) → xV G l mM_X2_workOut K 11 [(0, .ref (xad G 8)), (1, .ref (xad G 1)), (2, .ref (xad G l2)), (3, .int l3), (4, .int (xb l4)), (5, .int l5)] [] (xM σ)) : ∀ (l2 : Nat) (hl2 : xSH l2 = (0, 4)) (l3 : Int32) (l5 : Int32) (s0 : Bool) (σ : xS2), J_X2_workOut_76 k11 l2 l3 l5 s0 σ = some (r, τ) → xV G l mM_X2_workOut K 76 [(0, .ref (xad G 8)), (1, .ref (xad G 1)), (2, .ref (xad G l2)), (3, .int l3), (5, .int l5)] [.int (xb s0)] (xM σ) := by
  intro l2 hl2 l3 l5 s0 σ h
  refine x_istore hC dX2_workOut_76 (by decide) rfl <| x_goto (tgt := 90) hC dX2_workOut_78 (by decide) <| ?_
  refine x_sub [1, 2, 3, 4, 0, 5] rfl ?_
  exact B_X2_workOut_90 hC hR hE hk11 l2 hl2 l3 s0 l5 σ h
set_option maxRecDepth 100000 in
set_option maxHeartbeats 4000000 in
theorem B_X2_workOut_11 {G : xG} {l : Launch} {K : xK} {r : Int32} {τ : xS2} (hC : xCX G mM_X2_workOut K) (hR : xRd K 4) (hE : xE G K (some (.int r)) (xM τ)) : ∀ (f : Nat) (l2 : Nat) (hl2 : xSH l2 = (0, 4)) (l3 : Int32) (l4 : Bool) (l5 : Int32) (σ : xS2), J_X2_workOut_11 f l2 l3 l4 l5 σ = some (r, τ) → xV G l mM_X2_workOut K 11 [(0, .ref (xad G 8)), (1, .ref (xad G 1)), (2, .ref (xad G l2)), (3, .int l3), (4, .int (xb l4)), (5, .int l5)] [] (xM σ) := by
  intro f
  induction f with
  | zero => intro l2 hl2 l3 l4 l5 σ h; cases h
  | succ f ih =>
    intro l2 hl2 l3 l4 l5 σ h
    refine x_iload hC dX2_workOut_11 (j := 5) rfl <| x_aload_n hC dX2_workOut_13 rfl (j := 0) rfl <| s_getI hC dX2_workOut_14 wfl_X2_46 rfl (by decide) (by decide) (by decide) (by decide) <| ?_
    refine x_icmp_ge (tgt := 96) hC dX2_workOut_17 (by decide) (fun c1 => ?_) (fun c1 => ?_)
    · replace h := (if_pos c1).symm.trans h
      refine x_iconst (v := (0 : Int32)) hC dX2_workOut_96 (by decide) <| ?_
      obtain ⟨e1, e2⟩ := xso2 h
      subst e1
      subst e2
      exact x_iret (rest := []) hC hE rfl dX2_workOut_97
    · replace h := (if_neg c1).symm.trans h
      refine x_aload_n hC dX2_workOut_20 rfl (j := 0) rfl <| s_getR (q := 11) hC dX2_workOut_21 wfl_X2_18 rfl (by decide) (by decide) (by decide) (by decide) (by decide) <| x_iload hC dX2_workOut_24 (j := 5) rfl <| ?_
      obtain ⟨h2, h⟩ := xgd_some h
      refine s_iald hC dX2_workOut_26 rfl (by decide) h2 <| ?_
      refine x_istore hC dX2_workOut_27 (by decide) rfl <| x_iload hC dX2_workOut_29 (j := 0) rfl <| x_bipush (v := (-59 : Int32)) hC dX2_workOut_31 (by decide) <| ?_
      refine x_icmp_ne (tgt := 52) hC dX2_workOut_33 (by decide) (fun c3 => ?_) (fun c3 => ?_)
      · replace h := (if_neg c3).symm.trans h
        refine x_iload hC dX2_workOut_52 (j := 5) rfl <| ?_
        refine x_if_ne (tgt := 90) hC dX2_workOut_54 (by decide) (fun c4 => ?_) (fun c4 => ?_)
        · replace h := (if_neg c4).symm.trans h
          refine x_sub [1, 2, 3, 4, 5, 6] rfl ?_
          exact B_X2_workOut_90 hC hR hE ih l2 hl2 l3 l4 l5 σ h
        · replace h := (if_pos c4).symm.trans h
          refine x_iload hC dX2_workOut_57 (j := 0) rfl <| x_bipush (v := (-63 : Int32)) hC dX2_workOut_59 (by decide) <| ?_
          refine x_icmp_ne (tgt := 81) hC dX2_workOut_61 (by decide) (fun c5 => ?_) (fun c5 => ?_)
          · replace h := (if_neg c5).symm.trans h
            refine x_aload_n hC dX2_workOut_81 rfl (j := 1) rfl <| x_iload hC dX2_workOut_82 (j := 0) rfl <| x_aload_n hC dX2_workOut_84 rfl (j := 2) rfl <| x_aload_n hC dX2_workOut_85 rfl (j := 3) rfl <| x_iload_n hC dX2_workOut_86 rfl (j := 4) rfl <| ?_
            obtain ⟨x6, h6, h⟩ := Option.bind_eq_some_iff.mp h
            refine x_callV hC hR dX2_workOut_87 mK_X2_step wml_X2_111 (C_X2_step (a1 := (σ.1 11 l5.toNatClampNeg)) (a3 := l2) (a4 := l3) (σ := σ) hl2 h6) (by omega) rfl (by decide) rfl rfl (xlt (by decide)) rfl (Nat.le_of_ble_eq_true rfl) rfl rfl rfl <| ?_
            refine x_sub [1, 2, 3, 4, 5, 6] rfl ?_
            exact B_X2_workOut_90 hC hR hE ih l2 hl2 l3 l4 l5 x6 h
          · replace h := (if_pos c5).symm.trans h
            refine x_aload_n hC dX2_workOut_64 rfl (j := 1) rfl <| ?_
            obtain ⟨x7, h7, h⟩ := Option.bind_eq_some_iff.mp h
            refine x_callV hC hR dX2_workOut_65 mK_X2_pop wml_X2_108 (C_X2_pop (σ := σ) h7) (by omega) rfl (by decide) rfl rfl (xlt (by decide)) rfl (Nat.le_of_ble_eq_true rfl) rfl rfl rfl <| ?_
            refine x_if_ne (tgt := 75) hC dX2_workOut_68 (by decide) (fun c8 => ?_) (fun c8 => ?_)
            · replace h := (if_neg c8).symm.trans h
              refine x_iconst (v := (0 : Int32)) hC dX2_workOut_75 (by decide) <| ?_
              refine x_sub [1, 2, 3, 4, 6] rfl ?_
              exact B_X2_workOut_76 hC hR hE ih l2 hl2 l3 l5 false x7.2 h
            · replace h := (if_pos c8).symm.trans h
              refine x_iconst (v := (1 : Int32)) hC dX2_workOut_71 (by decide) <| x_goto (tgt := 76) hC dX2_workOut_72 (by decide) <| ?_
              refine x_sub [1, 2, 3, 4, 6] rfl ?_
              exact B_X2_workOut_76 hC hR hE ih l2 hl2 l3 l5 true x7.2 h
      · replace h := (if_pos c3).symm.trans h
        refine x_iload hC dX2_workOut_36 (j := 5) rfl <| ?_
        refine x_if_ne (tgt := 46) hC dX2_workOut_38 (by decide) (fun c9 => ?_) (fun c9 => ?_)
        · replace h := (if_neg c9).symm.trans h
          refine x_iconst (v := (0 : Int32)) hC dX2_workOut_46 (by decide) <| x_istore hC dX2_workOut_47 (by decide) rfl <| x_goto (tgt := 90) hC dX2_workOut_49 (by decide) <| ?_
          refine x_sub [2, 3, 4, 5, 0, 6] rfl ?_
          exact B_X2_workOut_90 hC hR hE ih l2 hl2 l3 false l5 σ h
        · replace h := (if_pos c9).symm.trans h
          refine x_aload_n hC dX2_workOut_41 rfl (j := 1) rfl <| ?_
          obtain ⟨x10, h10, h⟩ := Option.bind_eq_some_iff.mp h
          refine x_callV hC hR dX2_workOut_42 mK_X2_pop wml_X2_108 (C_X2_pop (σ := σ) h10) (by omega) rfl (by decide) rfl rfl (xlt (by decide)) rfl (Nat.le_of_ble_eq_true rfl) rfl rfl rfl <| ?_
          obtain ⟨e1, e2⟩ := xso2 h
          subst e1
          subst e2
          exact x_iret (rest := []) hC hE rfl dX2_workOut_45
set_option maxRecDepth 100000 in
set_option maxHeartbeats 4000000 in
theorem C_X2_workOut {G : xG} {l : Launch} {a2 : Nat} {a3 : Int32} {σ : xS2} {r : Int32} {τ : xS2} (ha2 : xSH a2 = (0, 4)) (h : J_X2_workOut a2 a3 σ = some (r, τ)) : xC G l mM_X2_workOut 4 [.ref (xad G 8), .ref (xad G 1), .ref (xad G a2), .int a3] (xM σ) (some (.int r)) (xM τ) := by
  refine xC_of (by decide) rfl (Nat.le_refl _) (Nat.le_of_ble_eq_true rfl) (fun K hC hE hR _ => ?_)
  refine x_iconst (v := (0 : Int32)) hC dX2_workOut_0 (by decide) <| x_istore hC dX2_workOut_1 (by decide) rfl <| x_aload_n hC dX2_workOut_3 rfl (j := 1) rfl <| x_iconst (v := (0 : Int32)) hC dX2_workOut_4 (by decide) <| s_putI hC dX2_workOut_5 wfl_X2_105 rfl (by decide) (by decide) (by decide) (by decide) (by decide) <| x_iconst (v := (0 : Int32)) hC dX2_workOut_8 (by decide) <| ?_
  refine x_istore hC dX2_workOut_9 (by decide) rfl <| ?_
  refine x_sub [2, 3, 4, 5, 1, 0] rfl ?_
  exact B_X2_workOut_11 hC hR hE xFU a2 ha2 a3 false (0 : Int32) (yI σ 8 6 (0 : Int32)) h
set_option maxRecDepth 100000 in
set_option maxHeartbeats 4000000 in
theorem C_X2_orderFor {G : xG} {l : Launch} {a2 : Nat} {a3 : Int32} {σ : xS2} {r : Int32} {τ : xS2} (ha2 : xSH a2 = (0, 4)) (h : J_X2_orderFor a2 a3 σ = some (r, τ)) : xC G l mM_X2_orderFor 5 [.ref (xad G 8), .ref (xad G 1), .ref (xad G a2), .int a3] (xM σ) (some (.int r)) (xM τ) := by
  refine xC_of (by decide) rfl (Nat.le_refl _) (Nat.le_of_ble_eq_true rfl) (fun K hC hE hR _ => ?_)
  refine x_aload_n hC dX2_orderFor_0 rfl (j := 0) rfl <| s_getI hC dX2_orderFor_1 wfl_X2_46 rfl (by decide) (by decide) (by decide) (by decide) <| ?_
  refine x_if_ne (tgt := 21) hC dX2_orderFor_4 (by decide) (fun c1 => ?_) (fun c1 => ?_)
  · replace h := (if_neg c1).symm.trans h
    refine x_aload_n hC dX2_orderFor_21 rfl (j := 0) rfl <| x_aload_n hC dX2_orderFor_22 rfl (j := 1) rfl <| x_aload_n hC dX2_orderFor_23 rfl (j := 2) rfl <| x_iload_n hC dX2_orderFor_24 rfl (j := 3) rfl <| ?_
    obtain ⟨x2, h2, h⟩ := Option.bind_eq_some_iff.mp h
    refine x_callV hC hR dX2_orderFor_25 mK_X2_workOut wml_X2_101 (C_X2_workOut (a2 := a2) (a3 := a3) (σ := σ) ha2 h2) (by omega) rfl (by decide) rfl rfl (xlt (by decide)) rfl (Nat.le_of_ble_eq_true rfl) rfl rfl rfl <| ?_
    refine x_istore hC dX2_orderFor_28 (by decide) rfl <| x_iload hC dX2_orderFor_30 (j := 0) rfl <| ?_
    refine x_if_ge (tgt := 39) hC dX2_orderFor_32 (by decide) (fun c3 => ?_) (fun c3 => ?_)
    · replace h := (if_pos c3).symm.trans h
      refine x_iload hC dX2_orderFor_39 (j := 0) rfl <| x_bipush (v := (6 : Int32)) hC dX2_orderFor_41 (by decide) <| x_irm hC dX2_orderFor_43 (by decide) <| ?_
      obtain ⟨e1, e2⟩ := xso2 h
      subst e1
      subst e2
      exact x_iret (rest := []) hC hE rfl dX2_orderFor_44
    · replace h := (if_neg c3).symm.trans h
      refine x_iconst (v := (0 : Int32)) hC dX2_orderFor_35 (by decide) <| x_goto (tgt := 44) hC dX2_orderFor_36 (by decide) <| ?_
      obtain ⟨e1, e2⟩ := xso2 h
      subst e1
      subst e2
      exact x_iret (rest := []) hC hE rfl dX2_orderFor_44
  · replace h := (if_pos c1).symm.trans h
    refine x_aload_n hC dX2_orderFor_7 rfl (j := 2) rfl <| x_aload_n hC dX2_orderFor_8 rfl (j := 1) rfl <| ?_
    obtain ⟨x4, h4, h⟩ := Option.bind_eq_some_iff.mp h
    refine x_callV hC hR dX2_orderFor_9 mK_X0_isOnNewStone wml_X2_95 (C_X0_isOnNewStone (a0 := a2) (σ := σ) ha2 h4) (by omega) ha2 (by decide) rfl rfl (xlo ha2 (by decide)) rfl (Nat.le_of_ble_eq_true rfl) rfl rfl rfl <| ?_
    refine x_if_eq (tgt := 19) hC dX2_orderFor_12 (by decide) (fun c5 => ?_) (fun c5 => ?_)
    · replace h := (if_pos c5).symm.trans h
      refine x_iconst (v := (0 : Int32)) hC dX2_orderFor_19 (by decide) <| ?_
      obtain ⟨e1, e2⟩ := xso2 h
      subst e1
      subst e2
      exact x_iret (rest := []) hC hE rfl dX2_orderFor_20
    · replace h := (if_neg c5).symm.trans h
      refine x_iconst (v := (5 : Int32)) hC dX2_orderFor_15 (by decide) <| x_goto (tgt := 20) hC dX2_orderFor_16 (by decide) <| ?_
      obtain ⟨e1, e2⟩ := xso2 h
      subst e1
      subst e2
      exact x_iret (rest := []) hC hE rfl dX2_orderFor_20
set_option maxRecDepth 100000 in
set_option maxHeartbeats 4000000 in
theorem C_X2_take {G : xG} {l : Launch} {a1 : Int32} {σ : xS2} {r : Bool} {τ : xS2} (h : J_X2_take a1 σ = some (r, τ)) : xC G l mM_X2_take 0 [.ref (xad G 8), .int a1] (xM σ) (some (.int (xb r))) (xM τ) := by
  refine xC_of (by decide) rfl (Nat.le_refl _) (Nat.le_of_ble_eq_true rfl) (fun K hC hE hR _ => ?_)
  refine x_aload_n hC dX2_take_0 rfl (j := 0) rfl <| s_getI hC dX2_take_1 wfl_X2_24 rfl (by decide) (by decide) (by decide) (by decide) <| x_bipush (v := (120 : Int32)) hC dX2_take_4 (by decide) <| ?_
  refine x_icmp_lt (tgt := 11) hC dX2_take_6 (by decide) (fun c1 => ?_) (fun c1 => ?_)
  · replace h := (if_pos c1).symm.trans h
    refine x_aload_n hC dX2_take_11 rfl (j := 0) rfl <| s_getR (q := 9) hC dX2_take_12 wfl_X2_11 rfl (by decide) (by decide) (by decide) (by decide) (by decide) <| x_aload_n hC dX2_take_15 rfl (j := 0) rfl <| s_getI hC dX2_take_16 wfl_X2_24 rfl (by decide) (by decide) (by decide) (by decide) <| x_iload_n hC dX2_take_19 rfl (j := 1) rfl <| ?_
    obtain ⟨h2, h⟩ := xgd_some h
    refine s_iast hC dX2_take_20 rfl (by decide) h2 <| ?_
    refine x_aload_n hC dX2_take_21 rfl (j := 0) rfl <| x_dup hC dX2_take_22 rfl <| s_getI hC dX2_take_23 wfl_X2_24 rfl (by decide) (by decide) (by decide) (by decide) <| x_iconst (v := (1 : Int32)) hC dX2_take_26 (by decide) <| x_iadd hC dX2_take_27 <| s_putI hC dX2_take_28 wfl_X2_24 rfl (by decide) (by decide) (by decide) (by decide) (by decide) <| ?_
    refine x_iconst (v := (1 : Int32)) hC dX2_take_31 (by decide) <| ?_
    obtain ⟨e1, e2⟩ := xso2 h
    subst e1
    subst e2
    exact x_zret (rest := []) hC hE rfl (by decide) dX2_take_32
  · replace h := (if_neg c1).symm.trans h
    refine x_iconst (v := (0 : Int32)) hC dX2_take_9 (by decide) <| ?_
    obtain ⟨e1, e2⟩ := xso2 h
    subst e1
    subst e2
    exact x_zret (rest := []) hC hE rfl (by decide) dX2_take_10
set_option maxRecDepth 100000 in
set_option maxHeartbeats 4000000 in
theorem B_X3_hollows_21 {G : xG} {l : Launch} {K : xK} {r : Int32} {σ : xS2} (hC : xCX G mM_X3_hollows K) (hR : xRd K 2) (hE : xE G K (some (.int r)) (xM σ)) {k4 : Int32 → Int32 → xS2 → Option Int32} (hk4 : ∀ (l1 : Int32) (l2 : Int32), k4 l1 l2 σ = some r → xV G l mM_X3_hollows K 4 [(0, .ref (xad G 1)), (1, .int l1), (2, .int l2)] [] (xM σ)) : ∀ (l1 : Int32) (l2 : Int32), J_X3_hollows_21 k4 l1 l2 σ = some r → xV G l mM_X3_hollows K 21 [(0, .ref (xad G 1)), (1, .int l1), (2, .int l2)] [] (xM σ) := by
  intro l1 l2 h
  refine x_iinc hC dX3_hollows_21 (j := 2) (v := (l2 + (1 : Int32))) rfl rfl (by decide) rfl <| x_goto (tgt := 4) hC dX3_hollows_24 (by decide) <| ?_
  refine x_sub [1, 2, 0] rfl ?_
  exact hk4 l1 (l2 + (1 : Int32)) h
set_option maxRecDepth 100000 in
set_option maxHeartbeats 4000000 in
theorem B_X3_hollows_4 {G : xG} {l : Launch} {K : xK} {r : Int32} {σ : xS2} (hC : xCX G mM_X3_hollows K) (hR : xRd K 2) (hE : xE G K (some (.int r)) (xM σ)) : ∀ (f : Nat) (l1 : Int32) (l2 : Int32), J_X3_hollows_4 f l1 l2 σ = some r → xV G l mM_X3_hollows K 4 [(0, .ref (xad G 1)), (1, .int l1), (2, .int l2)] [] (xM σ) := by
  intro f
  induction f with
  | zero => intro l1 l2 h; cases h
  | succ f ih =>
    intro l1 l2 h
    refine x_iload_n hC dX3_hollows_4 rfl (j := 2) rfl <| x_bipush (v := (36 : Int32)) hC dX3_hollows_5 (by decide) <| ?_
    refine x_icmp_ge (tgt := 27) hC dX3_hollows_7 (by decide) (fun c1 => ?_) (fun c1 => ?_)
    · replace h := (if_pos c1).symm.trans h
      refine x_iload_n hC dX3_hollows_27 rfl (j := 1) rfl <| ?_
      have e1 := Option.some.inj h
      subst e1
      exact x_iret (rest := []) hC hE rfl dX3_hollows_28
    · replace h := (if_neg c1).symm.trans h
      refine x_aload_n hC dX3_hollows_10 rfl (j := 0) rfl <| x_iload_n hC dX3_hollows_11 rfl (j := 2) rfl <| ?_
      obtain ⟨x2, h2, h⟩ := Option.bind_eq_some_iff.mp h
      refine x_callV hC hR dX3_hollows_12 mK_X3_isHollow wml_X3_44 (C_X3_isHollow (a1 := l2) (σ := σ) h2) (by omega) rfl (by decide) rfl rfl (xlt (by decide)) rfl (Nat.le_of_ble_eq_true rfl) rfl rfl rfl <| ?_
      refine x_if_eq (tgt := 21) hC dX3_hollows_15 (by decide) (fun c3 => ?_) (fun c3 => ?_)
      · replace h := (if_pos c3).symm.trans h
        refine x_sub [0, 1, 2] rfl ?_
        exact B_X3_hollows_21 hC hR hE ih l1 l2 h
      · replace h := (if_neg c3).symm.trans h
        refine x_iinc hC dX3_hollows_18 (j := 1) (v := (l1 + (1 : Int32))) rfl rfl (by decide) rfl <| ?_
        refine x_sub [1, 0, 2] rfl ?_
        exact B_X3_hollows_21 hC hR hE ih (l1 + (1 : Int32)) l2 h
set_option maxRecDepth 100000 in
set_option maxHeartbeats 4000000 in
theorem C_X3_hollows {G : xG} {l : Launch} {σ : xS2} {r : Int32} (h : J_X3_hollows σ = some r) : xC G l mM_X3_hollows 2 [.ref (xad G 1)] (xM σ) (some (.int r)) (xM σ) := by
  refine xC_of (by decide) rfl (Nat.le_refl _) (Nat.le_of_ble_eq_true rfl) (fun K hC hE hR _ => ?_)
  refine x_iconst (v := (0 : Int32)) hC dX3_hollows_0 (by decide) <| x_istore_n hC dX3_hollows_1 rfl (by decide) rfl <| x_iconst (v := (0 : Int32)) hC dX3_hollows_2 (by decide) <| x_istore_n hC dX3_hollows_3 rfl (by decide) rfl <| ?_
  refine x_sub [2, 1, 0] rfl ?_
  exact B_X3_hollows_4 hC hR hE xFU (0 : Int32) (0 : Int32) h
set_option maxRecDepth 100000 in
set_option maxHeartbeats 4000000 in
theorem C_X3_isCell {G : xG} {l : Launch} {a0 : Int32} {σ : xS2} : xC G l mM_X3_isCell 0 [.int a0] (xM σ) (some (.int (xb (J_X3_isCell a0)))) (xM σ) := by
  refine xC_of (by decide) rfl (Nat.le_refl _) (Nat.le_of_ble_eq_true rfl) (fun K hC hE hR _ => ?_)
  obtain ⟨r, h⟩ : ∃ r, J_X3_isCell a0 = r := ⟨_, rfl⟩
  rw [h] at hE
  refine x_iload_n hC dX3_isCell_0 rfl (j := 0) rfl <| ?_
  refine x_if_lt (tgt := 14) hC dX3_isCell_1 (by decide) (fun c1 => ?_) (fun c1 => ?_)
  · replace h := (if_pos c1).symm.trans h
    refine x_iconst (v := (0 : Int32)) hC dX3_isCell_14 (by decide) <| ?_
    subst h
    exact x_zret (rest := []) hC hE rfl (by decide) dX3_isCell_15
  · replace h := (if_neg c1).symm.trans h
    refine x_iload_n hC dX3_isCell_4 rfl (j := 0) rfl <| x_bipush (v := (36 : Int32)) hC dX3_isCell_5 (by decide) <| ?_
    refine x_icmp_ge (tgt := 14) hC dX3_isCell_7 (by decide) (fun c2 => ?_) (fun c2 => ?_)
    · replace h := (if_pos c2).symm.trans h
      refine x_iconst (v := (0 : Int32)) hC dX3_isCell_14 (by decide) <| ?_
      subst h
      exact x_zret (rest := []) hC hE rfl (by decide) dX3_isCell_15
    · replace h := (if_neg c2).symm.trans h
      refine x_iconst (v := (1 : Int32)) hC dX3_isCell_10 (by decide) <| x_goto (tgt := 15) hC dX3_isCell_11 (by decide) <| ?_
      subst h
      exact x_zret (rest := []) hC hE rfl (by decide) dX3_isCell_15
set_option maxRecDepth 100000 in
set_option maxHeartbeats 4000000 in
theorem C_X3_mayBe {G : xG} {l : Launch} {a0 : Int32} {a1 : Int32} {σ : xS2} {r : Bool} (h : J_X3_mayBe a0 a1 σ = some r) : xC G l mM_X3_mayBe 0 [.int a0, .int a1] (xM σ) (some (.int (xb r))) (xM σ) := by
  refine xC_of (by decide) rfl (Nat.le_refl _) (Nat.le_of_ble_eq_true rfl) (fun K hC hE hR _ => ?_)
  refine x_iload_n hC dX3_mayBe_0 rfl (j := 0) rfl <| ?_
  refine x_if_lt (tgt := 34) hC dX3_mayBe_1 (by decide) (fun c1 => ?_) (fun c1 => ?_)
  · replace h := (if_pos c1).symm.trans h
    refine x_iconst (v := (0 : Int32)) hC dX3_mayBe_34 (by decide) <| ?_
    have e1 := Option.some.inj h
    subst e1
    exact x_zret (rest := []) hC hE rfl (by decide) dX3_mayBe_35
  · replace h := (if_neg c1).symm.trans h
    refine x_iload_n hC dX3_mayBe_4 rfl (j := 0) rfl <| x_gets (j := 2) hC dX3_mayBe_5 rfl wst_X3_21 <| x_talen (v := (6 : Int32)) hC dX3_mayBe_8 rfl (by decide) <| ?_
    refine x_icmp_ge (tgt := 34) hC dX3_mayBe_9 (by decide) (fun c2 => ?_) (fun c2 => ?_)
    · replace h := (if_pos c2).symm.trans h
      refine x_iconst (v := (0 : Int32)) hC dX3_mayBe_34 (by decide) <| ?_
      have e1 := Option.some.inj h
      subst e1
      exact x_zret (rest := []) hC hE rfl (by decide) dX3_mayBe_35
    · replace h := (if_neg c2).symm.trans h
      refine x_iload_n hC dX3_mayBe_12 rfl (j := 1) rfl <| x_gets (j := 2) hC dX3_mayBe_13 rfl wst_X3_21 <| x_iload_n hC dX3_mayBe_16 rfl (j := 0) rfl <| ?_
      obtain ⟨h3, h⟩ := xgd_some h
      refine x_tald (v := (xsv 2 a0)) hC dX3_mayBe_17 rfl (N := 6) rfl h3 rfl <| ?_
      refine x_icmp_lt (tgt := 34) hC dX3_mayBe_18 (by decide) (fun c4 => ?_) (fun c4 => ?_)
      · replace h := (if_pos c4).symm.trans h
        refine x_iconst (v := (0 : Int32)) hC dX3_mayBe_34 (by decide) <| ?_
        have e1 := Option.some.inj h
        subst e1
        exact x_zret (rest := []) hC hE rfl (by decide) dX3_mayBe_35
      · replace h := (if_neg c4).symm.trans h
        refine x_iload_n hC dX3_mayBe_21 rfl (j := 1) rfl <| x_gets (j := 3) hC dX3_mayBe_22 rfl wst_X3_24 <| x_iload_n hC dX3_mayBe_25 rfl (j := 0) rfl <| ?_
        obtain ⟨h5, h⟩ := xgd_some h
        refine x_tald (v := (xsv 3 a0)) hC dX3_mayBe_26 rfl (N := 6) rfl h5 rfl <| ?_
        refine x_icmp_gt (tgt := 34) hC dX3_mayBe_27 (by decide) (fun c6 => ?_) (fun c6 => ?_)
        · replace h := (if_pos c6).symm.trans h
          refine x_iconst (v := (0 : Int32)) hC dX3_mayBe_34 (by decide) <| ?_
          have e1 := Option.some.inj h
          subst e1
          exact x_zret (rest := []) hC hE rfl (by decide) dX3_mayBe_35
        · replace h := (if_neg c6).symm.trans h
          refine x_iconst (v := (1 : Int32)) hC dX3_mayBe_30 (by decide) <| x_goto (tgt := 35) hC dX3_mayBe_31 (by decide) <| ?_
          have e1 := Option.some.inj h
          subst e1
          exact x_zret (rest := []) hC hE rfl (by decide) dX3_mayBe_35
set_option maxRecDepth 100000 in
set_option maxHeartbeats 4000000 in
theorem C_X3_odds {G : xG} {l : Launch} {σ : xS2} : xC G l mM_X3_odds 0 [.ref (xad G 1)] (xM σ) (some (.int (J_X3_odds σ))) (xM σ) := by
  refine xC_of (by decide) rfl (Nat.le_refl _) (Nat.le_of_ble_eq_true rfl) (fun K hC hE hR _ => ?_)
  obtain ⟨r, h⟩ : ∃ r, J_X3_odds σ = r := ⟨_, rfl⟩
  rw [h] at hE
  refine x_aload_n hC dX3_odds_0 rfl (j := 0) rfl <| s_getR (q := 2) hC dX3_odds_1 wfl_X3_9 rfl (by decide) (by decide) (by decide) (by decide) (by decide) <| x_sipush (v := (193 : Int32)) hC dX3_odds_4 (by decide) <| s_iald hC dX3_odds_7 rfl (by decide) (by decide) <| ?_
  show xV _ _ _ _ _ _ (.int (σ.1 2 193) :: _) _
  subst h
  exact x_iret (rest := []) hC hE rfl dX3_odds_8
set_option maxRecDepth 100000 in
set_option maxHeartbeats 4000000 in
theorem C_X3_place {G : xG} {l : Launch} {a0 : Int32} {a1 : Int32} {σ : xS2} {r : Int32} (h : J_X3_place a0 a1 σ = some r) : xC G l mM_X3_place 0 [.int a0, .int a1] (xM σ) (some (.int r)) (xM σ) := by
  refine xC_of (by decide) rfl (Nat.le_refl _) (Nat.le_of_ble_eq_true rfl) (fun K hC hE hR _ => ?_)
  refine x_iload_n hC dX3_place_0 rfl (j := 1) rfl <| ?_
  refine x_if_lt (tgt := 25) hC dX3_place_1 (by decide) (fun c1 => ?_) (fun c1 => ?_)
  · replace h := (if_pos c1).symm.trans h
    refine x_iconst (v := (-1 : Int32)) hC dX3_place_25 (by decide) <| ?_
    have e1 := Option.some.inj h
    subst e1
    exact x_iret (rest := []) hC hE rfl dX3_place_26
  · replace h := (if_neg c1).symm.trans h
    refine x_iload_n hC dX3_place_4 rfl (j := 1) rfl <| x_gets (j := 0) hC dX3_place_5 rfl wst_X3_15 <| x_talen (v := (6 : Int32)) hC dX3_place_8 rfl (by decide) <| ?_
    refine x_icmp_ge (tgt := 25) hC dX3_place_9 (by decide) (fun c2 => ?_) (fun c2 => ?_)
    · replace h := (if_pos c2).symm.trans h
      refine x_iconst (v := (-1 : Int32)) hC dX3_place_25 (by decide) <| ?_
      have e1 := Option.some.inj h
      subst e1
      exact x_iret (rest := []) hC hE rfl dX3_place_26
    · replace h := (if_neg c2).symm.trans h
      refine x_iload_n hC dX3_place_12 rfl (j := 0) rfl <| ?_
      refine x_if_lt (tgt := 25) hC dX3_place_13 (by decide) (fun c3 => ?_) (fun c3 => ?_)
      · replace h := (if_pos c3).symm.trans h
        refine x_iconst (v := (-1 : Int32)) hC dX3_place_25 (by decide) <| ?_
        have e1 := Option.some.inj h
        subst e1
        exact x_iret (rest := []) hC hE rfl dX3_place_26
      · replace h := (if_neg c3).symm.trans h
        refine x_iload_n hC dX3_place_16 rfl (j := 0) rfl <| x_gets (j := 0) hC dX3_place_17 rfl wst_X3_15 <| x_iload_n hC dX3_place_20 rfl (j := 1) rfl <| ?_
        obtain ⟨h4, h⟩ := xgd_some h
        refine x_tald (v := (xsv 0 a1)) hC dX3_place_21 rfl (N := 6) rfl h4 rfl <| ?_
        refine x_icmp_lt (tgt := 27) hC dX3_place_22 (by decide) (fun c5 => ?_) (fun c5 => ?_)
        · replace h := (if_pos c5).symm.trans h
          refine x_gets (j := 1) hC dX3_place_27 rfl wst_X3_18 <| x_iload_n hC dX3_place_30 rfl (j := 1) rfl <| ?_
          obtain ⟨h6, h⟩ := xgd_some h
          refine x_tald (v := (xsv 1 a1)) hC dX3_place_31 rfl (N := 6) rfl h6 rfl <| ?_
          refine x_iload_n hC dX3_place_32 rfl (j := 0) rfl <| x_iadd hC dX3_place_33 <| ?_
          have e1 := Option.some.inj h
          subst e1
          exact x_iret (rest := []) hC hE rfl dX3_place_34
        · replace h := (if_neg c5).symm.trans h
          refine x_iconst (v := (-1 : Int32)) hC dX3_place_25 (by decide) <| ?_
          have e1 := Option.some.inj h
          subst e1
          exact x_iret (rest := []) hC hE rfl dX3_place_26
set_option maxRecDepth 100000 in
set_option maxHeartbeats 4000000 in
theorem B_X3_stones_21 {G : xG} {l : Launch} {K : xK} {r : Int32} {σ : xS2} (hC : xCX G mM_X3_stones K) (hR : xRd K 1) (hE : xE G K (some (.int r)) (xM σ)) {k4 : Int32 → Int32 → xS2 → Option Int32} (hk4 : ∀ (l1 : Int32) (l2 : Int32), k4 l1 l2 σ = some r → xV G l mM_X3_stones K 4 [(0, .ref (xad G 1)), (1, .int l1), (2, .int l2)] [] (xM σ)) : ∀ (l1 : Int32) (l2 : Int32), J_X3_stones_21 k4 l1 l2 σ = some r → xV G l mM_X3_stones K 21 [(0, .ref (xad G 1)), (1, .int l1), (2, .int l2)] [] (xM σ) := by
  intro l1 l2 h
  refine x_iinc hC dX3_stones_21 (j := 2) (v := (l2 + (1 : Int32))) rfl rfl (by decide) rfl <| x_goto (tgt := 4) hC dX3_stones_24 (by decide) <| ?_
  refine x_sub [1, 2, 0] rfl ?_
  exact hk4 l1 (l2 + (1 : Int32)) h
set_option maxRecDepth 100000 in
set_option maxHeartbeats 4000000 in
theorem B_X3_stones_4 {G : xG} {l : Launch} {K : xK} {r : Int32} {σ : xS2} (hC : xCX G mM_X3_stones K) (hR : xRd K 1) (hE : xE G K (some (.int r)) (xM σ)) : ∀ (f : Nat) (l1 : Int32) (l2 : Int32), J_X3_stones_4 f l1 l2 σ = some r → xV G l mM_X3_stones K 4 [(0, .ref (xad G 1)), (1, .int l1), (2, .int l2)] [] (xM σ) := by
  intro f
  induction f with
  | zero => intro l1 l2 h; cases h
  | succ f ih =>
    intro l1 l2 h
    refine x_iload_n hC dX3_stones_4 rfl (j := 2) rfl <| x_bipush (v := (36 : Int32)) hC dX3_stones_5 (by decide) <| ?_
    refine x_icmp_ge (tgt := 27) hC dX3_stones_7 (by decide) (fun c1 => ?_) (fun c1 => ?_)
    · replace h := (if_pos c1).symm.trans h
      refine x_iload_n hC dX3_stones_27 rfl (j := 1) rfl <| ?_
      have e1 := Option.some.inj h
      subst e1
      exact x_iret (rest := []) hC hE rfl dX3_stones_28
    · replace h := (if_neg c1).symm.trans h
      refine x_aload_n hC dX3_stones_10 rfl (j := 0) rfl <| x_iload_n hC dX3_stones_11 rfl (j := 2) rfl <| ?_
      obtain ⟨x2, h2, h⟩ := Option.bind_eq_some_iff.mp h
      refine x_callV hC hR dX3_stones_12 mK_X3_isStone wml_X3_40 (C_X3_isStone (a1 := l2) (σ := σ) h2) (by omega) rfl (by decide) rfl rfl (xlt (by decide)) rfl (Nat.le_of_ble_eq_true rfl) rfl rfl rfl <| ?_
      refine x_if_eq (tgt := 21) hC dX3_stones_15 (by decide) (fun c3 => ?_) (fun c3 => ?_)
      · replace h := (if_pos c3).symm.trans h
        refine x_sub [0, 1, 2] rfl ?_
        exact B_X3_stones_21 hC hR hE ih l1 l2 h
      · replace h := (if_neg c3).symm.trans h
        refine x_iinc hC dX3_stones_18 (j := 1) (v := (l1 + (1 : Int32))) rfl rfl (by decide) rfl <| ?_
        refine x_sub [1, 0, 2] rfl ?_
        exact B_X3_stones_21 hC hR hE ih (l1 + (1 : Int32)) l2 h
set_option maxRecDepth 100000 in
set_option maxHeartbeats 4000000 in
theorem C_X3_stones {G : xG} {l : Launch} {σ : xS2} {r : Int32} (h : J_X3_stones σ = some r) : xC G l mM_X3_stones 1 [.ref (xad G 1)] (xM σ) (some (.int r)) (xM σ) := by
  refine xC_of (by decide) rfl (Nat.le_refl _) (Nat.le_of_ble_eq_true rfl) (fun K hC hE hR _ => ?_)
  refine x_iconst (v := (0 : Int32)) hC dX3_stones_0 (by decide) <| x_istore_n hC dX3_stones_1 rfl (by decide) rfl <| x_iconst (v := (0 : Int32)) hC dX3_stones_2 (by decide) <| x_istore_n hC dX3_stones_3 rfl (by decide) rfl <| ?_
  refine x_sub [2, 1, 0] rfl ?_
  exact B_X3_stones_4 hC hR hE xFU (0 : Int32) (0 : Int32) h
set_option maxRecDepth 100000 in
set_option maxHeartbeats 4000000 in
theorem C_X3_told {G : xG} {l : Launch} {a1 : Int32} {σ : xS2} {r : Int32} (h : J_X3_told a1 σ = some r) : xC G l mM_X3_told 0 [.ref (xad G 1), .int a1] (xM σ) (some (.int r)) (xM σ) := by
  refine xC_of (by decide) rfl (Nat.le_refl _) (Nat.le_of_ble_eq_true rfl) (fun K hC hE hR _ => ?_)
  refine x_iload_n hC dX3_told_0 rfl (j := 1) rfl <| ?_
  refine x_if_lt (tgt := 22) hC dX3_told_1 (by decide) (fun c1 => ?_) (fun c1 => ?_)
  · replace h := (if_pos c1).symm.trans h
    refine x_iconst (v := (0 : Int32)) hC dX3_told_22 (by decide) <| ?_
    have e1 := Option.some.inj h
    subst e1
    exact x_iret (rest := []) hC hE rfl dX3_told_23
  · replace h := (if_neg c1).symm.trans h
    refine x_iload_n hC dX3_told_4 rfl (j := 1) rfl <| x_aload_n hC dX3_told_5 rfl (j := 0) rfl <| s_getR (q := 2) hC dX3_told_6 wfl_X3_9 rfl (by decide) (by decide) (by decide) (by decide) (by decide) <| x_alen (t := 0) (v := (194 : Int32)) hC dX3_told_9 rfl (by decide) (by decide) (xlt (by decide)) rfl <| ?_
    refine x_icmp_ge (tgt := 22) hC dX3_told_10 (by decide) (fun c2 => ?_) (fun c2 => ?_)
    · replace h := (if_pos c2).symm.trans h
      refine x_iconst (v := (0 : Int32)) hC dX3_told_22 (by decide) <| ?_
      have e1 := Option.some.inj h
      subst e1
      exact x_iret (rest := []) hC hE rfl dX3_told_23
    · replace h := (if_neg c2).symm.trans h
      refine x_aload_n hC dX3_told_13 rfl (j := 0) rfl <| s_getR (q := 2) hC dX3_told_14 wfl_X3_9 rfl (by decide) (by decide) (by decide) (by decide) (by decide) <| x_iload_n hC dX3_told_17 rfl (j := 1) rfl <| ?_
      obtain ⟨h3, h⟩ := xgd_some h
      refine s_iald hC dX3_told_18 rfl (by decide) h3 <| ?_
      refine x_goto (tgt := 23) hC dX3_told_19 (by decide) <| ?_
      have e1 := Option.some.inj h
      subst e1
      exact x_iret (rest := []) hC hE rfl dX3_told_23
set_option maxRecDepth 100000 in
set_option maxHeartbeats 4000000 in
theorem C_X4_arrive {G : xG} {l : Launch} {a0 : Nat} {a1 : Nat} {σ : xS2} {τ : xS2} (ha0 : (xSH a0).1 = 10) (ha1 : xSH a1 = (0, 4)) (h : J_X4_arrive a0 a1 σ = some τ) : xC G l mM_X4_arrive 1 [.ref (xad G a0), .ref (xad G a1)] (xM σ) none (xM τ) := by
  refine xC_of (by decide) rfl (Nat.le_refl _) (Nat.le_of_ble_eq_true rfl) (fun K hC hE hR _ => ?_)
  refine x_aload_n hC dX4_arrive_0 rfl (j := 1) rfl <| s_getI hC dX4_arrive_1 wfl_X4_58 ha1 (by decide) (by decide) (xlo ha1 (by decide)) (by decide) <| x_bipush (v := (10 : Int32)) hC dX4_arrive_4 (by decide) <| x_imul hC dX4_arrive_6 <| x_aload_n hC dX4_arrive_7 rfl (j := 1) rfl <| s_getI hC dX4_arrive_8 wfl_X4_61 ha1 (by decide) (by decide) (xlo ha1 (by decide)) (by decide) <| ?_
  refine x_iadd hC dX4_arrive_11 <| x_istore_n hC dX4_arrive_12 rfl (by decide) rfl <| x_iload_n hC dX4_arrive_13 rfl (j := 0) rfl <| ?_
  refine x_if_lt (tgt := 36) hC dX4_arrive_14 (by decide) (fun c1 => ?_) (fun c1 => ?_)
  · replace h := (if_pos c1).symm.trans h
    have e1 := Option.some.inj h
    subst e1
    exact x_vret (rest := []) hC hE rfl dX4_arrive_36
  · replace h := (if_neg c1).symm.trans h
    refine x_iload_n hC dX4_arrive_17 rfl (j := 0) rfl <| x_aload_n hC dX4_arrive_18 rfl (j := 1) rfl <| x_alen (t := 0) (v := (Int32.ofNat (xSH a0).2)) hC dX4_arrive_19 (xkd ha0) (by decide) (by decide) (xlo (xkd ha0) (by decide)) rfl <| ?_
    refine x_icmp_ge (tgt := 36) hC dX4_arrive_20 (by decide) (fun c2 => ?_) (fun c2 => ?_)
    · replace h := (if_pos c2).symm.trans h
      have e1 := Option.some.inj h
      subst e1
      exact x_vret (rest := []) hC hE rfl dX4_arrive_36
    · replace h := (if_neg c2).symm.trans h
      refine x_aload_n hC dX4_arrive_23 rfl (j := 1) rfl <| x_iload_n hC dX4_arrive_24 rfl (j := 0) rfl <| x_aload_n hC dX4_arrive_25 rfl (j := 1) rfl <| x_iload_n hC dX4_arrive_26 rfl (j := 0) rfl <| ?_
      obtain ⟨h3, h⟩ := xgd_some h
      refine s_iald hC dX4_arrive_27 (xkd ha0) (xlo (xkd ha0) (by decide)) h3 <| ?_
      refine x_aload_n hC dX4_arrive_28 rfl (j := 2) rfl <| s_getI hC dX4_arrive_29 wfl_X4_64 ha1 (by decide) (by decide) (xlo ha1 (by decide)) (by decide) <| x_mmax hC hR (by omega) dX4_arrive_32 wml_X4_67 (Nat.le_of_ble_eq_true rfl) <| ?_
      obtain ⟨h4, h⟩ := xgd_some h
      refine s_iast hC dX4_arrive_35 (xkd ha0) (xlo (xkd ha0) (by decide)) h4 <| ?_
      have e1 := Option.some.inj h
      subst e1
      exact x_vret (rest := []) hC hE rfl dX4_arrive_36
set_option maxRecDepth 100000 in
set_option maxHeartbeats 4000000 in
theorem B_X4_goOn_114 {G : xG} {l : Launch} {K : xK} {τ : xS2} (hC : xCX G mM_X4_goOn K) (hR : xRd K 4) (hE : xE G K none (xM τ)) {k24 : Int32 → Int32 → Int32 → Int32 → xS2 → Option xS2} (hk24 : ∀ (l2 : Int32) (l3 : Int32) (l4 : Int32) (l5 : Int32) (σ : xS2), k24 l2 l3 l4 l5 σ = some τ → xV G l mM_X4_goOn K 24 [(0, .ref (xad G 19)), (1, .ref (xad G 1)), (2, .int l2), (3, .int l3), (4, .int l4), (5, .int l5)] [] (xM σ)) : ∀ (l2 : Int32) (l3 : Int32) (l4 : Int32) (l5 : Int32) (σ : xS2), J_X4_goOn_114 k24 l2 l3 l4 l5 σ = some τ → xV G l mM_X4_goOn K 114 [(0, .ref (xad G 19)), (1, .ref (xad G 1)), (2, .int l2), (3, .int l3), (4, .int l4), (5, .int l5)] [] (xM σ) := by
  intro l2 l3 l4 l5 σ h
  refine x_iinc hC dX4_goOn_114 (j := 5) (v := (l5 + (1 : Int32))) rfl rfl (by decide) rfl <| x_goto (tgt := 24) hC dX4_goOn_117 (by decide) <| ?_
  refine x_sub [1, 2, 3, 4, 5, 0] rfl ?_
  exact hk24 l2 l3 l4 (l5 + (1 : Int32)) σ h
set_option maxRecDepth 100000 in
set_option maxHeartbeats 4000000 in
theorem B_X4_goOn_108 {G : xG} {l : Launch} {K : xK} {τ : xS2} (hC : xCX G mM_X4_goOn K) (hR : xRd K 4) (hE : xE G K none (xM τ)) {k24 : Int32 → Int32 → Int32 → Int32 → xS2 → Option xS2} (hk24 : ∀ (l2 : Int32) (l3 : Int32) (l4 : Int32) (l5 : Int32) (σ : xS2), k24 l2 l3 l4 l5 σ = some τ → xV G l mM_X4_goOn K 24 [(0, .ref (xad G 19)), (1, .ref (xad G 1)), (2, .int l2), (3, .int l3), (4, .int l4), (5, .int l5)] [] (xM σ)) {k50 : Int32 → Int32 → Int32 → Int32 → Int32 → xS2 → Option xS2} (hk50 : ∀ (l2 : Int32) (l3 : Int32) (l4 : Int32) (l5 : Int32) (l6 : Int32) (σ : xS2), k50 l2 l3 l4 l5 l6 σ = some τ → xV G l mM_X4_goOn K 50 [(0, .ref (xad G 19)), (1, .ref (xad G 1)), (2, .int l2), (3, .int l3), (4, .int l4), (5, .int l5), (6, .int l6)] [] (xM σ)) : ∀ (l2 : Int32) (l3 : Int32) (l4 : Int32) (l5 : Int32) (l6 : Int32) (σ : xS2), J_X4_goOn_108 k24 k50 l2 l3 l4 l5 l6 σ = some τ → xV G l mM_X4_goOn K 108 [(0, .ref (xad G 19)), (1, .ref (xad G 1)), (2, .int l2), (3, .int l3), (4, .int l4), (5, .int l5), (6, .int l6)] [] (xM σ) := by
  intro l2 l3 l4 l5 l6 σ h
  refine x_iinc hC dX4_goOn_108 (j := 6) (v := (l6 + (1 : Int32))) rfl rfl (by decide) rfl <| x_goto (tgt := 50) hC dX4_goOn_111 (by decide) <| ?_
  refine x_sub [1, 2, 3, 4, 5, 6, 0] rfl ?_
  exact hk50 l2 l3 l4 l5 (l6 + (1 : Int32)) σ h
set_option maxRecDepth 100000 in
set_option maxHeartbeats 4000000 in
theorem B_X4_goOn_50 {G : xG} {l : Launch} {K : xK} {τ : xS2} (hC : xCX G mM_X4_goOn K) (hR : xRd K 4) (hE : xE G K none (xM τ)) {k24 : Int32 → Int32 → Int32 → Int32 → xS2 → Option xS2} (hk24 : ∀ (l2 : Int32) (l3 : Int32) (l4 : Int32) (l5 : Int32) (σ : xS2), k24 l2 l3 l4 l5 σ = some τ → xV G l mM_X4_goOn K 24 [(0, .ref (xad G 19)), (1, .ref (xad G 1)), (2, .int l2), (3, .int l3), (4, .int l4), (5, .int l5)] [] (xM σ)) : ∀ (f : Nat) (l2 : Int32) (l3 : Int32) (l4 : Int32) (l5 : Int32) (l6 : Int32) (σ : xS2), J_X4_goOn_50 k24 f l2 l3 l4 l5 l6 σ = some τ → xV G l mM_X4_goOn K 50 [(0, .ref (xad G 19)), (1, .ref (xad G 1)), (2, .int l2), (3, .int l3), (4, .int l4), (5, .int l5), (6, .int l6)] [] (xM σ) := by
  intro f
  induction f with
  | zero => intro l2 l3 l4 l5 l6 σ h; cases h
  | succ f ih =>
    intro l2 l3 l4 l5 l6 σ h
    refine x_iload hC dX4_goOn_50 (j := 6) rfl <| x_iconst (v := (4 : Int32)) hC dX4_goOn_52 (by decide) <| ?_
    refine x_icmp_gt (tgt := 114) hC dX4_goOn_53 (by decide) (fun c8 => ?_) (fun c8 => ?_)
    · replace h := (if_pos c8).symm.trans h
      refine x_sub [0, 1, 2, 3, 4, 5] rfl ?_
      exact B_X4_goOn_114 hC hR hE hk24 l2 l3 l4 l5 σ h
    · replace h := (if_neg c8).symm.trans h
      refine x_aload_n hC dX4_goOn_56 rfl (j := 0) rfl <| s_getR (q := 22) hC dX4_goOn_57 wfl_X4_23 rfl (by decide) (by decide) (by decide) (by decide) (by decide) <| x_iload hC dX4_goOn_60 (j := 5) rfl <| x_bipush (v := (10 : Int32)) hC dX4_goOn_62 (by decide) <| x_idiv hC dX4_goOn_64 (by decide) <| x_aload_n hC dX4_goOn_65 rfl (j := 0) rfl <| ?_
      refine s_getR (q := 20) hC dX4_goOn_66 wfl_X4_13 rfl (by decide) (by decide) (by decide) (by decide) (by decide) <| x_iload hC dX4_goOn_69 (j := 5) rfl <| ?_
      obtain ⟨h9, h⟩ := xgd_some h
      refine s_iald hC dX4_goOn_71 rfl (by decide) h9 <| ?_
      refine x_iload hC dX4_goOn_72 (j := 5) rfl <| x_bipush (v := (10 : Int32)) hC dX4_goOn_74 (by decide) <| x_irm hC dX4_goOn_76 (by decide) <| ?_
      obtain ⟨x10, h10, h⟩ := Option.bind_eq_some_iff.mp h
      refine x_callV hC hR dX4_goOn_77 mK_X0_place wml_X4_76 (C_X0_place (a0 := 22) (a1 := (l5 / (10 : Int32))) (a2 := (σ.1 20 l5.toNatClampNeg)) (a3 := (xrm l5 (10 : Int32))) (σ := σ) rfl h10) (by omega) rfl (by decide) rfl rfl (xlt (by decide)) rfl (Nat.le_of_ble_eq_true rfl) rfl rfl rfl <| ?_
      refine x_aload_n hC dX4_goOn_80 rfl (j := 0) rfl <| s_getR (q := 22) hC dX4_goOn_81 wfl_X4_23 rfl (by decide) (by decide) (by decide) (by decide) (by decide) <| x_aload_n hC dX4_goOn_84 rfl (j := 1) rfl <| x_iload_n hC dX4_goOn_85 rfl (j := 2) rfl <| x_iload hC dX4_goOn_86 (j := 6) rfl <| x_iload_n hC dX4_goOn_88 rfl (j := 3) rfl <| ?_
      refine x_iload hC dX4_goOn_89 (j := 4) rfl <| ?_
      obtain ⟨x11, h11, h⟩ := Option.bind_eq_some_iff.mp h
      refine x_callV hC hR dX4_goOn_91 mK_X0_liveUnder wml_X4_80 (C_X0_liveUnder (a0 := 22) (a2 := l2) (a3 := l6) (a4 := l3) (a5 := l4) (σ := x10) rfl h11) (by omega) rfl (by decide) rfl rfl (xlt (by decide)) rfl (Nat.le_of_ble_eq_true rfl) rfl rfl rfl <| ?_
      refine x_if_eq (tgt := 108) hC dX4_goOn_94 (by decide) (fun c12 => ?_) (fun c12 => ?_)
      · replace h := (if_pos c12).symm.trans h
        refine x_sub [0, 1, 2, 3, 4, 5, 6] rfl ?_
        exact B_X4_goOn_108 hC hR hE hk24 ih l2 l3 l4 l5 l6 x11.2 h
      · replace h := (if_neg c12).symm.trans h
        refine x_aload_n hC dX4_goOn_97 rfl (j := 0) rfl <| s_getR (q := 21) hC dX4_goOn_98 wfl_X4_17 rfl (by decide) (by decide) (by decide) (by decide) (by decide) <| x_aload_n hC dX4_goOn_101 rfl (j := 0) rfl <| s_getR (q := 22) hC dX4_goOn_102 wfl_X4_23 rfl (by decide) (by decide) (by decide) (by decide) (by decide) <| ?_
        obtain ⟨x13, h13, h⟩ := Option.bind_eq_some_iff.mp h
        refine x_callS hC hR dX4_goOn_105 mK_X4_arrive wml_X4_33 (C_X4_arrive (a0 := 21) (a1 := 22) (σ := x11.2) rfl rfl h13) (by omega) rfl (Nat.le_of_ble_eq_true rfl) rfl rfl rfl <| ?_
        refine x_sub [0, 1, 2, 3, 4, 5, 6] rfl ?_
        exact B_X4_goOn_108 hC hR hE hk24 ih l2 l3 l4 l5 l6 x13 h
set_option maxRecDepth 100000 in
set_option maxHeartbeats 4000000 in
theorem B_X4_goOn_24 {G : xG} {l : Launch} {K : xK} {τ : xS2} (hC : xCX G mM_X4_goOn K) (hR : xRd K 4) (hE : xE G K none (xM τ)) : ∀ (f : Nat) (l2 : Int32) (l3 : Int32) (l4 : Int32) (l5 : Int32) (σ : xS2), J_X4_goOn_24 f l2 l3 l4 l5 σ = some τ → xV G l mM_X4_goOn K 24 [(0, .ref (xad G 19)), (1, .ref (xad G 1)), (2, .int l2), (3, .int l3), (4, .int l4), (5, .int l5)] [] (xM σ) := by
  intro f
  induction f with
  | zero => intro l2 l3 l4 l5 σ h; cases h
  | succ f ih =>
    intro l2 l3 l4 l5 σ h
    refine x_iload hC dX4_goOn_24 (j := 5) rfl <| x_aload_n hC dX4_goOn_26 rfl (j := 0) rfl <| s_getR (q := 20) hC dX4_goOn_27 wfl_X4_13 rfl (by decide) (by decide) (by decide) (by decide) (by decide) <| x_alen (t := 0) (v := (360 : Int32)) hC dX4_goOn_30 rfl (by decide) (by decide) (xlt (by decide)) rfl <| ?_
    refine x_icmp_ge (tgt := 120) hC dX4_goOn_31 (by decide) (fun c4 => ?_) (fun c4 => ?_)
    · replace h := (if_pos c4).symm.trans h
      refine x_aload_n hC dX4_goOn_120 rfl (j := 0) rfl <| s_getR (q := 21) hC dX4_goOn_121 wfl_X4_17 rfl (by decide) (by decide) (by decide) (by decide) (by decide) <| x_iconst (v := (0 : Int32)) hC dX4_goOn_124 (by decide) <| x_aload_n hC dX4_goOn_125 rfl (j := 0) rfl <| s_getR (q := 20) hC dX4_goOn_126 wfl_X4_13 rfl (by decide) (by decide) (by decide) (by decide) (by decide) <| x_iconst (v := (0 : Int32)) hC dX4_goOn_129 (by decide) <| ?_
      refine x_aload_n hC dX4_goOn_130 rfl (j := 0) rfl <| s_getR (q := 20) hC dX4_goOn_131 wfl_X4_13 rfl (by decide) (by decide) (by decide) (by decide) (by decide) <| x_alen (t := 0) (v := (360 : Int32)) hC dX4_goOn_134 rfl (by decide) (by decide) (xlt (by decide)) rfl <| ?_
      obtain ⟨h5, h⟩ := xgd_some h
      obtain ⟨h5a, h5b, h5c, h5d, h5e⟩ := xcg_some h5
      refine s_copyi hC hR (by omega) dX4_goOn_135 wml_X4_84 rfl rfl (by decide) (by decide) h5a h5b h5c h5d h5e (Nat.le_of_ble_eq_true rfl) <| ?_
      have e1 := Option.some.inj h
      subst e1
      exact x_vret (rest := []) hC hE rfl dX4_goOn_138
    · replace h := (if_neg c4).symm.trans h
      refine x_aload_n hC dX4_goOn_34 rfl (j := 0) rfl <| s_getR (q := 20) hC dX4_goOn_35 wfl_X4_13 rfl (by decide) (by decide) (by decide) (by decide) (by decide) <| x_iload hC dX4_goOn_38 (j := 5) rfl <| ?_
      obtain ⟨h6, h⟩ := xgd_some h
      refine s_iald hC dX4_goOn_40 rfl (by decide) h6 <| ?_
      refine x_if_ge (tgt := 47) hC dX4_goOn_41 (by decide) (fun c7 => ?_) (fun c7 => ?_)
      · replace h := (if_pos c7).symm.trans h
        refine x_iconst (v := (0 : Int32)) hC dX4_goOn_47 (by decide) <| x_istore hC dX4_goOn_48 (by decide) rfl <| ?_
        refine x_sub [1, 2, 3, 4, 5, 6, 0] rfl ?_
        exact B_X4_goOn_50 hC hR hE ih xFU l2 l3 l4 l5 (0 : Int32) σ h
      · replace h := (if_neg c7).symm.trans h
        refine x_goto (tgt := 114) hC dX4_goOn_44 (by decide) <| ?_
        refine x_sub [0, 1, 2, 3, 4, 5] rfl ?_
        exact B_X4_goOn_114 hC hR hE ih l2 l3 l4 l5 σ h
set_option maxRecDepth 100000 in
set_option maxHeartbeats 4000000 in
theorem C_X4_goOn {G : xG} {l : Launch} {a2 : Int32} {σ : xS2} {τ : xS2} (h : J_X4_goOn a2 σ = some τ) : xC G l mM_X4_goOn 4 [.ref (xad G 19), .ref (xad G 1), .int a2] (xM σ) none (xM τ) := by
  refine xC_of (by decide) rfl (Nat.le_refl _) (Nat.le_of_ble_eq_true rfl) (fun K hC hE hR _ => ?_)
  refine x_aload_n hC dX4_goOn_0 rfl (j := 0) rfl <| s_getR (q := 21) hC dX4_goOn_1 wfl_X4_17 rfl (by decide) (by decide) (by decide) (by decide) (by decide) <| x_iconst (v := (-1 : Int32)) hC dX4_goOn_4 (by decide) <| ?_
  obtain ⟨x1, h1, h⟩ := Option.bind_eq_some_iff.mp h
  refine x_callS hC hR dX4_goOn_5 mK_J7_fill_53178 wml_X4_27 (C_J7_fill_53178 (a0 := 21) (a1 := (-1 : Int32)) (σ := σ) rfl h1) (by omega) rfl (Nat.le_of_ble_eq_true rfl) rfl rfl rfl <| ?_
  refine x_aload_n hC dX4_goOn_8 rfl (j := 1) rfl <| x_iload_n hC dX4_goOn_9 rfl (j := 2) rfl <| ?_
  obtain ⟨x2, h2, h⟩ := Option.bind_eq_some_iff.mp h
  refine x_callV hC hR dX4_goOn_10 mK_X3_sun wml_X4_70 (C_X3_sun (a1 := a2) (σ := x1) h2) (by omega) rfl (by decide) rfl rfl (xlt (by decide)) rfl (Nat.le_of_ble_eq_true rfl) rfl rfl rfl <| ?_
  refine x_istore_n hC dX4_goOn_13 rfl (by decide) rfl <| x_aload_n hC dX4_goOn_14 rfl (j := 2) rfl <| x_iload_n hC dX4_goOn_15 rfl (j := 3) rfl <| ?_
  obtain ⟨x3, h3, h⟩ := Option.bind_eq_some_iff.mp h
  refine x_callV hC hR dX4_goOn_16 mK_X3_wind wml_X4_73 (C_X3_wind (a1 := a2) (σ := x1) h3) (by omega) rfl (by decide) rfl rfl (xlt (by decide)) rfl (Nat.le_of_ble_eq_true rfl) rfl rfl rfl <| ?_
  refine x_istore hC dX4_goOn_19 (by decide) rfl <| x_iconst (v := (0 : Int32)) hC dX4_goOn_21 (by decide) <| x_istore hC dX4_goOn_22 (by decide) rfl <| ?_
  refine x_sub [3, 4, 5, 2, 1, 0] rfl ?_
  exact B_X4_goOn_24 hC hR hE xFU a2 x2 x3 (0 : Int32) x1 h
