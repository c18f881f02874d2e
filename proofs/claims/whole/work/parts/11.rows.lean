set_option maxRecDepth 100000 in
set_option maxHeartbeats 4000000 in
theorem B_X4_mostIn_4 {G : xG} {l : Launch} {K : xK} {r : Int32} {σ : xS2} (hC : xCX G mM_X4_mostIn K) (hR : xRd K 1) (hE : xE G K (some (.int r)) (xM σ)) : ∀ (f : Nat) (l1 : Int32) (l2 : Int32) (l3 : Int32), J_X4_mostIn_4 f l1 l2 l3 σ = some r → xV G l mM_X4_mostIn K 4 [(0, .ref (xad G 19)), (1, .int l1), (2, .int l2), (3, .int l3)] [] (xM σ) := by
  intro f
  induction f with
  | zero => intro l1 l2 l3 h; cases h
  | succ f ih =>
    intro l1 l2 l3 h
    refine x_iload_n hC dX4_mostIn_4 rfl (j := 3) rfl <| x_bipush (v := (10 : Int32)) hC dX4_mostIn_5 (by decide) <| ?_
    refine x_icmp_ge (tgt := 32) hC dX4_mostIn_7 (by decide) (fun c1 => ?_) (fun c1 => ?_)
    · replace h := (if_pos c1).symm.trans h
      refine x_iload_n hC dX4_mostIn_32 rfl (j := 2) rfl <| ?_
      have e1 := Option.some.inj h
      subst e1
      exact x_iret (rest := []) hC hE rfl dX4_mostIn_33
    · replace h := (if_neg c1).symm.trans h
      refine x_iload_n hC dX4_mostIn_10 rfl (j := 2) rfl <| x_aload_n hC dX4_mostIn_11 rfl (j := 0) rfl <| s_getR (q := 20) hC dX4_mostIn_12 wfl_X4_13 rfl (by decide) (by decide) (by decide) (by decide) (by decide) <| x_iload_n hC dX4_mostIn_15 rfl (j := 1) rfl <| x_bipush (v := (10 : Int32)) hC dX4_mostIn_16 (by decide) <| x_imul hC dX4_mostIn_18 <| ?_
      refine x_iload_n hC dX4_mostIn_19 rfl (j := 3) rfl <| x_iadd hC dX4_mostIn_20 <| ?_
      obtain ⟨h2, h⟩ := xgd_some h
      refine s_iald hC dX4_mostIn_21 rfl (by decide) h2 <| ?_
      refine x_mmax hC hR (by omega) dX4_mostIn_22 wml_X4_67 (Nat.le_of_ble_eq_true rfl) <| x_istore_n hC dX4_mostIn_25 rfl (by decide) rfl <| x_iinc hC dX4_mostIn_26 (j := 3) (v := (l3 + (1 : Int32))) rfl rfl (by decide) rfl <| x_goto (tgt := 4) hC dX4_mostIn_29 (by decide) <| ?_
      refine x_sub [2, 3, 1, 0] rfl ?_
      exact ih l1 (xmax l2 (σ.1 20 ((l1 * (10 : Int32)) + l3).toNatClampNeg)) (l3 + (1 : Int32)) h
set_option maxRecDepth 100000 in
set_option maxHeartbeats 4000000 in
theorem C_X4_mostIn {G : xG} {l : Launch} {a1 : Int32} {σ : xS2} {r : Int32} (h : J_X4_mostIn a1 σ = some r) : xC G l mM_X4_mostIn 1 [.ref (xad G 19), .int a1] (xM σ) (some (.int r)) (xM σ) := by
  refine xC_of (by decide) rfl (Nat.le_refl _) (Nat.le_of_ble_eq_true rfl) (fun K hC hE hR _ => ?_)
  refine x_iconst (v := (-1 : Int32)) hC dX4_mostIn_0 (by decide) <| x_istore_n hC dX4_mostIn_1 rfl (by decide) rfl <| x_iconst (v := (0 : Int32)) hC dX4_mostIn_2 (by decide) <| x_istore_n hC dX4_mostIn_3 rfl (by decide) rfl <| ?_
  refine x_sub [2, 3, 1, 0] rfl ?_
  exact B_X4_mostIn_4 hC hR hE xFU a1 (-1 : Int32) (0 : Int32) h
set_option maxRecDepth 100000 in
set_option maxHeartbeats 4000000 in
theorem B_X4_find_78 {G : xG} {l : Launch} {K : xK} {r : Bool} {τ : xS2} (hC : xCX G mM_X4_find K) (hR : xRd K 5) (hE : xE G K (some (.int (xb r))) (xM τ)) {k30 : Int32 → Int32 → Int32 → Int32 → xS2 → Option (Bool × xS2)} (hk30 : ∀ (l3 : Int32) (l4 : Int32) (l5 : Int32) (l6 : Int32) (σ : xS2), k30 l3 l4 l5 l6 σ = some (r, τ) → xV G l mM_X4_find K 30 [(0, .ref (xad G 19)), (1, .ref (xad G 1)), (3, .int l3), (4, .int l4), (5, .int l5), (6, .int l6)] [] (xM σ)) : ∀ (l3 : Int32) (l4 : Int32) (l5 : Int32) (l6 : Int32) (σ : xS2), J_X4_find_78 k30 l3 l4 l5 l6 σ = some (r, τ) → xV G l mM_X4_find K 78 [(0, .ref (xad G 19)), (1, .ref (xad G 1)), (3, .int l3), (4, .int l4), (5, .int l5), (6, .int l6)] [] (xM σ) := by
  intro l3 l4 l5 l6 σ h
  refine x_iinc hC dX4_find_78 (j := 5) (v := (l6 + (1 : Int32))) rfl rfl (by decide) rfl <| x_goto (tgt := 30) hC dX4_find_81 (by decide) <| ?_
  refine x_sub [1, 2, 3, 4, 5, 0] rfl ?_
  exact hk30 l3 l4 l5 (l6 + (1 : Int32)) σ h
set_option maxRecDepth 100000 in
set_option maxHeartbeats 4000000 in
theorem B_X4_find_30 {G : xG} {l : Launch} {K : xK} {r : Bool} {τ : xS2} (hC : xCX G mM_X4_find K) (hR : xRd K 5) (hE : xE G K (some (.int (xb r))) (xM τ)) : ∀ (f : Nat) (l3 : Int32) (l4 : Int32) (l5 : Int32) (l6 : Int32) (σ : xS2), J_X4_find_30 f l3 l4 l5 l6 σ = some (r, τ) → xV G l mM_X4_find K 30 [(0, .ref (xad G 19)), (1, .ref (xad G 1)), (3, .int l3), (4, .int l4), (5, .int l5), (6, .int l6)] [] (xM σ) := by
  intro f
  induction f with
  | zero => intro l3 l4 l5 l6 σ h; cases h
  | succ f ih =>
    intro l3 l4 l5 l6 σ h
    refine x_iload hC dX4_find_30 (j := 5) rfl <| x_iload hC dX4_find_32 (j := 4) rfl <| ?_
    refine x_icmp_gt (tgt := 84) hC dX4_find_34 (by decide) (fun c3 => ?_) (fun c3 => ?_)
    · replace h := (if_pos c3).symm.trans h
      refine x_iconst (v := (0 : Int32)) hC dX4_find_84 (by decide) <| ?_
      obtain ⟨e1, e2⟩ := xso2 h
      subst e1
      subst e2
      exact x_zret (rest := []) hC hE rfl (by decide) dX4_find_85
    · replace h := (if_neg c3).symm.trans h
      refine x_aload_n hC dX4_find_37 rfl (j := 0) rfl <| x_aload_n hC dX4_find_38 rfl (j := 0) rfl <| x_iload hC dX4_find_39 (j := 3) rfl <| ?_
      obtain ⟨x4, h4, h⟩ := Option.bind_eq_some_iff.mp h
      refine x_callV hC hR dX4_find_41 mK_X4_mostIn wml_X4_43 (C_X4_mostIn (a1 := l4) (σ := σ) h4) (by omega) rfl (by decide) rfl rfl (xlt (by decide)) rfl (Nat.le_of_ble_eq_true rfl) rfl rfl rfl <| ?_
      refine s_putI hC dX4_find_44 wfl_X4_47 rfl (by decide) (by decide) (by decide) (by decide) (by decide) <| x_aload_n hC dX4_find_47 rfl (j := 0) rfl <| x_iload hC dX4_find_48 (j := 5) rfl <| s_putI hC dX4_find_50 wfl_X4_51 rfl (by decide) (by decide) (by decide) (by decide) (by decide) <| x_aload_n hC dX4_find_53 rfl (j := 0) rfl <| s_getI hC dX4_find_54 wfl_X4_47 rfl (by decide) (by decide) (by decide) (by decide) <| ?_
      refine x_if_lt (tgt := 62) hC dX4_find_57 (by decide) (fun c5 => ?_) (fun c5 => ?_)
      · replace h := (if_pos c5).symm.trans h
        refine x_iload hC dX4_find_62 (j := 5) rfl <| x_iload hC dX4_find_64 (j := 4) rfl <| ?_
        refine x_icmp_ge (tgt := 78) hC dX4_find_66 (by decide) (fun c6 => ?_) (fun c6 => ?_)
        · replace h := (if_pos c6).symm.trans h
          refine x_sub [0, 1, 2, 3, 4, 5] rfl ?_
          exact B_X4_find_78 hC hR hE ih l3 l4 l5 l6 (yI (yI σ 19 4 x4) 19 3 l6) h
        · replace h := (if_neg c6).symm.trans h
          refine x_aload_n hC dX4_find_69 rfl (j := 0) rfl <| x_aload_n hC dX4_find_70 rfl (j := 1) rfl <| x_iload_n hC dX4_find_71 rfl (j := 2) rfl <| x_iload hC dX4_find_72 (j := 5) rfl <| x_iadd hC dX4_find_74 <| ?_
          obtain ⟨x7, h7, h⟩ := Option.bind_eq_some_iff.mp h
          refine x_callV hC hR dX4_find_75 mK_X4_goOn wml_X4_54 (C_X4_goOn (a2 := (l3 + l6)) (σ := (yI (yI σ 19 4 x4) 19 3 l6)) h7) (by omega) rfl (by decide) rfl rfl (xlt (by decide)) rfl (Nat.le_of_ble_eq_true rfl) rfl rfl rfl <| ?_
          refine x_sub [0, 1, 2, 3, 4, 5] rfl ?_
          exact B_X4_find_78 hC hR hE ih l3 l4 l5 l6 x7 h
      · replace h := (if_neg c5).symm.trans h
        refine x_iconst (v := (1 : Int32)) hC dX4_find_60 (by decide) <| ?_
        obtain ⟨e1, e2⟩ := xso2 h
        subst e1
        subst e2
        exact x_zret (rest := []) hC hE rfl (by decide) dX4_find_61
set_option maxRecDepth 100000 in
set_option maxHeartbeats 4000000 in
theorem C_X4_find {G : xG} {l : Launch} {a2 : Nat} {a3 : Int32} {a4 : Int32} {σ : xS2} {r : Bool} {τ : xS2} (ha2 : xSH a2 = (0, 4)) (h : J_X4_find a2 a3 a4 σ = some (r, τ)) : xC G l mM_X4_find 5 [.ref (xad G 19), .ref (xad G 1), .ref (xad G a2), .int a3, .int a4] (xM σ) (some (.int (xb r))) (xM τ) := by
  refine xC_of (by decide) rfl (Nat.le_refl _) (Nat.le_of_ble_eq_true rfl) (fun K hC hE hR _ => ?_)
  refine x_aload_n hC dX4_find_0 rfl (j := 0) rfl <| s_getR (q := 20) hC dX4_find_1 wfl_X4_13 rfl (by decide) (by decide) (by decide) (by decide) (by decide) <| x_iconst (v := (-1 : Int32)) hC dX4_find_4 (by decide) <| ?_
  obtain ⟨x1, h1, h⟩ := Option.bind_eq_some_iff.mp h
  refine x_callS hC hR dX4_find_5 mK_J7_fill_53178 wml_X4_27 (C_J7_fill_53178 (a0 := 20) (a1 := (-1 : Int32)) (σ := σ) rfl h1) (by omega) rfl (Nat.le_of_ble_eq_true rfl) rfl rfl rfl <| ?_
  refine x_aload_n hC dX4_find_8 rfl (j := 0) rfl <| s_getR (q := 20) hC dX4_find_9 wfl_X4_13 rfl (by decide) (by decide) (by decide) (by decide) (by decide) <| x_aload_n hC dX4_find_12 rfl (j := 2) rfl <| ?_
  obtain ⟨x2, h2, h⟩ := Option.bind_eq_some_iff.mp h
  refine x_callS hC hR dX4_find_13 mK_X4_arrive wml_X4_33 (C_X4_arrive (a0 := 20) (a1 := a2) (σ := x1) rfl ha2 h2) (by omega) rfl (Nat.le_of_ble_eq_true rfl) rfl rfl rfl <| ?_
  refine x_bipush (v := (20 : Int32)) hC dX4_find_16 (by decide) <| x_bipush (v := (60 : Int32)) hC dX4_find_18 (by decide) <| x_iload_n hC dX4_find_20 rfl (j := 3) rfl <| x_isub hC dX4_find_21 <| x_mmin hC hR (by omega) dX4_find_22 wml_X4_37 (Nat.le_of_ble_eq_true rfl) <| x_istore hC dX4_find_25 (by decide) rfl <| ?_
  refine x_iconst (v := (0 : Int32)) hC dX4_find_27 (by decide) <| x_istore hC dX4_find_28 (by decide) rfl <| ?_
  refine x_sub [2, 3, 5, 6, 1, 0] rfl ?_
  exact B_X4_find_30 hC hR hE xFU a3 a4 (xmin (20 : Int32) ((60 : Int32) - a3)) (0 : Int32) x2 h
set_option maxRecDepth 100000 in
set_option maxHeartbeats 4000000 in
theorem C_X5_hasPlaces {G : xG} {l : Launch} {a0 : Nat} {a1 : Int32} {a2 : Int32} {σ : xS2} (ha0 : xSH a0 = (5, 5)) : xC G l mM_X5_hasPlaces 0 [.ref (xad G a0), .int a1, .int a2] (xM σ) (some (.int (xb (J_X5_hasPlaces a0 a1 a2 σ)))) (xM σ) := by
  refine xC_of (by decide) rfl (Nat.le_refl _) (Nat.le_of_ble_eq_true rfl) (fun K hC hE hR _ => ?_)
  obtain ⟨r, h⟩ : ∃ r, J_X5_hasPlaces a0 a1 a2 σ = r := ⟨_, rfl⟩
  rw [h] at hE
  refine x_iload_n hC dX5_hasPlaces_0 rfl (j := 1) rfl <| ?_
  refine x_if_lt (tgt := 30) hC dX5_hasPlaces_1 (by decide) (fun c1 => ?_) (fun c1 => ?_)
  · replace h := (if_pos c1).symm.trans h
    refine x_iconst (v := (0 : Int32)) hC dX5_hasPlaces_30 (by decide) <| ?_
    subst h
    exact x_zret (rest := []) hC hE rfl (by decide) dX5_hasPlaces_31
  · replace h := (if_neg c1).symm.trans h
    refine x_iload_n hC dX5_hasPlaces_4 rfl (j := 2) rfl <| ?_
    refine x_if_lt (tgt := 30) hC dX5_hasPlaces_5 (by decide) (fun c2 => ?_) (fun c2 => ?_)
    · replace h := (if_pos c2).symm.trans h
      refine x_iconst (v := (0 : Int32)) hC dX5_hasPlaces_30 (by decide) <| ?_
      subst h
      exact x_zret (rest := []) hC hE rfl (by decide) dX5_hasPlaces_31
    · replace h := (if_neg c2).symm.trans h
      refine x_iload_n hC dX5_hasPlaces_8 rfl (j := 1) rfl <| x_aload_n hC dX5_hasPlaces_9 rfl (j := 0) rfl <| s_getI hC dX5_hasPlaces_10 wfl_X5_32 ha0 (by decide) (by decide) (xlo ha0 (by decide)) (by decide) <| ?_
      refine x_icmp_gt (tgt := 30) hC dX5_hasPlaces_13 (by decide) (fun c3 => ?_) (fun c3 => ?_)
      · replace h := (if_pos c3).symm.trans h
        refine x_iconst (v := (0 : Int32)) hC dX5_hasPlaces_30 (by decide) <| ?_
        subst h
        exact x_zret (rest := []) hC hE rfl (by decide) dX5_hasPlaces_31
      · replace h := (if_neg c3).symm.trans h
        refine x_iload_n hC dX5_hasPlaces_16 rfl (j := 2) rfl <| x_aload_n hC dX5_hasPlaces_17 rfl (j := 0) rfl <| s_getI hC dX5_hasPlaces_18 wfl_X5_32 ha0 (by decide) (by decide) (xlo ha0 (by decide)) (by decide) <| x_iload_n hC dX5_hasPlaces_21 rfl (j := 1) rfl <| x_isub hC dX5_hasPlaces_22 <| ?_
        refine x_icmp_gt (tgt := 30) hC dX5_hasPlaces_23 (by decide) (fun c4 => ?_) (fun c4 => ?_)
        · replace h := (if_pos c4).symm.trans h
          refine x_iconst (v := (0 : Int32)) hC dX5_hasPlaces_30 (by decide) <| ?_
          subst h
          exact x_zret (rest := []) hC hE rfl (by decide) dX5_hasPlaces_31
        · replace h := (if_neg c4).symm.trans h
          refine x_iconst (v := (1 : Int32)) hC dX5_hasPlaces_26 (by decide) <| x_goto (tgt := 31) hC dX5_hasPlaces_27 (by decide) <| ?_
          subst h
          exact x_zret (rest := []) hC hE rfl (by decide) dX5_hasPlaces_31
set_option maxRecDepth 100000 in
set_option maxHeartbeats 4000000 in
theorem C_X5_at {G : xG} {l : Launch} {a0 : Nat} {a1 : Int32} {σ : xS2} {r : Int64} (ha0 : xSH a0 = (5, 5)) (h : J_X5_at a0 a1 σ = some r) : xC G l mM_X5_at 1 [.ref (xad G a0), .int a1] (xM σ) (some (.long r)) (xM σ) := by
  refine xC_of (by decide) rfl (Nat.le_refl _) (Nat.le_of_ble_eq_true rfl) (fun K hC hE hR _ => ?_)
  refine x_aload_n hC dX5_at_0 rfl (j := 0) rfl <| x_iload_n hC dX5_at_1 rfl (j := 1) rfl <| x_iconst (v := (1 : Int32)) hC dX5_at_2 (by decide) <| x_callV hC hR dX5_at_3 mK_X5_hasPlaces wml_X5_41 (C_X5_hasPlaces (a0 := a0) (a1 := a1) (a2 := (1 : Int32)) (σ := σ) ha0) (by omega) ha0 (by decide) rfl rfl (xlo ha0 (by decide)) rfl (Nat.le_of_ble_eq_true rfl) rfl rfl rfl <| ?_
  refine x_if_eq (tgt := 18) hC dX5_at_6 (by decide) (fun c2 => ?_) (fun c2 => ?_)
  · replace h := (if_pos c2).symm.trans h
    refine x_lconst (v := (0 : Int64)) hC dX5_at_18 (by decide) <| ?_
    have e1 := Option.some.inj h
    subst e1
    exact x_lret (rest := []) hC hE rfl dX5_at_19
  · replace h := (if_neg c2).symm.trans h
    refine x_aload_n hC dX5_at_9 rfl (j := 0) rfl <| s_getR (q := (a0 + 1)) hC dX5_at_10 wfl_X5_9 ha0 (by decide) (by decide) (xlo ha0 (by decide)) (by decide) (xsh_rc ha0) <| x_iload_n hC dX5_at_13 rfl (j := 1) rfl <| ?_
    obtain ⟨h3, h⟩ := xgd_some h
    refine s_lald hC dX5_at_14 (xsh_el ha0) (xlo (xsh_el ha0) (by decide)) h3 <| ?_
    refine x_goto (tgt := 19) hC dX5_at_15 (by decide) <| ?_
    have e1 := Option.some.inj h
    subst e1
    exact x_lret (rest := []) hC hE rfl dX5_at_19
set_option maxRecDepth 100000 in
set_option maxHeartbeats 4000000 in
theorem C_X5_holdBody {G : xG} {l : Launch} {a0 : Nat} {a1 : Int32} {σ : xS2} {τ : xS2} (ha0 : xSH a0 = (5, 5)) (h : J_X5_holdBody a0 a1 σ = some τ) : xC G l mM_X5_holdBody 0 [.ref (xad G a0), .int a1] (xM σ) none (xM τ) := by
  refine xC_of (by decide) rfl (Nat.le_refl _) (Nat.le_of_ble_eq_true rfl) (fun K hC hE hR _ => ?_)
  refine x_aload_n hC dX5_holdBody_0 rfl (j := 0) rfl <| x_iconst (v := (1 : Int32)) hC dX5_holdBody_1 (by decide) <| s_putI hC dX5_holdBody_2 wfl_X5_13 ha0 (by decide) (by decide) (xlo ha0 (by decide)) (by decide) (by decide) <| x_aload_n hC dX5_holdBody_5 rfl (j := 0) rfl <| x_iload_n hC dX5_holdBody_6 rfl (j := 1) rfl <| s_putI hC dX5_holdBody_7 wfl_X5_20 ha0 (by decide) (by decide) (xlo ha0 (by decide)) (by decide) (by decide) <| ?_
  have e1 := Option.some.inj h
  subst e1
  exact x_vret (rest := []) hC hE rfl dX5_holdBody_10
set_option maxRecDepth 100000 in
set_option maxHeartbeats 4000000 in
theorem C_X5_holdNothing {G : xG} {l : Launch} {a0 : Nat} {σ : xS2} {τ : xS2} (ha0 : xSH a0 = (5, 5)) (h : J_X5_holdNothing a0 σ = some τ) : xC G l mM_X5_holdNothing 0 [.ref (xad G a0)] (xM σ) none (xM τ) := by
  refine xC_of (by decide) rfl (Nat.le_refl _) (Nat.le_of_ble_eq_true rfl) (fun K hC hE hR _ => ?_)
  refine x_aload_n hC dX5_holdNothing_0 rfl (j := 0) rfl <| x_iconst (v := (0 : Int32)) hC dX5_holdNothing_1 (by decide) <| s_putI hC dX5_holdNothing_2 wfl_X5_13 ha0 (by decide) (by decide) (xlo ha0 (by decide)) (by decide) (by decide) <| ?_
  have e1 := Option.some.inj h
  subst e1
  exact x_vret (rest := []) hC hE rfl dX5_holdNothing_5
set_option maxRecDepth 100000 in
set_option maxHeartbeats 4000000 in
theorem C_X5_holdRow {G : xG} {l : Launch} {a0 : Nat} {a1 : Int32} {a2 : Int32} {σ : xS2} {τ : xS2} (ha0 : xSH a0 = (5, 5)) (h : J_X5_holdRow a0 a1 a2 σ = some τ) : xC G l mM_X5_holdRow 1 [.ref (xad G a0), .int a1, .int a2] (xM σ) none (xM τ) := by
  refine xC_of (by decide) rfl (Nat.le_refl _) (Nat.le_of_ble_eq_true rfl) (fun K hC hE hR _ => ?_)
  refine x_aload_n hC dX5_holdRow_0 rfl (j := 0) rfl <| x_iconst (v := (2 : Int32)) hC dX5_holdRow_1 (by decide) <| s_putI hC dX5_holdRow_2 wfl_X5_13 ha0 (by decide) (by decide) (xlo ha0 (by decide)) (by decide) (by decide) <| x_aload_n hC dX5_holdRow_5 rfl (j := 0) rfl <| x_iload_n hC dX5_holdRow_6 rfl (j := 1) rfl <| s_putI hC dX5_holdRow_7 wfl_X5_17 ha0 (by decide) (by decide) (xlo ha0 (by decide)) (by decide) (by decide) <| ?_
  refine x_aload_n hC dX5_holdRow_10 rfl (j := 0) rfl <| x_bipush (v := (60 : Int32)) hC dX5_holdRow_11 (by decide) <| x_iconst (v := (0 : Int32)) hC dX5_holdRow_13 (by decide) <| x_iload_n hC dX5_holdRow_14 rfl (j := 2) rfl <| x_mmax hC hR (by omega) dX5_holdRow_15 wml_X5_23 (Nat.le_of_ble_eq_true rfl) <| x_mmin hC hR (by omega) dX5_holdRow_18 wml_X5_29 (Nat.le_of_ble_eq_true rfl) <| ?_
  refine s_putI hC dX5_holdRow_21 wfl_X5_32 ha0 (by decide) (by decide) (xlo ha0 (by decide)) (by decide) (by decide) <| x_aload_n hC dX5_holdRow_24 rfl (j := 0) rfl <| s_getR (q := (a0 + 1)) hC dX5_holdRow_25 wfl_X5_9 ha0 (by decide) (by decide) (xlo ha0 (by decide)) (by decide) (xsh_rc ha0) <| x_lconst (v := (0 : Int64)) hC dX5_holdRow_28 (by decide) <| ?_
  obtain ⟨x1, h1, h⟩ := Option.bind_eq_some_iff.mp h
  refine x_callS hC hR dX5_holdRow_29 mK_J7_fill_d0a16 wml_X5_35 (C_J7_fill_d0a16 (a0 := (a0 + 1)) (a1 := (0 : Int64)) (σ := (yI (yI (yI σ a0 1 (2 : Int32)) a0 3 a1) a0 4 (xmin (60 : Int32) (xmax (0 : Int32) a2)))) (congrArg Prod.fst (xsh_el ha0)) h1) (by omega) rfl (Nat.le_of_ble_eq_true rfl) rfl rfl rfl <| ?_
  have e1 := Option.some.inj h
  subst e1
  exact x_vret (rest := []) hC hE rfl dX5_holdRow_32
set_option maxRecDepth 100000 in
set_option maxHeartbeats 4000000 in
theorem C_X5_isBytes {G : xG} {l : Launch} {a0 : Nat} {σ : xS2} (ha0 : xSH a0 = (5, 5)) : xC G l mM_X5_isBytes 0 [.ref (xad G a0)] (xM σ) (some (.int (xb (J_X5_isBytes a0 σ)))) (xM σ) := by
  refine xC_of (by decide) rfl (Nat.le_refl _) (Nat.le_of_ble_eq_true rfl) (fun K hC hE hR _ => ?_)
  obtain ⟨r, h⟩ : ∃ r, J_X5_isBytes a0 σ = r := ⟨_, rfl⟩
  rw [h] at hE
  refine x_aload_n hC dX5_isBytes_0 rfl (j := 0) rfl <| s_getI hC dX5_isBytes_1 wfl_X5_13 ha0 (by decide) (by decide) (xlo ha0 (by decide)) (by decide) <| x_iconst (v := (2 : Int32)) hC dX5_isBytes_4 (by decide) <| ?_
  refine x_icmp_ne (tgt := 19) hC dX5_isBytes_5 (by decide) (fun c1 => ?_) (fun c1 => ?_)
  · replace h := (if_neg c1).symm.trans h
    refine x_iconst (v := (0 : Int32)) hC dX5_isBytes_19 (by decide) <| ?_
    subst h
    exact x_zret (rest := []) hC hE rfl (by decide) dX5_isBytes_20
  · replace h := (if_pos c1).symm.trans h
    refine x_aload_n hC dX5_isBytes_8 rfl (j := 0) rfl <| s_getI hC dX5_isBytes_9 wfl_X5_17 ha0 (by decide) (by decide) (xlo ha0 (by decide)) (by decide) <| ?_
    refine x_if_ne (tgt := 19) hC dX5_isBytes_12 (by decide) (fun c2 => ?_) (fun c2 => ?_)
    · replace h := (if_neg c2).symm.trans h
      refine x_iconst (v := (0 : Int32)) hC dX5_isBytes_19 (by decide) <| ?_
      subst h
      exact x_zret (rest := []) hC hE rfl (by decide) dX5_isBytes_20
    · replace h := (if_pos c2).symm.trans h
      refine x_iconst (v := (1 : Int32)) hC dX5_isBytes_15 (by decide) <| x_goto (tgt := 20) hC dX5_isBytes_16 (by decide) <| ?_
      subst h
      exact x_zret (rest := []) hC hE rfl (by decide) dX5_isBytes_20
set_option maxRecDepth 100000 in
set_option maxHeartbeats 4000000 in
theorem C_X5_isEmpty {G : xG} {l : Launch} {a0 : Nat} {σ : xS2} (ha0 : xSH a0 = (5, 5)) : xC G l mM_X5_isEmpty 0 [.ref (xad G a0)] (xM σ) (some (.int (xb (J_X5_isEmpty a0 σ)))) (xM σ) := by
  refine xC_of (by decide) rfl (Nat.le_refl _) (Nat.le_of_ble_eq_true rfl) (fun K hC hE hR _ => ?_)
  obtain ⟨r, h⟩ : ∃ r, J_X5_isEmpty a0 σ = r := ⟨_, rfl⟩
  rw [h] at hE
  refine x_aload_n hC dX5_isEmpty_0 rfl (j := 0) rfl <| s_getI hC dX5_isEmpty_1 wfl_X5_13 ha0 (by decide) (by decide) (xlo ha0 (by decide)) (by decide) <| ?_
  refine x_if_ne (tgt := 11) hC dX5_isEmpty_4 (by decide) (fun c1 => ?_) (fun c1 => ?_)
  · replace h := (if_neg c1).symm.trans h
    refine x_iconst (v := (0 : Int32)) hC dX5_isEmpty_11 (by decide) <| ?_
    subst h
    exact x_zret (rest := []) hC hE rfl (by decide) dX5_isEmpty_12
  · replace h := (if_pos c1).symm.trans h
    refine x_iconst (v := (1 : Int32)) hC dX5_isEmpty_7 (by decide) <| x_goto (tgt := 12) hC dX5_isEmpty_8 (by decide) <| ?_
    subst h
    exact x_zret (rest := []) hC hE rfl (by decide) dX5_isEmpty_12
set_option maxRecDepth 100000 in
set_option maxHeartbeats 4000000 in
theorem C_X5_isRow {G : xG} {l : Launch} {a0 : Nat} {σ : xS2} (ha0 : xSH a0 = (5, 5)) : xC G l mM_X5_isRow 0 [.ref (xad G a0)] (xM σ) (some (.int (xb (J_X5_isRow a0 σ)))) (xM σ) := by
  refine xC_of (by decide) rfl (Nat.le_refl _) (Nat.le_of_ble_eq_true rfl) (fun K hC hE hR _ => ?_)
  obtain ⟨r, h⟩ : ∃ r, J_X5_isRow a0 σ = r := ⟨_, rfl⟩
  rw [h] at hE
  refine x_aload_n hC dX5_isRow_0 rfl (j := 0) rfl <| s_getI hC dX5_isRow_1 wfl_X5_13 ha0 (by decide) (by decide) (xlo ha0 (by decide)) (by decide) <| x_iconst (v := (2 : Int32)) hC dX5_isRow_4 (by decide) <| ?_
  refine x_icmp_ne (tgt := 12) hC dX5_isRow_5 (by decide) (fun c1 => ?_) (fun c1 => ?_)
  · replace h := (if_neg c1).symm.trans h
    refine x_iconst (v := (0 : Int32)) hC dX5_isRow_12 (by decide) <| ?_
    subst h
    exact x_zret (rest := []) hC hE rfl (by decide) dX5_isRow_13
  · replace h := (if_pos c1).symm.trans h
    refine x_iconst (v := (1 : Int32)) hC dX5_isRow_8 (by decide) <| x_goto (tgt := 13) hC dX5_isRow_9 (by decide) <| ?_
    subst h
    exact x_zret (rest := []) hC hE rfl (by decide) dX5_isRow_13
set_option maxRecDepth 100000 in
set_option maxHeartbeats 4000000 in
theorem C_X5_narrowed {G : xG} {l : Launch} {a0 : Nat} {a1 : Int64} {σ : xS2} (ha0 : xSH a0 = (5, 5)) : xC G l mM_X5_narrowed 0 [.ref (xad G a0), .long a1] (xM σ) (some (.long (J_X5_narrowed a0 a1 σ))) (xM σ) := by
  refine xC_of (by decide) rfl (Nat.le_refl _) (Nat.le_of_ble_eq_true rfl) (fun K hC hE hR _ => ?_)
  obtain ⟨r, h⟩ : ∃ r, J_X5_narrowed a0 a1 σ = r := ⟨_, rfl⟩
  rw [h] at hE
  refine x_aload_n hC dX5_narrowed_0 rfl (j := 0) rfl <| s_getI hC dX5_narrowed_1 wfl_X5_17 ha0 (by decide) (by decide) (xlo ha0 (by decide)) (by decide) <| ?_
  by_cases c1 : (σ.1 a0 3) = (0 : Int32)
  · replace h := (if_pos c1).symm.trans h
    refine x_tsw (tgt := 36) hC dX5_narrowed_4 (by decide) (by rw [c1]; decide) ?_
    refine x_lload_n hC dX5_narrowed_36 rfl (j := 1) rfl <| x_l2i (v := (a1.toInt32)) hC dX5_narrowed_37 rfl <| x_i2b (v := ((a1.toInt32).toInt8.toInt32)) hC dX5_narrowed_38 rfl <| x_i2l (v := (((a1.toInt32).toInt8.toInt32).toInt64)) hC dX5_narrowed_39 rfl <| ?_
    subst h
    exact x_lret (rest := []) hC hE rfl dX5_narrowed_40
  · replace h := (if_neg c1).symm.trans h
    by_cases c2 : (σ.1 a0 3) = (1 : Int32)
    · replace h := (if_pos c2).symm.trans h
      refine x_tsw (tgt := 41) hC dX5_narrowed_4 (by decide) (by rw [c2]; decide) ?_
      refine x_lload_n hC dX5_narrowed_41 rfl (j := 1) rfl <| x_l2i (v := (a1.toInt32)) hC dX5_narrowed_42 rfl <| x_i2s (v := ((a1.toInt32).toInt16.toInt32)) hC dX5_narrowed_43 rfl <| x_i2l (v := (((a1.toInt32).toInt16.toInt32).toInt64)) hC dX5_narrowed_44 rfl <| ?_
      subst h
      exact x_lret (rest := []) hC hE rfl dX5_narrowed_45
    · replace h := (if_neg c2).symm.trans h
      by_cases c3 : (σ.1 a0 3) = (2 : Int32)
      · replace h := (if_pos c3).symm.trans h
        refine x_tsw (tgt := 46) hC dX5_narrowed_4 (by decide) (by rw [c3]; decide) ?_
        refine x_lload_n hC dX5_narrowed_46 rfl (j := 1) rfl <| x_l2i (v := (a1.toInt32)) hC dX5_narrowed_47 rfl <| x_i2l (v := ((a1.toInt32).toInt64)) hC dX5_narrowed_48 rfl <| ?_
        subst h
        exact x_lret (rest := []) hC hE rfl dX5_narrowed_49
      · replace h := (if_neg c3).symm.trans h
        by_cases c4 : (σ.1 a0 3) = (3 : Int32)
        · replace h := (if_pos c4).symm.trans h
          refine x_tsw (tgt := 50) hC dX5_narrowed_4 (by decide) (by rw [c4]; decide) ?_
          refine x_lload_n hC dX5_narrowed_50 rfl (j := 1) rfl <| ?_
          subst h
          exact x_lret (rest := []) hC hE rfl dX5_narrowed_51
        · replace h := (if_neg c4).symm.trans h
          refine x_tsw (tgt := 52) hC dX5_narrowed_4 (by decide) ((xTs_else [0, 1, 2, 3] (by decide) (by decide +kernel) (List.forall_mem_cons.mpr ⟨lv_neT c1 (by decide), (List.forall_mem_cons.mpr ⟨lv_neT c2 (by decide), (List.forall_mem_cons.mpr ⟨lv_neT c3 (by decide), (List.forall_mem_cons.mpr ⟨lv_neT c4 (by decide), (fun _ z => absurd z List.not_mem_nil)⟩)⟩)⟩)⟩)).trans (by decide)) ?_
          refine x_lload_n hC dX5_narrowed_52 rfl (j := 1) rfl <| x_lconst (v := (0 : Int64)) hC dX5_narrowed_53 (by decide) <| x_lcmp hC dX5_narrowed_54 <| ?_
          refine x_if_eq (tgt := 62) hC dX5_narrowed_55 (by decide) (fun c5 => ?_) (fun c5 => ?_)
          · replace h := (if_pos c5).symm.trans h
            refine x_lconst (v := (0 : Int64)) hC dX5_narrowed_62 (by decide) <| ?_
            subst h
            exact x_lret (rest := []) hC hE rfl dX5_narrowed_63
          · replace h := (if_neg c5).symm.trans h
            refine x_lconst (v := (1 : Int64)) hC dX5_narrowed_58 (by decide) <| x_goto (tgt := 63) hC dX5_narrowed_59 (by decide) <| ?_
            subst h
            exact x_lret (rest := []) hC hE rfl dX5_narrowed_63
set_option maxRecDepth 100000 in
set_option maxHeartbeats 4000000 in
theorem C_X5_set {G : xG} {l : Launch} {a0 : Nat} {a1 : Int32} {a2 : Int64} {σ : xS2} {τ : xS2} (ha0 : xSH a0 = (5, 5)) (h : J_X5_set a0 a1 a2 σ = some τ) : xC G l mM_X5_set 1 [.ref (xad G a0), .int a1, .long a2] (xM σ) none (xM τ) := by
  refine xC_of (by decide) rfl (Nat.le_refl _) (Nat.le_of_ble_eq_true rfl) (fun K hC hE hR _ => ?_)
  refine x_aload_n hC dX5_set_0 rfl (j := 0) rfl <| x_iload_n hC dX5_set_1 rfl (j := 1) rfl <| x_iconst (v := (1 : Int32)) hC dX5_set_2 (by decide) <| x_callV hC hR dX5_set_3 mK_X5_hasPlaces wml_X5_41 (C_X5_hasPlaces (a0 := a0) (a1 := a1) (a2 := (1 : Int32)) (σ := σ) ha0) (by omega) ha0 (by decide) rfl rfl (xlo ha0 (by decide)) rfl (Nat.le_of_ble_eq_true rfl) rfl rfl rfl <| ?_
  refine x_if_eq (tgt := 20) hC dX5_set_6 (by decide) (fun c2 => ?_) (fun c2 => ?_)
  · replace h := (if_pos c2).symm.trans h
    have e1 := Option.some.inj h
    subst e1
    exact x_vret (rest := []) hC hE rfl dX5_set_20
  · replace h := (if_neg c2).symm.trans h
    refine x_aload_n hC dX5_set_9 rfl (j := 0) rfl <| s_getR (q := (a0 + 1)) hC dX5_set_10 wfl_X5_9 ha0 (by decide) (by decide) (xlo ha0 (by decide)) (by decide) (xsh_rc ha0) <| x_iload_n hC dX5_set_13 rfl (j := 1) rfl <| x_aload_n hC dX5_set_14 rfl (j := 0) rfl <| x_lload_n hC dX5_set_15 rfl (j := 2) rfl <| x_callV hC hR dX5_set_16 mK_X5_narrowed wml_X5_45 (C_X5_narrowed (a0 := a0) (a1 := a2) (σ := σ) ha0) (by omega) ha0 (by decide) rfl rfl (xlo ha0 (by decide)) rfl (Nat.le_of_ble_eq_true rfl) rfl rfl rfl <| ?_
    obtain ⟨h4, h⟩ := xgd_some h
    refine s_last hC dX5_set_19 (xsh_el ha0) (xlo (xsh_el ha0) (by decide)) h4 <| ?_
    have e1 := Option.some.inj h
    subst e1
    exact x_vret (rest := []) hC hE rfl dX5_set_20
set_option maxRecDepth 100000 in
set_option maxHeartbeats 4000000 in
theorem B_X6_chooseFirst_89 {G : xG} {l : Launch} {K : xK} {τ : xS2} (hC : xCX G mM_X6_chooseFirst K) (hR : xRd K 0) (hE : xE G K none (xM τ)) {k33 : Int32 → Int32 → xS2 → Option xS2} (hk33 : ∀ (l2 : Int32) (l3 : Int32) (σ : xS2), k33 l2 l3 σ = some τ → xV G l mM_X6_chooseFirst K 33 [(0, .ref (xad G 13)), (2, .int l2), (3, .int l3)] [] (xM σ)) : ∀ (l2 : Int32) (l3 : Int32) (σ : xS2), J_X6_chooseFirst_89 k33 l2 l3 σ = some τ → xV G l mM_X6_chooseFirst K 89 [(0, .ref (xad G 13)), (2, .int l2), (3, .int l3)] [] (xM σ) := by
  intro l2 l3 σ h
  refine x_iinc hC dX6_chooseFirst_89 (j := 2) (v := (l3 + (1 : Int32))) rfl rfl (by decide) rfl <| x_goto (tgt := 33) hC dX6_chooseFirst_92 (by decide) <| ?_
  refine x_sub [1, 2, 0] rfl ?_
  exact hk33 l2 (l3 + (1 : Int32)) σ h
set_option maxRecDepth 100000 in
set_option maxHeartbeats 4000000 in
theorem B_X6_chooseFirst_33 {G : xG} {l : Launch} {K : xK} {τ : xS2} (hC : xCX G mM_X6_chooseFirst K) (hR : xRd K 0) (hE : xE G K none (xM τ)) : ∀ (f : Nat) (l2 : Int32) (l3 : Int32) (σ : xS2), J_X6_chooseFirst_33 f l2 l3 σ = some τ → xV G l mM_X6_chooseFirst K 33 [(0, .ref (xad G 13)), (2, .int l2), (3, .int l3)] [] (xM σ) := by
  intro f
  induction f with
  | zero => intro l2 l3 σ h; cases h
  | succ f ih =>
    intro l2 l3 σ h
    refine x_iload_n hC dX6_chooseFirst_33 rfl (j := 2) rfl <| x_aload_n hC dX6_chooseFirst_34 rfl (j := 0) rfl <| s_getI hC dX6_chooseFirst_35 wfl_X6_60 rfl (by decide) (by decide) (by decide) (by decide) <| ?_
    refine x_icmp_ge (tgt := 95) hC dX6_chooseFirst_38 (by decide) (fun c2 => ?_) (fun c2 => ?_)
    · replace h := (if_pos c2).symm.trans h
      have e1 := Option.some.inj h
      subst e1
      exact x_vret (rest := []) hC hE rfl dX6_chooseFirst_95
    · replace h := (if_neg c2).symm.trans h
      refine x_aload_n hC dX6_chooseFirst_41 rfl (j := 0) rfl <| s_getR (q := 16) hC dX6_chooseFirst_42 wfl_X6_18 rfl (by decide) (by decide) (by decide) (by decide) (by decide) <| x_iload_n hC dX6_chooseFirst_45 rfl (j := 2) rfl <| ?_
      obtain ⟨h3, h⟩ := xgd_some h
      refine s_iald hC dX6_chooseFirst_46 rfl (by decide) h3 <| ?_
      refine x_aload_n hC dX6_chooseFirst_47 rfl (j := 0) rfl <| s_getR (q := 18) hC dX6_chooseFirst_48 wfl_X6_24 rfl (by decide) (by decide) (by decide) (by decide) (by decide) <| x_iload_n hC dX6_chooseFirst_51 rfl (j := 1) rfl <| x_iconst (v := (1 : Int32)) hC dX6_chooseFirst_52 (by decide) <| x_iload_n hC dX6_chooseFirst_53 rfl (j := 2) rfl <| x_ishl hC dX6_chooseFirst_54 <| ?_
      refine x_ixor hC dX6_chooseFirst_55 <| x_iconst (v := (5 : Int32)) hC dX6_chooseFirst_56 (by decide) <| x_imul hC dX6_chooseFirst_57 <| x_iload_n hC dX6_chooseFirst_58 rfl (j := 2) rfl <| x_iadd hC dX6_chooseFirst_59 <| ?_
      obtain ⟨h4, h⟩ := xgd_some h
      refine s_iald hC dX6_chooseFirst_60 rfl (by decide) h4 <| ?_
      refine x_iadd hC dX6_chooseFirst_61 <| x_istore hC dX6_chooseFirst_62 (by decide) rfl <| x_iload hC dX6_chooseFirst_64 (j := 0) rfl <| x_aload_n hC dX6_chooseFirst_66 rfl (j := 1) rfl <| s_getI hC dX6_chooseFirst_67 wfl_X6_85 rfl (by decide) (by decide) (by decide) (by decide) <| ?_
      refine x_icmp_ge (tgt := 89) hC dX6_chooseFirst_70 (by decide) (fun c5 => ?_) (fun c5 => ?_)
      · replace h := (if_pos c5).symm.trans h
        refine x_sub [1, 2, 3] rfl ?_
        exact B_X6_chooseFirst_89 hC hR hE ih l2 l3 σ h
      · replace h := (if_neg c5).symm.trans h
        refine x_aload_n hC dX6_chooseFirst_73 rfl (j := 1) rfl <| x_iload hC dX6_chooseFirst_74 (j := 0) rfl <| s_putI hC dX6_chooseFirst_76 wfl_X6_85 rfl (by decide) (by decide) (by decide) (by decide) (by decide) <| x_aload_n hC dX6_chooseFirst_79 rfl (j := 1) rfl <| x_aload_n hC dX6_chooseFirst_80 rfl (j := 1) rfl <| s_getR (q := 15) hC dX6_chooseFirst_81 wfl_X6_15 rfl (by decide) (by decide) (by decide) (by decide) (by decide) <| ?_
        refine x_iload_n hC dX6_chooseFirst_84 rfl (j := 3) rfl <| ?_
        obtain ⟨h6, h⟩ := xgd_some h
        refine s_iald hC dX6_chooseFirst_85 rfl (by decide) h6 <| ?_
        refine s_putI hC dX6_chooseFirst_86 wfl_X6_88 rfl (by decide) (by decide) (by decide) (by decide) (by decide) <| ?_
        refine x_sub [1, 2, 3] rfl ?_
        exact B_X6_chooseFirst_89 hC hR hE ih l2 l3 (yI (yI σ 13 6 ((σ.1 16 l3.toNatClampNeg) + (σ.1 18 (((l2 ^^^ ((1 : Int32) <<< (l3 &&& 31))) * (5 : Int32)) + l3).toNatClampNeg))) 13 7 (σ.1 15 l3.toNatClampNeg)) h
set_option maxRecDepth 100000 in
set_option maxHeartbeats 4000000 in
theorem B_X6_chooseFirst_14 {G : xG} {l : Launch} {K : xK} {τ : xS2} (hC : xCX G mM_X6_chooseFirst K) (hR : xRd K 0) (hE : xE G K none (xM τ)) : ∀ (s1 : Int32) (σ : xS2), J_X6_chooseFirst_14 s1 σ = some τ → xV G l mM_X6_chooseFirst K 14 [(0, .ref (xad G 13))] [.int s1, .ref (xad G 13)] (xM σ) := by
  intro s1 σ h
  refine s_putI hC dX6_chooseFirst_14 wfl_X6_85 rfl (by decide) (by decide) (by decide) (by decide) (by decide) <| x_aload_n hC dX6_chooseFirst_17 rfl (j := 0) rfl <| x_iconst (v := (-1 : Int32)) hC dX6_chooseFirst_18 (by decide) <| s_putI hC dX6_chooseFirst_19 wfl_X6_88 rfl (by decide) (by decide) (by decide) (by decide) (by decide) <| x_iconst (v := (1 : Int32)) hC dX6_chooseFirst_22 (by decide) <| x_aload_n hC dX6_chooseFirst_23 rfl (j := 0) rfl <| ?_
  refine s_getI hC dX6_chooseFirst_24 wfl_X6_60 rfl (by decide) (by decide) (by decide) (by decide) <| x_ishl hC dX6_chooseFirst_27 <| x_iconst (v := (1 : Int32)) hC dX6_chooseFirst_28 (by decide) <| x_isub hC dX6_chooseFirst_29 <| x_istore_n hC dX6_chooseFirst_30 rfl (by decide) rfl <| x_iconst (v := (0 : Int32)) hC dX6_chooseFirst_31 (by decide) <| ?_
  refine x_istore_n hC dX6_chooseFirst_32 rfl (by decide) rfl <| ?_
  refine x_sub [2, 1, 0] rfl ?_
  exact B_X6_chooseFirst_33 hC hR hE xFU (((1 : Int32) <<< ((σ.1 13 5) &&& 31)) - (1 : Int32)) (0 : Int32) (yI (yI σ 13 6 s1) 13 7 (-1 : Int32)) h
set_option maxRecDepth 100000 in
set_option maxHeartbeats 4000000 in
theorem C_X6_chooseFirst {G : xG} {l : Launch} {a1 : Int32} {σ : xS2} {τ : xS2} (h : J_X6_chooseFirst a1 σ = some τ) : xC G l mM_X6_chooseFirst 0 [.ref (xad G 13), .int a1] (xM σ) none (xM τ) := by
  refine xC_of (by decide) rfl (Nat.le_refl _) (Nat.le_of_ble_eq_true rfl) (fun K hC hE hR _ => ?_)
  refine x_aload_n hC dX6_chooseFirst_0 rfl (j := 0) rfl <| x_aload_n hC dX6_chooseFirst_1 rfl (j := 0) rfl <| s_getI hC dX6_chooseFirst_2 wfl_X6_60 rfl (by decide) (by decide) (by decide) (by decide) <| ?_
  refine x_if_ne (tgt := 12) hC dX6_chooseFirst_5 (by decide) (fun c1 => ?_) (fun c1 => ?_)
  · replace h := (if_neg c1).symm.trans h
    refine x_ldc hC dX6_chooseFirst_12 wconst_X6_27 <| ?_
    refine x_sub [0] rfl ?_
    exact B_X6_chooseFirst_14 hC hR hE (1000000 : Int32) σ h
  · replace h := (if_pos c1).symm.trans h
    refine x_iload_n hC dX6_chooseFirst_8 rfl (j := 1) rfl <| x_goto (tgt := 14) hC dX6_chooseFirst_9 (by decide) <| ?_
    refine x_sub [0] rfl ?_
    exact B_X6_chooseFirst_14 hC hR hE a1 σ h
set_option maxRecDepth 100000 in
set_option maxHeartbeats 4000000 in
theorem C_X6_costFrom {G : xG} {l : Launch} {a1 : Int32} {σ : xS2} {r : Int32} (h : J_X6_costFrom a1 σ = some r) : xC G l mM_X6_costFrom 1 [.ref (xad G 13), .int a1] (xM σ) (some (.int r)) (xM σ) := by
  refine xC_of (by decide) rfl (Nat.le_refl _) (Nat.le_of_ble_eq_true rfl) (fun K hC hE hR _ => ?_)
  refine x_iload_n hC dX6_costFrom_0 rfl (j := 1) rfl <| x_callS hC hR dX6_costFrom_1 mK_X3_isCell wml_X6_48 (C_X3_isCell (a0 := a1) (σ := σ)) (by omega) rfl (Nat.le_of_ble_eq_true rfl) rfl rfl rfl <| ?_
  refine x_if_eq (tgt := 16) hC dX6_costFrom_4 (by decide) (fun c2 => ?_) (fun c2 => ?_)
  · replace h := (if_pos c2).symm.trans h
    refine x_ldc hC dX6_costFrom_16 wconst_X6_27 <| ?_
    have e1 := Option.some.inj h
    subst e1
    exact x_iret (rest := []) hC hE rfl dX6_costFrom_18
  · replace h := (if_neg c2).symm.trans h
    refine x_aload_n hC dX6_costFrom_7 rfl (j := 0) rfl <| s_getR (q := 14) hC dX6_costFrom_8 wfl_X6_9 rfl (by decide) (by decide) (by decide) (by decide) (by decide) <| x_iload_n hC dX6_costFrom_11 rfl (j := 1) rfl <| ?_
    obtain ⟨h3, h⟩ := xgd_some h
    refine s_iald hC dX6_costFrom_12 rfl (by decide) h3 <| ?_
    refine x_goto (tgt := 18) hC dX6_costFrom_13 (by decide) <| ?_
    have e1 := Option.some.inj h
    subst e1
    exact x_iret (rest := []) hC hE rfl dX6_costFrom_18
set_option maxRecDepth 100000 in
set_option maxHeartbeats 4000000 in
theorem B_X6_firstFrom_44 {G : xG} {l : Launch} {K : xK} {r : Int32} {σ : xS2} (hC : xCX G mM_X6_firstFrom K) (hR : xRd K 2) (hE : xE G K (some (.int r)) (xM σ)) {k2 : Int32 → Int32 → xS2 → Option Int32} (hk2 : ∀ (l2 : Int32) (l3 : Int32), k2 l2 l3 σ = some r → xV G l mM_X6_firstFrom K 2 [(0, .ref (xad G 13)), (1, .ref (xad G 1)), (2, .int l2), (3, .int l3)] [] (xM σ)) : ∀ (l2 : Int32) (l3 : Int32), J_X6_firstFrom_44 k2 l2 l3 σ = some r → xV G l mM_X6_firstFrom K 44 [(0, .ref (xad G 13)), (1, .ref (xad G 1)), (2, .int l2), (3, .int l3)] [] (xM σ) := by
  intro l2 l3 h
  refine x_iinc hC dX6_firstFrom_44 (j := 3) (v := (l3 + (1 : Int32))) rfl rfl (by decide) rfl <| x_goto (tgt := 2) hC dX6_firstFrom_47 (by decide) <| ?_
  refine x_sub [1, 2, 3, 0] rfl ?_
  exact hk2 l2 (l3 + (1 : Int32)) h
set_option maxRecDepth 100000 in
set_option maxHeartbeats 4000000 in
theorem B_X6_firstFrom_2 {G : xG} {l : Launch} {K : xK} {r : Int32} {σ : xS2} (hC : xCX G mM_X6_firstFrom K) (hR : xRd K 2) (hE : xE G K (some (.int r)) (xM σ)) : ∀ (f : Nat) (l2 : Int32) (l3 : Int32), J_X6_firstFrom_2 f l2 l3 σ = some r → xV G l mM_X6_firstFrom K 2 [(0, .ref (xad G 13)), (1, .ref (xad G 1)), (2, .int l2), (3, .int l3)] [] (xM σ) := by
  intro f
  induction f with
  | zero => intro l2 l3 h; cases h
  | succ f ih =>
    intro l2 l3 h
    refine x_iload_n hC dX6_firstFrom_2 rfl (j := 3) rfl <| x_iconst (v := (4 : Int32)) hC dX6_firstFrom_3 (by decide) <| ?_
    refine x_icmp_gt (tgt := 50) hC dX6_firstFrom_4 (by decide) (fun c1 => ?_) (fun c1 => ?_)
    · replace h := (if_pos c1).symm.trans h
      refine x_iconst (v := (-1 : Int32)) hC dX6_firstFrom_50 (by decide) <| ?_
      have e1 := Option.some.inj h
      subst e1
      exact x_iret (rest := []) hC hE rfl dX6_firstFrom_51
    · replace h := (if_neg c1).symm.trans h
      refine x_iload_n hC dX6_firstFrom_7 rfl (j := 2) rfl <| x_iload_n hC dX6_firstFrom_8 rfl (j := 3) rfl <| x_callS hC hR dX6_firstFrom_9 mK_X3_neighbour wml_X6_36 (C_X3_neighbour (a0 := l2) (a1 := l3) (σ := σ)) (by omega) rfl (Nat.le_of_ble_eq_true rfl) rfl rfl rfl <| x_istore hC dX6_firstFrom_12 (by decide) rfl <| x_iload hC dX6_firstFrom_14 (j := 0) rfl <| ?_
      refine x_if_lt (tgt := 44) hC dX6_firstFrom_16 (by decide) (fun c3 => ?_) (fun c3 => ?_)
      · replace h := (if_pos c3).symm.trans h
        refine x_sub [1, 2, 3, 4] rfl ?_
        exact B_X6_firstFrom_44 hC hR hE ih l2 l3 h
      · replace h := (if_neg c3).symm.trans h
        refine x_aload_n hC dX6_firstFrom_19 rfl (j := 2) rfl <| x_iload_n hC dX6_firstFrom_20 rfl (j := 3) rfl <| x_iload hC dX6_firstFrom_21 (j := 0) rfl <| ?_
        obtain ⟨x4, h4, h⟩ := Option.bind_eq_some_iff.mp h
        refine x_callV hC hR dX6_firstFrom_23 mK_X3_price wml_X6_40 (C_X3_price (a1 := l2) (a2 := (J_X3_neighbour l2 l3)) (σ := σ) h4) (by omega) rfl (by decide) rfl rfl (xlt (by decide)) rfl (Nat.le_of_ble_eq_true rfl) rfl rfl rfl <| ?_
        refine x_aload_n hC dX6_firstFrom_26 rfl (j := 1) rfl <| x_iload hC dX6_firstFrom_27 (j := 0) rfl <| ?_
        obtain ⟨x5, h5, h⟩ := Option.bind_eq_some_iff.mp h
        refine x_callV hC hR dX6_firstFrom_29 mK_X6_costFrom wml_X6_52 (C_X6_costFrom (a1 := (J_X3_neighbour l2 l3)) (σ := σ) h5) (by omega) rfl (by decide) rfl rfl (xlt (by decide)) rfl (Nat.le_of_ble_eq_true rfl) rfl rfl rfl <| ?_
        refine x_iadd hC dX6_firstFrom_32 <| x_aload_n hC dX6_firstFrom_33 rfl (j := 1) rfl <| x_iload_n hC dX6_firstFrom_34 rfl (j := 3) rfl <| ?_
        obtain ⟨x6, h6, h⟩ := Option.bind_eq_some_iff.mp h
        refine x_callV hC hR dX6_firstFrom_35 mK_X6_costFrom wml_X6_52 (C_X6_costFrom (a1 := l2) (σ := σ) h6) (by omega) rfl (by decide) rfl rfl (xlt (by decide)) rfl (Nat.le_of_ble_eq_true rfl) rfl rfl rfl <| ?_
        refine x_icmp_ne (tgt := 44) hC dX6_firstFrom_38 (by decide) (fun c7 => ?_) (fun c7 => ?_)
        · replace h := (if_neg c7).symm.trans h
          refine x_sub [1, 2, 3, 4] rfl ?_
          exact B_X6_firstFrom_44 hC hR hE ih l2 l3 h
        · replace h := (if_pos c7).symm.trans h
          refine x_iload hC dX6_firstFrom_41 (j := 0) rfl <| ?_
          have e1 := Option.some.inj h
          subst e1
          exact x_iret (rest := []) hC hE rfl dX6_firstFrom_43
set_option maxRecDepth 100000 in
set_option maxHeartbeats 4000000 in
theorem C_X6_firstFrom {G : xG} {l : Launch} {a2 : Int32} {σ : xS2} {r : Int32} (h : J_X6_firstFrom a2 σ = some r) : xC G l mM_X6_firstFrom 2 [.ref (xad G 13), .ref (xad G 1), .int a2] (xM σ) (some (.int r)) (xM σ) := by
  refine xC_of (by decide) rfl (Nat.le_refl _) (Nat.le_of_ble_eq_true rfl) (fun K hC hE hR _ => ?_)
  refine x_iconst (v := (1 : Int32)) hC dX6_firstFrom_0 (by decide) <| x_istore_n hC dX6_firstFrom_1 rfl (by decide) rfl <| ?_
  refine x_sub [1, 2, 3, 0] rfl ?_
  exact B_X6_firstFrom_2 hC hR hE xFU a2 (1 : Int32) h
set_option maxRecDepth 100000 in
set_option maxHeartbeats 4000000 in
theorem B_X6_leastRest_76 {G : xG} {l : Launch} {K : xK} {r : Int32} {σ : xS2} (hC : xCX G mM_X6_leastRest K) (hR : xRd K 2) (hE : xE G K (some (.int r)) (xM σ)) {k21 : Int32 → Int32 → Int32 → Int32 → xS2 → Option Int32} (hk21 : ∀ (l1 : Int32) (l2 : Int32) (l3 : Int32) (l4 : Int32), k21 l1 l2 l3 l4 σ = some r → xV G l mM_X6_leastRest K 21 [(0, .ref (xad G 13)), (1, .int l1), (2, .int l2), (3, .int l3), (4, .int l4)] [] (xM σ)) : ∀ (l1 : Int32) (l2 : Int32) (l3 : Int32) (l4 : Int32), J_X6_leastRest_76 k21 l1 l2 l3 l4 σ = some r → xV G l mM_X6_leastRest K 76 [(0, .ref (xad G 13)), (1, .int l1), (2, .int l2), (3, .int l3), (4, .int l4)] [] (xM σ) := by
  intro l1 l2 l3 l4 h
  refine x_iinc hC dX6_leastRest_76 (j := 4) (v := (l4 + (1 : Int32))) rfl rfl (by decide) rfl <| x_goto (tgt := 21) hC dX6_leastRest_79 (by decide) <| ?_
  refine x_sub [1, 2, 3, 4, 0] rfl ?_
  exact hk21 l1 l2 l3 (l4 + (1 : Int32)) h
set_option maxRecDepth 100000 in
set_option maxHeartbeats 4000000 in
theorem B_X6_leastRest_21 {G : xG} {l : Launch} {K : xK} {r : Int32} {σ : xS2} (hC : xCX G mM_X6_leastRest K) (hR : xRd K 2) (hE : xE G K (some (.int r)) (xM σ)) : ∀ (f : Nat) (l1 : Int32) (l2 : Int32) (l3 : Int32) (l4 : Int32), J_X6_leastRest_21 f l1 l2 l3 l4 σ = some r → xV G l mM_X6_leastRest K 21 [(0, .ref (xad G 13)), (1, .int l1), (2, .int l2), (3, .int l3), (4, .int l4)] [] (xM σ) := by
  intro f
  induction f with
  | zero => intro l1 l2 l3 l4 h; cases h
  | succ f ih =>
    intro l1 l2 l3 l4 h
    refine x_iload hC dX6_leastRest_21 (j := 4) rfl <| x_aload_n hC dX6_leastRest_23 rfl (j := 0) rfl <| s_getI hC dX6_leastRest_24 wfl_X6_60 rfl (by decide) (by decide) (by decide) (by decide) <| ?_
    refine x_icmp_ge (tgt := 82) hC dX6_leastRest_27 (by decide) (fun c2 => ?_) (fun c2 => ?_)
    · replace h := (if_pos c2).symm.trans h
      refine x_iload_n hC dX6_leastRest_82 rfl (j := 3) rfl <| ?_
      have e1 := Option.some.inj h
      subst e1
      exact x_iret (rest := []) hC hE rfl dX6_leastRest_83
    · replace h := (if_neg c2).symm.trans h
      refine x_iload_n hC dX6_leastRest_30 rfl (j := 1) rfl <| x_iload hC dX6_leastRest_31 (j := 4) rfl <| x_iushr (v := (xus l1 l4)) hC dX6_leastRest_33 rfl <| x_iconst (v := (1 : Int32)) hC dX6_leastRest_34 (by decide) <| x_iand hC dX6_leastRest_35 <| ?_
      refine x_if_eq (tgt := 76) hC dX6_leastRest_36 (by decide) (fun c3 => ?_) (fun c3 => ?_)
      · replace h := (if_pos c3).symm.trans h
        refine x_sub [0, 1, 2, 3, 4] rfl ?_
        exact B_X6_leastRest_76 hC hR hE ih l1 l2 l3 l4 h
      · replace h := (if_neg c3).symm.trans h
        refine x_aload_n hC dX6_leastRest_39 rfl (j := 0) rfl <| s_getR (q := 18) hC dX6_leastRest_40 wfl_X6_24 rfl (by decide) (by decide) (by decide) (by decide) (by decide) <| x_iload_n hC dX6_leastRest_43 rfl (j := 1) rfl <| x_iconst (v := (1 : Int32)) hC dX6_leastRest_44 (by decide) <| x_iload hC dX6_leastRest_45 (j := 4) rfl <| x_ishl hC dX6_leastRest_47 <| ?_
        refine x_ixor hC dX6_leastRest_48 <| x_iconst (v := (5 : Int32)) hC dX6_leastRest_49 (by decide) <| x_imul hC dX6_leastRest_50 <| x_iload hC dX6_leastRest_51 (j := 4) rfl <| x_iadd hC dX6_leastRest_53 <| ?_
        obtain ⟨h4, h⟩ := xgd_some h
        refine s_iald hC dX6_leastRest_54 rfl (by decide) h4 <| ?_
        refine x_istore hC dX6_leastRest_55 (by decide) rfl <| x_iload_n hC dX6_leastRest_57 rfl (j := 4) rfl <| x_aload_n hC dX6_leastRest_58 rfl (j := 1) rfl <| s_getR (q := 17) hC dX6_leastRest_59 wfl_X6_21 rfl (by decide) (by decide) (by decide) (by decide) (by decide) <| x_iload_n hC dX6_leastRest_62 rfl (j := 3) rfl <| x_iconst (v := (5 : Int32)) hC dX6_leastRest_63 (by decide) <| ?_
        refine x_imul hC dX6_leastRest_64 <| x_iload hC dX6_leastRest_65 (j := 5) rfl <| x_iadd hC dX6_leastRest_67 <| ?_
        obtain ⟨h5, h⟩ := xgd_some h
        refine s_iald hC dX6_leastRest_68 rfl (by decide) h5 <| ?_
        refine x_iload hC dX6_leastRest_69 (j := 0) rfl <| x_iadd hC dX6_leastRest_71 <| x_mmin hC hR (by omega) dX6_leastRest_72 wml_X6_43 (Nat.le_of_ble_eq_true rfl) <| x_istore_n hC dX6_leastRest_75 rfl (by decide) rfl <| ?_
        refine x_sub [2, 3, 4, 0, 5] rfl ?_
        exact B_X6_leastRest_76 hC hR hE ih l1 l2 (xmin l3 ((σ.1 17 ((l2 * (5 : Int32)) + l4).toNatClampNeg) + (σ.1 18 (((l1 ^^^ ((1 : Int32) <<< (l4 &&& 31))) * (5 : Int32)) + l4).toNatClampNeg))) l4 h
set_option maxRecDepth 100000 in
set_option maxHeartbeats 4000000 in
theorem C_X6_leastRest {G : xG} {l : Launch} {a1 : Int32} {a2 : Int32} {σ : xS2} {r : Int32} (h : J_X6_leastRest a1 a2 σ = some r) : xC G l mM_X6_leastRest 2 [.ref (xad G 13), .int a1, .int a2] (xM σ) (some (.int r)) (xM σ) := by
  refine xC_of (by decide) rfl (Nat.le_refl _) (Nat.le_of_ble_eq_true rfl) (fun K hC hE hR _ => ?_)
  refine x_iload_n hC dX6_leastRest_0 rfl (j := 1) rfl <| ?_
  refine x_if_ne (tgt := 15) hC dX6_leastRest_1 (by decide) (fun c1 => ?_) (fun c1 => ?_)
  · replace h := (if_neg c1).symm.trans h
    refine x_ldc hC dX6_leastRest_15 wconst_X6_27 <| x_istore_n hC dX6_leastRest_17 rfl (by decide) rfl <| x_iconst (v := (0 : Int32)) hC dX6_leastRest_18 (by decide) <| x_istore hC dX6_leastRest_19 (by decide) rfl <| ?_
    refine x_sub [2, 3, 4, 1, 0] rfl ?_
    exact B_X6_leastRest_21 hC hR hE xFU a1 a2 (1000000 : Int32) (0 : Int32) h
  · replace h := (if_pos c1).symm.trans h
    refine x_aload_n hC dX6_leastRest_4 rfl (j := 0) rfl <| x_aload_n hC dX6_leastRest_5 rfl (j := 0) rfl <| s_getR (q := 15) hC dX6_leastRest_6 wfl_X6_15 rfl (by decide) (by decide) (by decide) (by decide) (by decide) <| x_iload_n hC dX6_leastRest_9 rfl (j := 2) rfl <| ?_
    obtain ⟨h6, h⟩ := xgd_some h
    refine s_iald hC dX6_leastRest_10 rfl (by decide) h6 <| ?_
    obtain ⟨x7, h7, h⟩ := Option.bind_eq_some_iff.mp h
    refine x_callV hC hR dX6_leastRest_11 mK_X6_costFrom wml_X6_52 (C_X6_costFrom (a1 := (σ.1 15 a2.toNatClampNeg)) (σ := σ) h7) (by omega) rfl (by decide) rfl rfl (xlt (by decide)) rfl (Nat.le_of_ble_eq_true rfl) rfl rfl rfl <| ?_
    have e1 := Option.some.inj h
    subst e1
    exact x_iret (rest := []) hC hE rfl dX6_leastRest_14
set_option maxRecDepth 100000 in
set_option maxHeartbeats 4000000 in
theorem B_X6_listStones_62 {G : xG} {l : Launch} {K : xK} {r : Bool} {τ : xS2} (hC : xCX G mM_X6_listStones K) (hR : xRd K 1) (hE : xE G K (some (.int (xb r))) (xM τ)) {k7 : Nat → Int32 → xS2 → Option (Bool × xS2)} (hk7 : ∀ (l2 : Nat) (hl2 : xSH l2 = (0, 4)) (l3 : Int32) (σ : xS2), k7 l2 l3 σ = some (r, τ) → xV G l mM_X6_listStones K 7 [(0, .ref (xad G 13)), (1, .ref (xad G 1)), (2, .ref (xad G l2)), (3, .int l3)] [] (xM σ)) : ∀ (l2 : Nat) (hl2 : xSH l2 = (0, 4)) (l3 : Int32) (σ : xS2), J_X6_listStones_62 k7 l2 l3 σ = some (r, τ) → xV G l mM_X6_listStones K 62 [(0, .ref (xad G 13)), (1, .ref (xad G 1)), (2, .ref (xad G l2)), (3, .int l3)] [] (xM σ) := by
  intro l2 hl2 l3 σ h
  refine x_iinc hC dX6_listStones_62 (j := 3) (v := (l3 + (1 : Int32))) rfl rfl (by decide) rfl <| x_goto (tgt := 7) hC dX6_listStones_65 (by decide) <| ?_
  refine x_sub [1, 2, 3, 0] rfl ?_
  exact hk7 l2 hl2 (l3 + (1 : Int32)) σ h
set_option maxRecDepth 100000 in
set_option maxHeartbeats 4000000 in
theorem B_X6_listStones_7 {G : xG} {l : Launch} {K : xK} {r : Bool} {τ : xS2} (hC : xCX G mM_X6_listStones K) (hR : xRd K 1) (hE : xE G K (some (.int (xb r))) (xM τ)) : ∀ (f : Nat) (l2 : Nat) (hl2 : xSH l2 = (0, 4)) (l3 : Int32) (σ : xS2), J_X6_listStones_7 f l2 l3 σ = some (r, τ) → xV G l mM_X6_listStones K 7 [(0, .ref (xad G 13)), (1, .ref (xad G 1)), (2, .ref (xad G l2)), (3, .int l3)] [] (xM σ) := by
  intro f
  induction f with
  | zero => intro l2 hl2 l3 σ h; cases h
  | succ f ih =>
    intro l2 hl2 l3 σ h
    refine x_iload_n hC dX6_listStones_7 rfl (j := 3) rfl <| x_bipush (v := (36 : Int32)) hC dX6_listStones_8 (by decide) <| ?_
    refine x_icmp_ge (tgt := 68) hC dX6_listStones_10 (by decide) (fun c1 => ?_) (fun c1 => ?_)
    · replace h := (if_pos c1).symm.trans h
      refine x_iconst (v := (1 : Int32)) hC dX6_listStones_68 (by decide) <| ?_
      obtain ⟨e1, e2⟩ := xso2 h
      subst e1
      subst e2
      exact x_zret (rest := []) hC hE rfl (by decide) dX6_listStones_69
    · replace h := (if_neg c1).symm.trans h
      refine x_aload_n hC dX6_listStones_13 rfl (j := 1) rfl <| x_iload_n hC dX6_listStones_14 rfl (j := 3) rfl <| ?_
      obtain ⟨x2, h2, h⟩ := Option.bind_eq_some_iff.mp h
      refine x_callV hC hR dX6_listStones_15 mK_X3_isStone wml_X6_79 (C_X3_isStone (a1 := l3) (σ := σ) h2) (by omega) rfl (by decide) rfl rfl (xlt (by decide)) rfl (Nat.le_of_ble_eq_true rfl) rfl rfl rfl <| ?_
      refine x_if_eq (tgt := 62) hC dX6_listStones_18 (by decide) (fun c3 => ?_) (fun c3 => ?_)
      · replace h := (if_pos c3).symm.trans h
        refine x_sub [0, 1, 2, 3] rfl ?_
        exact B_X6_listStones_62 hC hR hE ih l2 hl2 l3 σ h
      · replace h := (if_neg c3).symm.trans h
        refine x_aload_n hC dX6_listStones_21 rfl (j := 2) rfl <| x_iload_n hC dX6_listStones_22 rfl (j := 3) rfl <| x_callV hC hR dX6_listStones_23 mK_X0_hasLookedAt wml_X6_82 (C_X0_hasLookedAt (a0 := l2) (a1 := l3) (σ := σ) hl2) (by omega) hl2 (by decide) rfl rfl (xlo hl2 (by decide)) rfl (Nat.le_of_ble_eq_true rfl) rfl rfl rfl <| ?_
        refine x_if_eq (tgt := 32) hC dX6_listStones_26 (by decide) (fun c5 => ?_) (fun c5 => ?_)
        · replace h := (if_pos c5).symm.trans h
          refine x_aload_n hC dX6_listStones_32 rfl (j := 0) rfl <| s_getI hC dX6_listStones_33 wfl_X6_60 rfl (by decide) (by decide) (by decide) (by decide) <| x_iconst (v := (5 : Int32)) hC dX6_listStones_36 (by decide) <| ?_
          refine x_icmp_lt (tgt := 42) hC dX6_listStones_37 (by decide) (fun c6 => ?_) (fun c6 => ?_)
          · replace h := (if_pos c6).symm.trans h
            refine x_aload_n hC dX6_listStones_42 rfl (j := 0) rfl <| s_getR (q := 15) hC dX6_listStones_43 wfl_X6_15 rfl (by decide) (by decide) (by decide) (by decide) (by decide) <| x_aload_n hC dX6_listStones_46 rfl (j := 0) rfl <| s_getI hC dX6_listStones_47 wfl_X6_60 rfl (by decide) (by decide) (by decide) (by decide) <| x_iload_n hC dX6_listStones_50 rfl (j := 3) rfl <| ?_
            obtain ⟨h7, h⟩ := xgd_some h
            refine s_iast hC dX6_listStones_51 rfl (by decide) h7 <| ?_
            refine x_aload_n hC dX6_listStones_52 rfl (j := 0) rfl <| x_dup hC dX6_listStones_53 rfl <| s_getI hC dX6_listStones_54 wfl_X6_60 rfl (by decide) (by decide) (by decide) (by decide) <| x_iconst (v := (1 : Int32)) hC dX6_listStones_57 (by decide) <| x_iadd hC dX6_listStones_58 <| s_putI hC dX6_listStones_59 wfl_X6_60 rfl (by decide) (by decide) (by decide) (by decide) (by decide) <| ?_
            refine x_sub [0, 1, 2, 3] rfl ?_
            exact B_X6_listStones_62 hC hR hE ih l2 hl2 l3 (yI (yI σ 15 (σ.1 13 5).toNatClampNeg l3) 13 5 ((σ.1 13 5) + (1 : Int32))) h
          · replace h := (if_neg c6).symm.trans h
            refine x_iconst (v := (0 : Int32)) hC dX6_listStones_40 (by decide) <| ?_
            obtain ⟨e1, e2⟩ := xso2 h
            subst e1
            subst e2
            exact x_zret (rest := []) hC hE rfl (by decide) dX6_listStones_41
        · replace h := (if_neg c5).symm.trans h
          refine x_goto (tgt := 62) hC dX6_listStones_29 (by decide) <| ?_
          refine x_sub [0, 1, 2, 3] rfl ?_
          exact B_X6_listStones_62 hC hR hE ih l2 hl2 l3 σ h
set_option maxRecDepth 100000 in
set_option maxHeartbeats 4000000 in
theorem C_X6_listStones {G : xG} {l : Launch} {a2 : Nat} {σ : xS2} {r : Bool} {τ : xS2} (ha2 : xSH a2 = (0, 4)) (h : J_X6_listStones a2 σ = some (r, τ)) : xC G l mM_X6_listStones 1 [.ref (xad G 13), .ref (xad G 1), .ref (xad G a2)] (xM σ) (some (.int (xb r))) (xM τ) := by
  refine xC_of (by decide) rfl (Nat.le_refl _) (Nat.le_of_ble_eq_true rfl) (fun K hC hE hR _ => ?_)
  refine x_aload_n hC dX6_listStones_0 rfl (j := 0) rfl <| x_iconst (v := (0 : Int32)) hC dX6_listStones_1 (by decide) <| s_putI hC dX6_listStones_2 wfl_X6_60 rfl (by decide) (by decide) (by decide) (by decide) (by decide) <| x_iconst (v := (0 : Int32)) hC dX6_listStones_5 (by decide) <| x_istore_n hC dX6_listStones_6 rfl (by decide) rfl <| ?_
  refine x_sub [1, 2, 3, 0] rfl ?_
  exact B_X6_listStones_7 hC hR hE xFU a2 ha2 (0 : Int32) (yI σ 13 5 (0 : Int32)) h
set_option maxRecDepth 100000 in
set_option maxHeartbeats 4000000 in
theorem B_X6_nearest_46 {G : xG} {l : Launch} {K : xK} {r : Int32} {σ : xS2} (hC : xCX G mM_X6_nearest K) (hR : xRd K 0) (hE : xE G K (some (.int r)) (xM σ)) {k5 : Int64 → Int32 → Int32 → xS2 → Option Int32} (hk5 : ∀ (l1 : Int64) (l3 : Int32) (l4 : Int32), k5 l1 l3 l4 σ = some r → xV G l mM_X6_nearest K 5 [(0, .ref (xad G 13)), (1, .long l1), (3, .int l3), (4, .int l4)] [] (xM σ)) : ∀ (l1 : Int64) (l3 : Int32) (l4 : Int32), J_X6_nearest_46 k5 l1 l3 l4 σ = some r → xV G l mM_X6_nearest K 46 [(0, .ref (xad G 13)), (1, .long l1), (3, .int l3), (4, .int l4)] [] (xM σ) := by
  intro l1 l3 l4 h
  refine x_iinc hC dX6_nearest_46 (j := 3) (v := (l4 + (1 : Int32))) rfl rfl (by decide) rfl <| x_goto (tgt := 5) hC dX6_nearest_49 (by decide) <| ?_
  refine x_sub [1, 2, 3, 0] rfl ?_
  exact hk5 l1 l3 (l4 + (1 : Int32)) h
set_option maxRecDepth 100000 in
set_option maxHeartbeats 4000000 in
theorem B_X6_nearest_43 {G : xG} {l : Launch} {K : xK} {r : Int32} {σ : xS2} (hC : xCX G mM_X6_nearest K) (hR : xRd K 0) (hE : xE G K (some (.int r)) (xM σ)) {k5 : Int64 → Int32 → Int32 → xS2 → Option Int32} (hk5 : ∀ (l1 : Int64) (l3 : Int32) (l4 : Int32), k5 l1 l3 l4 σ = some r → xV G l mM_X6_nearest K 5 [(0, .ref (xad G 13)), (1, .long l1), (3, .int l3), (4, .int l4)] [] (xM σ)) : ∀ (l1 : Int64) (l4 : Int32), J_X6_nearest_43 k5 l1 l4 σ = some r → xV G l mM_X6_nearest K 43 [(0, .ref (xad G 13)), (1, .long l1), (4, .int l4)] [] (xM σ) := by
  intro l1 l4 h
  refine x_iload hC dX6_nearest_43 (j := 2) rfl <| x_istore_n hC dX6_nearest_45 rfl (by decide) rfl <| ?_
  refine x_sub [1, 2, 0, 3] rfl ?_
  exact B_X6_nearest_46 hC hR hE hk5 l1 l4 l4 h
set_option maxRecDepth 100000 in
set_option maxHeartbeats 4000000 in
theorem B_X6_nearest_5 {G : xG} {l : Launch} {K : xK} {r : Int32} {σ : xS2} (hC : xCX G mM_X6_nearest K) (hR : xRd K 0) (hE : xE G K (some (.int r)) (xM σ)) : ∀ (f : Nat) (l1 : Int64) (l3 : Int32) (l4 : Int32), J_X6_nearest_5 f l1 l3 l4 σ = some r → xV G l mM_X6_nearest K 5 [(0, .ref (xad G 13)), (1, .long l1), (3, .int l3), (4, .int l4)] [] (xM σ) := by
  intro f
  induction f with
  | zero => intro l1 l3 l4 h; cases h
  | succ f ih =>
    intro l1 l3 l4 h
    refine x_iload hC dX6_nearest_5 (j := 3) rfl <| x_bipush (v := (36 : Int32)) hC dX6_nearest_7 (by decide) <| ?_
    refine x_icmp_ge (tgt := 52) hC dX6_nearest_9 (by decide) (fun c1 => ?_) (fun c1 => ?_)
    · replace h := (if_pos c1).symm.trans h
      refine x_iload_n hC dX6_nearest_52 rfl (j := 2) rfl <| ?_
      have e1 := Option.some.inj h
      subst e1
      exact x_iret (rest := []) hC hE rfl dX6_nearest_53
    · replace h := (if_neg c1).symm.trans h
      refine x_lload_n hC dX6_nearest_12 rfl (j := 1) rfl <| x_iload hC dX6_nearest_13 (j := 3) rfl <| x_lushr (v := (xlu l1 l4)) hC dX6_nearest_15 rfl <| x_lconst (v := (1 : Int64)) hC dX6_nearest_16 (by decide) <| x_land hC dX6_nearest_17 <| x_lconst (v := (0 : Int64)) hC dX6_nearest_18 (by decide) <| ?_
      refine x_lcmp hC dX6_nearest_19 <| ?_
      refine x_if_ne (tgt := 46) hC dX6_nearest_20 (by decide) (fun c2 => ?_) (fun c2 => ?_)
      · replace h := (if_neg c2).symm.trans h
        refine x_sub [0, 1, 2, 3] rfl ?_
        exact B_X6_nearest_46 hC hR hE ih l1 l3 l4 h
      · replace h := (if_pos c2).symm.trans h
        refine x_iload_n hC dX6_nearest_23 rfl (j := 2) rfl <| ?_
        refine x_if_lt (tgt := 43) hC dX6_nearest_24 (by decide) (fun c3 => ?_) (fun c3 => ?_)
        · replace h := (if_pos c3).symm.trans h
          refine x_sub [0, 1, 3] rfl ?_
          exact B_X6_nearest_43 hC hR hE ih l1 l4 h
        · replace h := (if_neg c3).symm.trans h
          refine x_aload_n hC dX6_nearest_27 rfl (j := 0) rfl <| s_getR (q := 14) hC dX6_nearest_28 wfl_X6_9 rfl (by decide) (by decide) (by decide) (by decide) (by decide) <| x_iload hC dX6_nearest_31 (j := 3) rfl <| ?_
          obtain ⟨h4, h⟩ := xgd_some h
          refine s_iald hC dX6_nearest_33 rfl (by decide) h4 <| ?_
          refine x_aload_n hC dX6_nearest_34 rfl (j := 0) rfl <| s_getR (q := 14) hC dX6_nearest_35 wfl_X6_9 rfl (by decide) (by decide) (by decide) (by decide) (by decide) <| x_iload_n hC dX6_nearest_38 rfl (j := 2) rfl <| ?_
          obtain ⟨h5, h⟩ := xgd_some h
          refine s_iald hC dX6_nearest_39 rfl (by decide) h5 <| ?_
          refine x_icmp_ge (tgt := 46) hC dX6_nearest_40 (by decide) (fun c6 => ?_) (fun c6 => ?_)
          · replace h := (if_pos c6).symm.trans h
            refine x_sub [0, 1, 2, 3] rfl ?_
            exact B_X6_nearest_46 hC hR hE ih l1 l3 l4 h
          · replace h := (if_neg c6).symm.trans h
            refine x_sub [0, 1, 3] rfl ?_
            exact B_X6_nearest_43 hC hR hE ih l1 l4 h
set_option maxRecDepth 100000 in
set_option maxHeartbeats 4000000 in
theorem C_X6_nearest {G : xG} {l : Launch} {a1 : Int64} {σ : xS2} {r : Int32} (h : J_X6_nearest a1 σ = some r) : xC G l mM_X6_nearest 0 [.ref (xad G 13), .long a1] (xM σ) (some (.int r)) (xM σ) := by
  refine xC_of (by decide) rfl (Nat.le_refl _) (Nat.le_of_ble_eq_true rfl) (fun K hC hE hR _ => ?_)
  refine x_iconst (v := (-1 : Int32)) hC dX6_nearest_0 (by decide) <| x_istore_n hC dX6_nearest_1 rfl (by decide) rfl <| x_iconst (v := (0 : Int32)) hC dX6_nearest_2 (by decide) <| x_istore hC dX6_nearest_3 (by decide) rfl <| ?_
  refine x_sub [2, 3, 1, 0] rfl ?_
  exact B_X6_nearest_5 hC hR hE xFU a1 (-1 : Int32) (0 : Int32) h
set_option maxRecDepth 100000 in
set_option maxHeartbeats 4000000 in
theorem B_X6_spreadFrom_50 {G : xG} {l : Launch} {K : xK} {τ : xS2} (hC : xCX G mM_X6_spreadFrom K) (hR : xRd K 2) (hE : xE G K none (xM τ)) {k2 : Int32 → Int32 → xS2 → Option xS2} (hk2 : ∀ (l2 : Int32) (l3 : Int32) (σ : xS2), k2 l2 l3 σ = some τ → xV G l mM_X6_spreadFrom K 2 [(0, .ref (xad G 13)), (1, .ref (xad G 1)), (2, .int l2), (3, .int l3)] [] (xM σ)) : ∀ (l2 : Int32) (l3 : Int32) (σ : xS2), J_X6_spreadFrom_50 k2 l2 l3 σ = some τ → xV G l mM_X6_spreadFrom K 50 [(0, .ref (xad G 13)), (1, .ref (xad G 1)), (2, .int l2), (3, .int l3)] [] (xM σ) := by
  intro l2 l3 σ h
  refine x_iinc hC dX6_spreadFrom_50 (j := 3) (v := (l3 + (1 : Int32))) rfl rfl (by decide) rfl <| x_goto (tgt := 2) hC dX6_spreadFrom_53 (by decide) <| ?_
  refine x_sub [1, 2, 3, 0] rfl ?_
  exact hk2 l2 (l3 + (1 : Int32)) σ h
set_option maxRecDepth 100000 in
set_option maxHeartbeats 4000000 in
theorem B_X6_spreadFrom_2 {G : xG} {l : Launch} {K : xK} {τ : xS2} (hC : xCX G mM_X6_spreadFrom K) (hR : xRd K 2) (hE : xE G K none (xM τ)) : ∀ (f : Nat) (l2 : Int32) (l3 : Int32) (σ : xS2), J_X6_spreadFrom_2 f l2 l3 σ = some τ → xV G l mM_X6_spreadFrom K 2 [(0, .ref (xad G 13)), (1, .ref (xad G 1)), (2, .int l2), (3, .int l3)] [] (xM σ) := by
  intro f
  induction f with
  | zero => intro l2 l3 σ h; cases h
  | succ f ih =>
    intro l2 l3 σ h
    refine x_iload_n hC dX6_spreadFrom_2 rfl (j := 3) rfl <| x_iconst (v := (4 : Int32)) hC dX6_spreadFrom_3 (by decide) <| ?_
    refine x_icmp_gt (tgt := 56) hC dX6_spreadFrom_4 (by decide) (fun c1 => ?_) (fun c1 => ?_)
    · replace h := (if_pos c1).symm.trans h
      have e1 := Option.some.inj h
      subst e1
      exact x_vret (rest := []) hC hE rfl dX6_spreadFrom_56
    · replace h := (if_neg c1).symm.trans h
      refine x_iload_n hC dX6_spreadFrom_7 rfl (j := 2) rfl <| x_iload_n hC dX6_spreadFrom_8 rfl (j := 3) rfl <| x_callS hC hR dX6_spreadFrom_9 mK_X3_neighbour wml_X6_36 (C_X3_neighbour (a0 := l2) (a1 := l3) (σ := σ)) (by omega) rfl (Nat.le_of_ble_eq_true rfl) rfl rfl rfl <| x_istore hC dX6_spreadFrom_12 (by decide) rfl <| x_iload hC dX6_spreadFrom_14 (j := 0) rfl <| ?_
      refine x_if_lt (tgt := 50) hC dX6_spreadFrom_16 (by decide) (fun c3 => ?_) (fun c3 => ?_)
      · replace h := (if_pos c3).symm.trans h
        refine x_sub [1, 2, 3, 4] rfl ?_
        exact B_X6_spreadFrom_50 hC hR hE ih l2 l3 σ h
      · replace h := (if_neg c3).symm.trans h
        refine x_aload_n hC dX6_spreadFrom_19 rfl (j := 1) rfl <| s_getR (q := 14) hC dX6_spreadFrom_20 wfl_X6_9 rfl (by decide) (by decide) (by decide) (by decide) (by decide) <| x_iload hC dX6_spreadFrom_23 (j := 0) rfl <| x_aload_n hC dX6_spreadFrom_25 rfl (j := 1) rfl <| s_getR (q := 14) hC dX6_spreadFrom_26 wfl_X6_9 rfl (by decide) (by decide) (by decide) (by decide) (by decide) <| x_iload hC dX6_spreadFrom_29 (j := 0) rfl <| ?_
        obtain ⟨h4, h⟩ := xgd_some h
        refine s_iald hC dX6_spreadFrom_31 rfl (by decide) h4 <| ?_
        refine x_aload_n hC dX6_spreadFrom_32 rfl (j := 2) rfl <| x_iload hC dX6_spreadFrom_33 (j := 0) rfl <| x_iload_n hC dX6_spreadFrom_35 rfl (j := 3) rfl <| ?_
        obtain ⟨x5, h5, h⟩ := Option.bind_eq_some_iff.mp h
        refine x_callV hC hR dX6_spreadFrom_36 mK_X3_price wml_X6_40 (C_X3_price (a1 := (J_X3_neighbour l2 l3)) (a2 := l2) (σ := σ) h5) (by omega) rfl (by decide) rfl rfl (xlt (by decide)) rfl (Nat.le_of_ble_eq_true rfl) rfl rfl rfl <| ?_
        refine x_aload_n hC dX6_spreadFrom_39 rfl (j := 1) rfl <| s_getR (q := 14) hC dX6_spreadFrom_40 wfl_X6_9 rfl (by decide) (by decide) (by decide) (by decide) (by decide) <| x_iload_n hC dX6_spreadFrom_43 rfl (j := 3) rfl <| ?_
        obtain ⟨h6, h⟩ := xgd_some h
        refine s_iald hC dX6_spreadFrom_44 rfl (by decide) h6 <| ?_
        refine x_iadd hC dX6_spreadFrom_45 <| x_mmin hC hR (by omega) dX6_spreadFrom_46 wml_X6_43 (Nat.le_of_ble_eq_true rfl) <| ?_
        obtain ⟨h7, h⟩ := xgd_some h
        refine s_iast hC dX6_spreadFrom_49 rfl (by decide) h7 <| ?_
        refine x_sub [1, 2, 3, 4] rfl ?_
        exact B_X6_spreadFrom_50 hC hR hE ih l2 l3 (yI σ 14 (J_X3_neighbour l2 l3).toNatClampNeg (xmin (σ.1 14 (J_X3_neighbour l2 l3).toNatClampNeg) (x5 + (σ.1 14 l2.toNatClampNeg)))) h
set_option maxRecDepth 100000 in
set_option maxHeartbeats 4000000 in
theorem C_X6_spreadFrom {G : xG} {l : Launch} {a2 : Int32} {σ : xS2} {τ : xS2} (h : J_X6_spreadFrom a2 σ = some τ) : xC G l mM_X6_spreadFrom 2 [.ref (xad G 13), .ref (xad G 1), .int a2] (xM σ) none (xM τ) := by
  refine xC_of (by decide) rfl (Nat.le_refl _) (Nat.le_of_ble_eq_true rfl) (fun K hC hE hR _ => ?_)
  refine x_iconst (v := (1 : Int32)) hC dX6_spreadFrom_0 (by decide) <| x_istore_n hC dX6_spreadFrom_1 rfl (by decide) rfl <| ?_
  refine x_sub [1, 2, 3, 0] rfl ?_
  exact B_X6_spreadFrom_2 hC hR hE xFU a2 (1 : Int32) σ h
set_option maxRecDepth 100000 in
set_option maxHeartbeats 4000000 in
theorem B_X6_spreadTo_67 {G : xG} {l : Launch} {K : xK} {τ : xS2} (hC : xCX G mM_X6_spreadTo K) (hR : xRd K 3) (hE : xE G K none (xM τ)) : ∀ (f : Nat) (l3 : Int64) (l5 : Int32) (σ : xS2), J_X6_spreadTo_67 f l3 l5 σ = some τ → xV G l mM_X6_spreadTo K 67 [(0, .ref (xad G 13)), (1, .ref (xad G 1)), (3, .long l3), (5, .int l5)] [] (xM σ) := by
  intro f
  induction f with
  | zero => intro l3 l5 σ h; cases h
  | succ f ih =>
    intro l3 l5 σ h
    refine x_iload hC dX6_spreadTo_67 (j := 3) rfl <| x_bipush (v := (36 : Int32)) hC dX6_spreadTo_69 (by decide) <| ?_
    refine x_icmp_ge (tgt := 109) hC dX6_spreadTo_71 (by decide) (fun c2 => ?_) (fun c2 => ?_)
    · replace h := (if_pos c2).symm.trans h
      have e1 := Option.some.inj h
      subst e1
      exact x_vret (rest := []) hC hE rfl dX6_spreadTo_109
    · replace h := (if_neg c2).symm.trans h
      refine x_aload_n hC dX6_spreadTo_74 rfl (j := 0) rfl <| x_lload_n hC dX6_spreadTo_75 rfl (j := 2) rfl <| ?_
      obtain ⟨x3, h3, h⟩ := Option.bind_eq_some_iff.mp h
      refine x_callV hC hR dX6_spreadTo_76 mK_X6_nearest wml_X6_28 (C_X6_nearest (a1 := l3) (σ := σ) h3) (by omega) rfl (by decide) rfl rfl (xlt (by decide)) rfl (Nat.le_of_ble_eq_true rfl) rfl rfl rfl <| ?_
      refine x_istore hC dX6_spreadTo_79 (by decide) rfl <| x_iload hC dX6_spreadTo_81 (j := 0) rfl <| ?_
      refine x_if_ge (tgt := 89) hC dX6_spreadTo_83 (by decide) (fun c4 => ?_) (fun c4 => ?_)
      · replace h := (if_pos c4).symm.trans h
        refine x_lload_n hC dX6_spreadTo_89 rfl (j := 3) rfl <| x_lconst (v := (1 : Int64)) hC dX6_spreadTo_90 (by decide) <| x_iload hC dX6_spreadTo_91 (j := 0) rfl <| x_lshl (v := (xls (1 : Int64) x3)) hC dX6_spreadTo_93 rfl <| x_lor hC dX6_spreadTo_94 <| x_lstore_n hC dX6_spreadTo_95 rfl (by decide) rfl <| ?_
        refine x_aload_n hC dX6_spreadTo_96 rfl (j := 2) rfl <| x_aload_n hC dX6_spreadTo_97 rfl (j := 3) rfl <| x_iload hC dX6_spreadTo_98 (j := 1) rfl <| ?_
        obtain ⟨x5, h5, h⟩ := Option.bind_eq_some_iff.mp h
        refine x_callV hC hR dX6_spreadTo_100 mK_X6_spreadFrom wml_X6_32 (C_X6_spreadFrom (a2 := x3) (σ := σ) h5) (by omega) rfl (by decide) rfl rfl (xlt (by decide)) rfl (Nat.le_of_ble_eq_true rfl) rfl rfl rfl <| ?_
        refine x_iinc hC dX6_spreadTo_103 (j := 4) (v := (l5 + (1 : Int32))) rfl rfl (by decide) rfl <| x_goto (tgt := 67) hC dX6_spreadTo_106 (by decide) <| ?_
        refine x_sub [3, 4, 1, 0] rfl ?_
        exact ih (l3 ||| (xls (1 : Int64) x3)) (l5 + (1 : Int32)) x5 h
      · replace h := (if_neg c4).symm.trans h
        refine x_goto (tgt := 109) hC dX6_spreadTo_86 (by decide) <| ?_
        have e1 := Option.some.inj h
        subst e1
        exact x_vret (rest := []) hC hE rfl dX6_spreadTo_109
set_option maxRecDepth 100000 in
set_option maxHeartbeats 4000000 in
theorem B_X6_spreadTo_55 {G : xG} {l : Launch} {K : xK} {τ : xS2} (hC : xCX G mM_X6_spreadTo K) (hR : xRd K 3) (hE : xE G K none (xM τ)) {k2 : Int32 → Int32 → xS2 → Option xS2} (hk2 : ∀ (l2 : Int32) (l3 : Int32) (σ : xS2), k2 l2 l3 σ = some τ → xV G l mM_X6_spreadTo K 2 [(0, .ref (xad G 13)), (1, .ref (xad G 1)), (2, .int l2), (3, .int l3)] [] (xM σ)) : ∀ (l2 : Int32) (l3 : Int32) (s1 : Int32) (s2 : Int32) (σ : xS2), J_X6_spreadTo_55 k2 l2 l3 s1 s2 σ = some τ → xV G l mM_X6_spreadTo K 55 [(0, .ref (xad G 13)), (1, .ref (xad G 1)), (2, .int l2), (3, .int l3)] [.int s2, .int s1, .ref (xad G 14)] (xM σ) := by
  intro l2 l3 s1 s2 σ h
  obtain ⟨h9, h⟩ := xgd_some h
  refine s_iast hC dX6_spreadTo_55 rfl (by decide) h9 <| ?_
  refine x_iinc hC dX6_spreadTo_56 (j := 3) (v := (l3 + (1 : Int32))) rfl rfl (by decide) rfl <| x_goto (tgt := 2) hC dX6_spreadTo_59 (by decide) <| ?_
  refine x_sub [1, 2, 3, 0] rfl ?_
  exact hk2 l2 (l3 + (1 : Int32)) (yI σ 14 s1.toNatClampNeg s2) h
set_option maxRecDepth 100000 in
set_option maxHeartbeats 4000000 in
theorem B_X6_spreadTo_37 {G : xG} {l : Launch} {K : xK} {τ : xS2} (hC : xCX G mM_X6_spreadTo K) (hR : xRd K 3) (hE : xE G K none (xM τ)) {k2 : Int32 → Int32 → xS2 → Option xS2} (hk2 : ∀ (l2 : Int32) (l3 : Int32) (σ : xS2), k2 l2 l3 σ = some τ → xV G l mM_X6_spreadTo K 2 [(0, .ref (xad G 13)), (1, .ref (xad G 1)), (2, .int l2), (3, .int l3)] [] (xM σ)) : ∀ (l2 : Int32) (l3 : Int32) (s0 : Bool) (σ : xS2), J_X6_spreadTo_37 k2 l2 l3 s0 σ = some τ → xV G l mM_X6_spreadTo K 37 [(0, .ref (xad G 13)), (1, .ref (xad G 1)), (2, .int l2), (3, .int l3)] [.int (xb s0)] (xM σ) := by
  intro l2 l3 s0 σ h
  refine x_istore hC dX6_spreadTo_37 (by decide) rfl <| x_aload_n hC dX6_spreadTo_39 rfl (j := 1) rfl <| s_getR (q := 14) hC dX6_spreadTo_40 wfl_X6_9 rfl (by decide) (by decide) (by decide) (by decide) (by decide) <| x_iload_n hC dX6_spreadTo_43 rfl (j := 4) rfl <| x_iload hC dX6_spreadTo_44 (j := 0) rfl <| ?_
  refine x_if_eq (tgt := 53) hC dX6_spreadTo_46 (by decide) (fun c8 => ?_) (fun c8 => ?_)
  · replace h := (if_pos c8).symm.trans h
    refine x_ldc hC dX6_spreadTo_53 wconst_X6_27 <| ?_
    refine x_sub [1, 2, 3, 4] rfl ?_
    exact B_X6_spreadTo_55 hC hR hE hk2 l2 l3 l3 (1000000 : Int32) σ h
  · replace h := (if_neg c8).symm.trans h
    refine x_iconst (v := (0 : Int32)) hC dX6_spreadTo_49 (by decide) <| x_goto (tgt := 55) hC dX6_spreadTo_50 (by decide) <| ?_
    refine x_sub [1, 2, 3, 4] rfl ?_
    exact B_X6_spreadTo_55 hC hR hE hk2 l2 l3 l3 (0 : Int32) σ h
set_option maxRecDepth 100000 in
set_option maxHeartbeats 4000000 in
theorem B_X6_spreadTo_2 {G : xG} {l : Launch} {K : xK} {τ : xS2} (hC : xCX G mM_X6_spreadTo K) (hR : xRd K 3) (hE : xE G K none (xM τ)) : ∀ (f : Nat) (l2 : Int32) (l3 : Int32) (σ : xS2), J_X6_spreadTo_2 f l2 l3 σ = some τ → xV G l mM_X6_spreadTo K 2 [(0, .ref (xad G 13)), (1, .ref (xad G 1)), (2, .int l2), (3, .int l3)] [] (xM σ) := by
  intro f
  induction f with
  | zero => intro l2 l3 σ h; cases h
  | succ f ih =>
    intro l2 l3 σ h
    refine x_iload_n hC dX6_spreadTo_2 rfl (j := 3) rfl <| x_bipush (v := (36 : Int32)) hC dX6_spreadTo_3 (by decide) <| ?_
    refine x_icmp_ge (tgt := 62) hC dX6_spreadTo_5 (by decide) (fun c1 => ?_) (fun c1 => ?_)
    · replace h := (if_pos c1).symm.trans h
      refine x_lconst (v := (0 : Int64)) hC dX6_spreadTo_62 (by decide) <| x_lstore_n hC dX6_spreadTo_63 rfl (by decide) rfl <| x_iconst (v := (0 : Int32)) hC dX6_spreadTo_64 (by decide) <| x_istore hC dX6_spreadTo_65 (by decide) rfl <| ?_
      refine x_sub [2, 3, 1, 0] rfl ?_
      exact B_X6_spreadTo_67 hC hR hE xFU (0 : Int64) (0 : Int32) σ h
    · replace h := (if_neg c1).symm.trans h
      refine x_iload_n hC dX6_spreadTo_8 rfl (j := 2) rfl <| x_iconst (v := (-1 : Int32)) hC dX6_spreadTo_9 (by decide) <| ?_
      refine x_icmp_ne (tgt := 27) hC dX6_spreadTo_10 (by decide) (fun c6 => ?_) (fun c6 => ?_)
      · replace h := (if_neg c6).symm.trans h
        refine x_iload_n hC dX6_spreadTo_27 rfl (j := 3) rfl <| x_iload_n hC dX6_spreadTo_28 rfl (j := 2) rfl <| ?_
        refine x_icmp_ne (tgt := 36) hC dX6_spreadTo_29 (by decide) (fun c7 => ?_) (fun c7 => ?_)
        · replace h := (if_neg c7).symm.trans h
          refine x_iconst (v := (0 : Int32)) hC dX6_spreadTo_36 (by decide) <| ?_
          refine x_sub [0, 1, 2, 3] rfl ?_
          exact B_X6_spreadTo_37 hC hR hE ih l2 l3 false σ h
        · replace h := (if_pos c7).symm.trans h
          refine x_iconst (v := (1 : Int32)) hC dX6_spreadTo_32 (by decide) <| x_goto (tgt := 37) hC dX6_spreadTo_33 (by decide) <| ?_
          refine x_sub [0, 1, 2, 3] rfl ?_
          exact B_X6_spreadTo_37 hC hR hE ih l2 l3 true σ h
      · replace h := (if_pos c6).symm.trans h
        refine x_iload_n hC dX6_spreadTo_13 rfl (j := 3) rfl <| x_bipush (v := (6 : Int32)) hC dX6_spreadTo_14 (by decide) <| ?_
        refine x_icmp_ge (tgt := 23) hC dX6_spreadTo_16 (by decide) (fun c10 => ?_) (fun c10 => ?_)
        · replace h := (if_pos c10).symm.trans h
          refine x_iconst (v := (0 : Int32)) hC dX6_spreadTo_23 (by decide) <| x_goto (tgt := 37) hC dX6_spreadTo_24 (by decide) <| ?_
          refine x_sub [0, 1, 2, 3] rfl ?_
          exact B_X6_spreadTo_37 hC hR hE ih l2 l3 false σ h
        · replace h := (if_neg c10).symm.trans h
          refine x_iconst (v := (1 : Int32)) hC dX6_spreadTo_19 (by decide) <| x_goto (tgt := 37) hC dX6_spreadTo_20 (by decide) <| ?_
          refine x_sub [0, 1, 2, 3] rfl ?_
          exact B_X6_spreadTo_37 hC hR hE ih l2 l3 true σ h
set_option maxRecDepth 100000 in
set_option maxHeartbeats 4000000 in
theorem C_X6_spreadTo {G : xG} {l : Launch} {a2 : Int32} {σ : xS2} {τ : xS2} (h : J_X6_spreadTo a2 σ = some τ) : xC G l mM_X6_spreadTo 3 [.ref (xad G 13), .ref (xad G 1), .int a2] (xM σ) none (xM τ) := by
  refine xC_of (by decide) rfl (Nat.le_refl _) (Nat.le_of_ble_eq_true rfl) (fun K hC hE hR _ => ?_)
  refine x_iconst (v := (0 : Int32)) hC dX6_spreadTo_0 (by decide) <| x_istore_n hC dX6_spreadTo_1 rfl (by decide) rfl <| ?_
  refine x_sub [1, 2, 3, 0] rfl ?_
  exact B_X6_spreadTo_2 hC hR hE xFU a2 (0 : Int32) σ h
set_option maxRecDepth 100000 in
set_option maxHeartbeats 4000000 in
theorem B_X6_planRound_113 {G : xG} {l : Launch} {K : xK} {r : Bool} {τ : xS2} (hC : xCX G mM_X6_planRound K) (hR : xRd K 4) (hE : xE G K (some (.int (xb r))) (xM τ)) {k100 : Nat → Int32 → xS2 → Option (Bool × xS2)} (hk100 : ∀ (l2 : Nat) (hl2 : xSH l2 = (0, 4)) (l3 : Int32) (σ : xS2), k100 l2 l3 σ = some (r, τ) → xV G l mM_X6_planRound K 100 [(0, .ref (xad G 13)), (2, .ref (xad G l2)), (3, .int l3)] [] (xM σ)) : ∀ (f : Nat) (l2 : Nat) (hl2 : xSH l2 = (0, 4)) (l3 : Int32) (l4 : Int32) (σ : xS2), J_X6_planRound_113 k100 f l2 l3 l4 σ = some (r, τ) → xV G l mM_X6_planRound K 113 [(0, .ref (xad G 13)), (2, .ref (xad G l2)), (3, .int l3), (4, .int l4)] [] (xM σ) := by
  intro f
  induction f with
  | zero => intro l2 hl2 l3 l4 σ h; cases h
  | succ f ih =>
    intro l2 hl2 l3 l4 σ h
    refine x_iload hC dX6_planRound_113 (j := 3) rfl <| x_aload_n hC dX6_planRound_115 rfl (j := 0) rfl <| s_getI hC dX6_planRound_116 wfl_X6_60 rfl (by decide) (by decide) (by decide) (by decide) <| ?_
    refine x_icmp_ge (tgt := 146) hC dX6_planRound_119 (by decide) (fun c8 => ?_) (fun c8 => ?_)
    · replace h := (if_pos c8).symm.trans h
      refine x_iinc hC dX6_planRound_146 (j := 2) (v := (l3 + (1 : Int32))) rfl rfl (by decide) rfl <| x_goto (tgt := 100) hC dX6_planRound_149 (by decide) <| ?_
      refine x_sub [1, 2, 0] rfl ?_
      exact hk100 l2 hl2 (l3 + (1 : Int32)) σ h
    · replace h := (if_neg c8).symm.trans h
      refine x_aload_n hC dX6_planRound_122 rfl (j := 0) rfl <| s_getR (q := 18) hC dX6_planRound_123 wfl_X6_24 rfl (by decide) (by decide) (by decide) (by decide) (by decide) <| x_iload_n hC dX6_planRound_126 rfl (j := 2) rfl <| x_iconst (v := (5 : Int32)) hC dX6_planRound_127 (by decide) <| x_imul hC dX6_planRound_128 <| x_iload hC dX6_planRound_129 (j := 3) rfl <| ?_
      refine x_iadd hC dX6_planRound_131 <| x_aload_n hC dX6_planRound_132 rfl (j := 0) rfl <| x_iload_n hC dX6_planRound_133 rfl (j := 2) rfl <| x_iload hC dX6_planRound_134 (j := 3) rfl <| ?_
      obtain ⟨x9, h9, h⟩ := Option.bind_eq_some_iff.mp h
      refine x_callV hC hR dX6_planRound_136 mK_X6_leastRest wml_X6_72 (C_X6_leastRest (a1 := l3) (a2 := l4) (σ := σ) h9) (by omega) rfl (by decide) rfl rfl (xlt (by decide)) rfl (Nat.le_of_ble_eq_true rfl) rfl rfl rfl <| ?_
      obtain ⟨h10, h⟩ := xgd_some h
      refine s_iast hC dX6_planRound_139 rfl (by decide) h10 <| ?_
      refine x_iinc hC dX6_planRound_140 (j := 3) (v := (l4 + (1 : Int32))) rfl rfl (by decide) rfl <| x_goto (tgt := 113) hC dX6_planRound_143 (by decide) <| ?_
      refine x_sub [1, 2, 3, 0] rfl ?_
      exact ih l2 hl2 l3 (l4 + (1 : Int32)) (yI σ 18 ((l3 * (5 : Int32)) + l4).toNatClampNeg x9) h
set_option maxRecDepth 100000 in
set_option maxHeartbeats 4000000 in
theorem B_X6_planRound_100 {G : xG} {l : Launch} {K : xK} {r : Bool} {τ : xS2} (hC : xCX G mM_X6_planRound K) (hR : xRd K 4) (hE : xE G K (some (.int (xb r))) (xM τ)) : ∀ (f : Nat) (l2 : Nat) (hl2 : xSH l2 = (0, 4)) (l3 : Int32) (σ : xS2), J_X6_planRound_100 f l2 l3 σ = some (r, τ) → xV G l mM_X6_planRound K 100 [(0, .ref (xad G 13)), (2, .ref (xad G l2)), (3, .int l3)] [] (xM σ) := by
  intro f
  induction f with
  | zero => intro l2 hl2 l3 σ h; cases h
  | succ f ih =>
    intro l2 hl2 l3 σ h
    refine x_iload_n hC dX6_planRound_100 rfl (j := 2) rfl <| x_iconst (v := (1 : Int32)) hC dX6_planRound_101 (by decide) <| x_aload_n hC dX6_planRound_102 rfl (j := 0) rfl <| s_getI hC dX6_planRound_103 wfl_X6_60 rfl (by decide) (by decide) (by decide) (by decide) <| x_ishl hC dX6_planRound_106 <| ?_
    refine x_icmp_ge (tgt := 152) hC dX6_planRound_107 (by decide) (fun c5 => ?_) (fun c5 => ?_)
    · replace h := (if_pos c5).symm.trans h
      refine x_aload_n hC dX6_planRound_152 rfl (j := 0) rfl <| x_aload_n hC dX6_planRound_153 rfl (j := 0) rfl <| x_aload_n hC dX6_planRound_154 rfl (j := 1) rfl <| s_getI hC dX6_planRound_155 wfl_X6_67 hl2 (by decide) (by decide) (xlo hl2 (by decide)) (by decide) <| ?_
      obtain ⟨x6, h6, h⟩ := Option.bind_eq_some_iff.mp h
      refine x_callV hC hR dX6_planRound_158 mK_X6_costFrom wml_X6_52 (C_X6_costFrom (a1 := (σ.1 l2 0)) (σ := σ) h6) (by omega) rfl (by decide) rfl rfl (xlt (by decide)) rfl (Nat.le_of_ble_eq_true rfl) rfl rfl rfl <| ?_
      obtain ⟨x7, h7, h⟩ := Option.bind_eq_some_iff.mp h
      refine x_callV hC hR dX6_planRound_161 mK_X6_chooseFirst wml_X6_75 (C_X6_chooseFirst (a1 := x6) (σ := σ) h7) (by omega) rfl (by decide) rfl rfl (xlt (by decide)) rfl (Nat.le_of_ble_eq_true rfl) rfl rfl rfl <| ?_
      refine x_iconst (v := (1 : Int32)) hC dX6_planRound_164 (by decide) <| ?_
      obtain ⟨e1, e2⟩ := xso2 h
      subst e1
      subst e2
      exact x_zret (rest := []) hC hE rfl (by decide) dX6_planRound_165
    · replace h := (if_neg c5).symm.trans h
      refine x_iconst (v := (0 : Int32)) hC dX6_planRound_110 (by decide) <| x_istore hC dX6_planRound_111 (by decide) rfl <| ?_
      refine x_sub [1, 2, 3, 0] rfl ?_
      exact B_X6_planRound_113 hC hR hE ih xFU l2 hl2 l3 (0 : Int32) σ h
set_option maxRecDepth 100000 in
set_option maxHeartbeats 4000000 in
theorem B_X6_planRound_49 {G : xG} {l : Launch} {K : xK} {r : Bool} {τ : xS2} (hC : xCX G mM_X6_planRound K) (hR : xRd K 4) (hE : xE G K (some (.int (xb r))) (xM τ)) {k13 : Nat → Int32 → xS2 → Option (Bool × xS2)} (hk13 : ∀ (l2 : Nat) (hl2 : xSH l2 = (0, 4)) (l3 : Int32) (σ : xS2), k13 l2 l3 σ = some (r, τ) → xV G l mM_X6_planRound K 13 [(0, .ref (xad G 13)), (1, .ref (xad G 1)), (2, .ref (xad G l2)), (3, .int l3)] [] (xM σ)) : ∀ (f : Nat) (l2 : Nat) (hl2 : xSH l2 = (0, 4)) (l3 : Int32) (l4 : Int32) (σ : xS2), J_X6_planRound_49 k13 f l2 l3 l4 σ = some (r, τ) → xV G l mM_X6_planRound K 49 [(0, .ref (xad G 13)), (1, .ref (xad G 1)), (2, .ref (xad G l2)), (3, .int l3), (4, .int l4)] [] (xM σ) := by
  intro f
  induction f with
  | zero => intro l2 hl2 l3 l4 σ h; cases h
  | succ f ih =>
    intro l2 hl2 l3 l4 σ h
    refine x_iload hC dX6_planRound_49 (j := 4) rfl <| x_aload_n hC dX6_planRound_51 rfl (j := 0) rfl <| s_getI hC dX6_planRound_52 wfl_X6_60 rfl (by decide) (by decide) (by decide) (by decide) <| ?_
    refine x_icmp_ge (tgt := 86) hC dX6_planRound_55 (by decide) (fun c15 => ?_) (fun c15 => ?_)
    · replace h := (if_pos c15).symm.trans h
      refine x_iinc hC dX6_planRound_86 (j := 3) (v := (l3 + (1 : Int32))) rfl rfl (by decide) rfl <| x_goto (tgt := 13) hC dX6_planRound_89 (by decide) <| ?_
      refine x_sub [1, 2, 3, 0] rfl ?_
      exact hk13 l2 hl2 (l3 + (1 : Int32)) σ h
    · replace h := (if_neg c15).symm.trans h
      refine x_aload_n hC dX6_planRound_58 rfl (j := 0) rfl <| s_getR (q := 17) hC dX6_planRound_59 wfl_X6_21 rfl (by decide) (by decide) (by decide) (by decide) (by decide) <| x_iload hC dX6_planRound_62 (j := 4) rfl <| x_iconst (v := (5 : Int32)) hC dX6_planRound_64 (by decide) <| x_imul hC dX6_planRound_65 <| x_iload_n hC dX6_planRound_66 rfl (j := 3) rfl <| ?_
      refine x_iadd hC dX6_planRound_67 <| x_aload_n hC dX6_planRound_68 rfl (j := 0) rfl <| x_aload_n hC dX6_planRound_69 rfl (j := 0) rfl <| s_getR (q := 15) hC dX6_planRound_70 wfl_X6_15 rfl (by decide) (by decide) (by decide) (by decide) (by decide) <| x_iload hC dX6_planRound_73 (j := 4) rfl <| ?_
      obtain ⟨h16, h⟩ := xgd_some h
      refine s_iald hC dX6_planRound_75 rfl (by decide) h16 <| ?_
      obtain ⟨x17, h17, h⟩ := Option.bind_eq_some_iff.mp h
      refine x_callV hC hR dX6_planRound_76 mK_X6_costFrom wml_X6_52 (C_X6_costFrom (a1 := (σ.1 15 l4.toNatClampNeg)) (σ := σ) h17) (by omega) rfl (by decide) rfl rfl (xlt (by decide)) rfl (Nat.le_of_ble_eq_true rfl) rfl rfl rfl <| ?_
      obtain ⟨h18, h⟩ := xgd_some h
      refine s_iast hC dX6_planRound_79 rfl (by decide) h18 <| ?_
      refine x_iinc hC dX6_planRound_80 (j := 4) (v := (l4 + (1 : Int32))) rfl rfl (by decide) rfl <| x_goto (tgt := 49) hC dX6_planRound_83 (by decide) <| ?_
      refine x_sub [1, 2, 3, 4, 0] rfl ?_
      exact ih l2 hl2 l3 (l4 + (1 : Int32)) (yI σ 17 ((l4 * (5 : Int32)) + l3).toNatClampNeg x17) h
set_option maxRecDepth 100000 in
set_option maxHeartbeats 4000000 in
theorem B_X6_planRound_13 {G : xG} {l : Launch} {K : xK} {r : Bool} {τ : xS2} (hC : xCX G mM_X6_planRound K) (hR : xRd K 4) (hE : xE G K (some (.int (xb r))) (xM τ)) : ∀ (f : Nat) (l2 : Nat) (hl2 : xSH l2 = (0, 4)) (l3 : Int32) (σ : xS2), J_X6_planRound_13 f l2 l3 σ = some (r, τ) → xV G l mM_X6_planRound K 13 [(0, .ref (xad G 13)), (1, .ref (xad G 1)), (2, .ref (xad G l2)), (3, .int l3)] [] (xM σ) := by
  intro f
  induction f with
  | zero => intro l2 hl2 l3 σ h; cases h
  | succ f ih =>
    intro l2 hl2 l3 σ h
    refine x_iload_n hC dX6_planRound_13 rfl (j := 3) rfl <| x_aload_n hC dX6_planRound_14 rfl (j := 0) rfl <| s_getI hC dX6_planRound_15 wfl_X6_60 rfl (by decide) (by decide) (by decide) (by decide) <| ?_
    refine x_icmp_ge (tgt := 92) hC dX6_planRound_18 (by decide) (fun c3 => ?_) (fun c3 => ?_)
    · replace h := (if_pos c3).symm.trans h
      refine x_aload_n hC dX6_planRound_92 rfl (j := 0) rfl <| x_aload_n hC dX6_planRound_93 rfl (j := 1) rfl <| x_iconst (v := (-1 : Int32)) hC dX6_planRound_94 (by decide) <| ?_
      obtain ⟨x4, h4, h⟩ := Option.bind_eq_some_iff.mp h
      refine x_callV hC hR dX6_planRound_95 mK_X6_spreadTo wml_X6_64 (C_X6_spreadTo (a2 := (-1 : Int32)) (σ := σ) h4) (by omega) rfl (by decide) rfl rfl (xlt (by decide)) rfl (Nat.le_of_ble_eq_true rfl) rfl rfl rfl <| ?_
      refine x_iconst (v := (0 : Int32)) hC dX6_planRound_98 (by decide) <| x_istore_n hC dX6_planRound_99 rfl (by decide) rfl <| ?_
      refine x_sub [1, 3, 0] rfl ?_
      exact B_X6_planRound_100 hC hR hE xFU l2 hl2 (0 : Int32) x4 h
    · replace h := (if_neg c3).symm.trans h
      refine x_aload_n hC dX6_planRound_21 rfl (j := 0) rfl <| x_aload_n hC dX6_planRound_22 rfl (j := 1) rfl <| x_aload_n hC dX6_planRound_23 rfl (j := 0) rfl <| s_getR (q := 15) hC dX6_planRound_24 wfl_X6_15 rfl (by decide) (by decide) (by decide) (by decide) (by decide) <| x_iload_n hC dX6_planRound_27 rfl (j := 3) rfl <| ?_
      obtain ⟨h11, h⟩ := xgd_some h
      refine s_iald hC dX6_planRound_28 rfl (by decide) h11 <| ?_
      obtain ⟨x12, h12, h⟩ := Option.bind_eq_some_iff.mp h
      refine x_callV hC hR dX6_planRound_29 mK_X6_spreadTo wml_X6_64 (C_X6_spreadTo (a2 := (σ.1 15 l3.toNatClampNeg)) (σ := σ) h12) (by omega) rfl (by decide) rfl rfl (xlt (by decide)) rfl (Nat.le_of_ble_eq_true rfl) rfl rfl rfl <| ?_
      refine x_aload_n hC dX6_planRound_32 rfl (j := 0) rfl <| s_getR (q := 16) hC dX6_planRound_33 wfl_X6_18 rfl (by decide) (by decide) (by decide) (by decide) (by decide) <| x_iload_n hC dX6_planRound_36 rfl (j := 3) rfl <| x_aload_n hC dX6_planRound_37 rfl (j := 0) rfl <| x_aload_n hC dX6_planRound_38 rfl (j := 2) rfl <| s_getI hC dX6_planRound_39 wfl_X6_67 hl2 (by decide) (by decide) (xlo hl2 (by decide)) (by decide) <| ?_
      obtain ⟨x13, h13, h⟩ := Option.bind_eq_some_iff.mp h
      refine x_callV hC hR dX6_planRound_42 mK_X6_costFrom wml_X6_52 (C_X6_costFrom (a1 := (x12.1 l2 0)) (σ := x12) h13) (by omega) rfl (by decide) rfl rfl (xlt (by decide)) rfl (Nat.le_of_ble_eq_true rfl) rfl rfl rfl <| ?_
      obtain ⟨h14, h⟩ := xgd_some h
      refine s_iast hC dX6_planRound_45 rfl (by decide) h14 <| ?_
      refine x_iconst (v := (0 : Int32)) hC dX6_planRound_46 (by decide) <| x_istore hC dX6_planRound_47 (by decide) rfl <| ?_
      refine x_sub [1, 2, 3, 4, 0] rfl ?_
      exact B_X6_planRound_49 hC hR hE ih xFU l2 hl2 l3 (0 : Int32) (yI x12 16 l3.toNatClampNeg x13) h
set_option maxRecDepth 100000 in
set_option maxHeartbeats 4000000 in
theorem C_X6_planRound {G : xG} {l : Launch} {a2 : Nat} {σ : xS2} {r : Bool} {τ : xS2} (ha2 : xSH a2 = (0, 4)) (h : J_X6_planRound a2 σ = some (r, τ)) : xC G l mM_X6_planRound 4 [.ref (xad G 13), .ref (xad G 1), .ref (xad G a2)] (xM σ) (some (.int (xb r))) (xM τ) := by
  refine xC_of (by decide) rfl (Nat.le_refl _) (Nat.le_of_ble_eq_true rfl) (fun K hC hE hR _ => ?_)
  refine x_aload_n hC dX6_planRound_0 rfl (j := 0) rfl <| x_aload_n hC dX6_planRound_1 rfl (j := 1) rfl <| x_aload_n hC dX6_planRound_2 rfl (j := 2) rfl <| ?_
  obtain ⟨x1, h1, h⟩ := Option.bind_eq_some_iff.mp h
  refine x_callV hC hR dX6_planRound_3 mK_X6_listStones wml_X6_56 (C_X6_listStones (a2 := a2) (σ := σ) ha2 h1) (by omega) rfl (by decide) rfl rfl (xlt (by decide)) rfl (Nat.le_of_ble_eq_true rfl) rfl rfl rfl <| ?_
  refine x_if_ne (tgt := 11) hC dX6_planRound_6 (by decide) (fun c2 => ?_) (fun c2 => ?_)
  · replace h := (if_neg c2).symm.trans h
    refine x_iconst (v := (0 : Int32)) hC dX6_planRound_11 (by decide) <| x_istore_n hC dX6_planRound_12 rfl (by decide) rfl <| ?_
    refine x_sub [1, 2, 3, 0] rfl ?_
    exact B_X6_planRound_13 hC hR hE xFU a2 ha2 (0 : Int32) x1.2 h
  · replace h := (if_pos c2).symm.trans h
    refine x_iconst (v := (0 : Int32)) hC dX6_planRound_9 (by decide) <| ?_
    obtain ⟨e1, e2⟩ := xso2 h
    subst e1
    subst e2
    exact x_zret (rest := []) hC hE rfl (by decide) dX6_planRound_10
set_option maxRecDepth 100000 in
set_option maxHeartbeats 4000000 in
theorem C_X7_add {G : xG} {l : Launch} {a1 : Int32} {σ : xS2} {r : Int32} {τ : xS2} (h : J_X7_add a1 σ = some (r, τ)) : xC G l mM_X7_add 0 [.ref (xad G 40), .int a1] (xM σ) (some (.int r)) (xM τ) := by
  refine xC_of (by decide) rfl (Nat.le_refl _) (Nat.le_of_ble_eq_true rfl) (fun K hC hE hR _ => ?_)
  refine x_aload_n hC dX7_add_0 rfl (j := 0) rfl <| s_getI hC dX7_add_1 wfl_X7_23 rfl (by decide) (by decide) (by decide) (by decide) <| x_bipush (v := (50 : Int32)) hC dX7_add_4 (by decide) <| ?_
  refine x_icmp_lt (tgt := 11) hC dX7_add_6 (by decide) (fun c1 => ?_) (fun c1 => ?_)
  · replace h := (if_pos c1).symm.trans h
    refine x_aload_n hC dX7_add_11 rfl (j := 0) rfl <| s_getR (q := 41) hC dX7_add_12 wfl_X7_9 rfl (by decide) (by decide) (by decide) (by decide) (by decide) <| x_aload_n hC dX7_add_15 rfl (j := 0) rfl <| s_getI hC dX7_add_16 wfl_X7_23 rfl (by decide) (by decide) (by decide) (by decide) <| x_iload_n hC dX7_add_19 rfl (j := 1) rfl <| ?_
    obtain ⟨h2, h⟩ := xgd_some h
    refine s_iast hC dX7_add_20 rfl (by decide) h2 <| ?_
    refine x_aload_n hC dX7_add_21 rfl (j := 0) rfl <| x_dup hC dX7_add_22 rfl <| s_getI hC dX7_add_23 wfl_X7_23 rfl (by decide) (by decide) (by decide) (by decide) <| x_iconst (v := (1 : Int32)) hC dX7_add_26 (by decide) <| x_iadd hC dX7_add_27 <| s_putI hC dX7_add_28 wfl_X7_23 rfl (by decide) (by decide) (by decide) (by decide) (by decide) <| ?_
    refine x_aload_n hC dX7_add_31 rfl (j := 0) rfl <| s_getI hC dX7_add_32 wfl_X7_23 rfl (by decide) (by decide) (by decide) (by decide) <| x_iconst (v := (1 : Int32)) hC dX7_add_35 (by decide) <| x_isub hC dX7_add_36 <| ?_
    obtain ⟨e1, e2⟩ := xso2 h
    subst e1
    subst e2
    exact x_iret (rest := []) hC hE rfl dX7_add_37
  · replace h := (if_neg c1).symm.trans h
    refine x_iconst (v := (-1 : Int32)) hC dX7_add_9 (by decide) <| ?_
    obtain ⟨e1, e2⟩ := xso2 h
    subst e1
    subst e2
    exact x_iret (rest := []) hC hE rfl dX7_add_10
set_option maxRecDepth 100000 in
set_option maxHeartbeats 4000000 in
theorem C_X7_isKind {G : xG} {l : Launch} {a0 : Int32} {σ : xS2} : xC G l mM_X7_isKind 0 [.int a0] (xM σ) (some (.int (xb (J_X7_isKind a0)))) (xM σ) := by
  refine xC_of (by decide) rfl (Nat.le_refl _) (Nat.le_of_ble_eq_true rfl) (fun K hC hE hR _ => ?_)
  obtain ⟨r, h⟩ : ∃ r, J_X7_isKind a0 = r := ⟨_, rfl⟩
  rw [h] at hE
  refine x_iload_n hC dX7_isKind_0 rfl (j := 0) rfl <| ?_
  refine x_if_lt (tgt := 14) hC dX7_isKind_1 (by decide) (fun c1 => ?_) (fun c1 => ?_)
  · replace h := (if_pos c1).symm.trans h
    refine x_iconst (v := (0 : Int32)) hC dX7_isKind_14 (by decide) <| ?_
    subst h
    exact x_zret (rest := []) hC hE rfl (by decide) dX7_isKind_15
  · replace h := (if_neg c1).symm.trans h
    refine x_iload_n hC dX7_isKind_4 rfl (j := 0) rfl <| x_bipush (v := (8 : Int32)) hC dX7_isKind_5 (by decide) <| ?_
    refine x_icmp_ge (tgt := 14) hC dX7_isKind_7 (by decide) (fun c2 => ?_) (fun c2 => ?_)
    · replace h := (if_pos c2).symm.trans h
      refine x_iconst (v := (0 : Int32)) hC dX7_isKind_14 (by decide) <| ?_
      subst h
      exact x_zret (rest := []) hC hE rfl (by decide) dX7_isKind_15
    · replace h := (if_neg c2).symm.trans h
      refine x_iconst (v := (1 : Int32)) hC dX7_isKind_10 (by decide) <| x_goto (tgt := 15) hC dX7_isKind_11 (by decide) <| ?_
      subst h
      exact x_zret (rest := []) hC hE rfl (by decide) dX7_isKind_15
set_option maxRecDepth 100000 in
set_option maxHeartbeats 4000000 in
theorem C_X7_has {G : xG} {l : Launch} {a1 : Int32} {σ : xS2} : xC G l mM_X7_has 0 [.ref (xad G 40), .int a1] (xM σ) (some (.int (xb (J_X7_has a1 σ)))) (xM σ) := by
  refine xC_of (by decide) rfl (Nat.le_refl _) (Nat.le_of_ble_eq_true rfl) (fun K hC hE hR _ => ?_)
  obtain ⟨r, h⟩ : ∃ r, J_X7_has a1 σ = r := ⟨_, rfl⟩
  rw [h] at hE
  refine x_iload_n hC dX7_has_0 rfl (j := 1) rfl <| ?_
  refine x_if_lt (tgt := 22) hC dX7_has_1 (by decide) (fun c1 => ?_) (fun c1 => ?_)
  · replace h := (if_pos c1).symm.trans h
    refine x_iconst (v := (0 : Int32)) hC dX7_has_22 (by decide) <| ?_
    subst h
    exact x_zret (rest := []) hC hE rfl (by decide) dX7_has_23
  · replace h := (if_neg c1).symm.trans h
    refine x_iload_n hC dX7_has_4 rfl (j := 1) rfl <| x_aload_n hC dX7_has_5 rfl (j := 0) rfl <| s_getI hC dX7_has_6 wfl_X7_23 rfl (by decide) (by decide) (by decide) (by decide) <| ?_
    refine x_icmp_ge (tgt := 22) hC dX7_has_9 (by decide) (fun c2 => ?_) (fun c2 => ?_)
    · replace h := (if_pos c2).symm.trans h
      refine x_iconst (v := (0 : Int32)) hC dX7_has_22 (by decide) <| ?_
      subst h
      exact x_zret (rest := []) hC hE rfl (by decide) dX7_has_23
    · replace h := (if_neg c2).symm.trans h
      refine x_iload_n hC dX7_has_12 rfl (j := 1) rfl <| x_bipush (v := (50 : Int32)) hC dX7_has_13 (by decide) <| ?_
      refine x_icmp_ge (tgt := 22) hC dX7_has_15 (by decide) (fun c3 => ?_) (fun c3 => ?_)
      · replace h := (if_pos c3).symm.trans h
        refine x_iconst (v := (0 : Int32)) hC dX7_has_22 (by decide) <| ?_
        subst h
        exact x_zret (rest := []) hC hE rfl (by decide) dX7_has_23
      · replace h := (if_neg c3).symm.trans h
        refine x_iconst (v := (1 : Int32)) hC dX7_has_18 (by decide) <| x_goto (tgt := 23) hC dX7_has_19 (by decide) <| ?_
        subst h
        exact x_zret (rest := []) hC hE rfl (by decide) dX7_has_23
set_option maxRecDepth 100000 in
set_option maxHeartbeats 4000000 in
theorem C_X7_kindOf {G : xG} {l : Launch} {a1 : Int32} {σ : xS2} {r : Int32} (h : J_X7_kindOf a1 σ = some r) : xC G l mM_X7_kindOf 1 [.ref (xad G 40), .int a1] (xM σ) (some (.int r)) (xM σ) := by
  refine xC_of (by decide) rfl (Nat.le_refl _) (Nat.le_of_ble_eq_true rfl) (fun K hC hE hR _ => ?_)
  refine x_aload_n hC dX7_kindOf_0 rfl (j := 0) rfl <| x_iload_n hC dX7_kindOf_1 rfl (j := 1) rfl <| x_callV hC hR dX7_kindOf_2 mK_X7_has wml_X7_27 (C_X7_has (a1 := a1) (σ := σ)) (by omega) rfl (by decide) rfl rfl (xlt (by decide)) rfl (Nat.le_of_ble_eq_true rfl) rfl rfl rfl <| ?_
  refine x_if_eq (tgt := 17) hC dX7_kindOf_5 (by decide) (fun c2 => ?_) (fun c2 => ?_)
  · replace h := (if_pos c2).symm.trans h
    refine x_iconst (v := (-1 : Int32)) hC dX7_kindOf_17 (by decide) <| ?_
    have e1 := Option.some.inj h
    subst e1
    exact x_iret (rest := []) hC hE rfl dX7_kindOf_18
  · replace h := (if_neg c2).symm.trans h
    refine x_aload_n hC dX7_kindOf_8 rfl (j := 0) rfl <| s_getR (q := 41) hC dX7_kindOf_9 wfl_X7_9 rfl (by decide) (by decide) (by decide) (by decide) (by decide) <| x_iload_n hC dX7_kindOf_12 rfl (j := 1) rfl <| ?_
    obtain ⟨h3, h⟩ := xgd_some h
    refine s_iald hC dX7_kindOf_13 rfl (by decide) h3 <| ?_
    refine x_goto (tgt := 18) hC dX7_kindOf_14 (by decide) <| ?_
    have e1 := Option.some.inj h
    subst e1
    exact x_iret (rest := []) hC hE rfl dX7_kindOf_18
set_option maxRecDepth 100000 in
set_option maxHeartbeats 4000000 in
theorem D_X7_answerOfWheel {G : xG} {l : Launch} {n : Nat} {p_X7_own : (Int32 → Int32 → Int32 → xS2 → Option (Int32 × xS2))} (hp_X7_own : ∀ (a1 : Int32) (a2 : Int32) (a3 : Int32) (σ : xS2) (r : Int32) (τ : xS2), p_X7_own a1 a2 a3 σ = some (r, τ) → xC G l mM_X7_own (2 + n) [.ref (xad G 40), .int a1, .int a2, .int a3] (xM σ) (some (.int r)) (xM τ)) {a1 : Int32} {a2 : Int32} {a3 : Int32} {σ : xS2} {r : Int32} {τ : xS2} (h : J_X7_answerOfWheel_b p_X7_own a1 a2 a3 σ = some (r, τ)) : xC G l mM_X7_answerOfWheel (2 + (n + 1)) [.ref (xad G 40), .int a1, .int a2, .int a3] (xM σ) (some (.int r)) (xM τ) := by
  refine xC_of (by decide) rfl (Nat.le_refl _) (Nat.le_of_ble_eq_true rfl) (fun K hC hE hR _ => ?_)
  refine x_iload_n hC dX7_answerOfWheel_0 rfl (j := 1) rfl <| ?_
  by_cases c1 : a1 = (1 : Int32)
  · replace h := (if_pos c1).symm.trans h
    refine x_lsw (tgt := 36) (off := 35) hC dX7_answerOfWheel_1 (by decide) (by rw [c1]; decide) (by decide) ?_
    refine x_iload_n hC dX7_answerOfWheel_36 rfl (j := 2) rfl <| x_aload_n hC dX7_answerOfWheel_37 rfl (j := 0) rfl <| s_getI hC dX7_answerOfWheel_38 wfl_X7_33 rfl (by decide) (by decide) (by decide) (by decide) <| x_iadd hC dX7_answerOfWheel_41 <| ?_
    obtain ⟨e1, e2⟩ := xso2 h
    subst e1
    subst e2
    exact x_iret (rest := []) hC hE rfl dX7_answerOfWheel_42
  · replace h := (if_neg c1).symm.trans h
    by_cases c2 : a1 = (2 : Int32)
    · replace h := (if_pos c2).symm.trans h
      refine x_lsw (tgt := 43) (off := 42) hC dX7_answerOfWheel_1 (by decide) (by rw [c2]; decide) (by decide) ?_
      refine x_aload_n hC dX7_answerOfWheel_43 rfl (j := 0) rfl <| x_iconst (v := (1 : Int32)) hC dX7_answerOfWheel_44 (by decide) <| x_iload_n hC dX7_answerOfWheel_45 rfl (j := 2) rfl <| x_iload_n hC dX7_answerOfWheel_46 rfl (j := 3) rfl <| ?_
      obtain ⟨x3, h3, h⟩ := Option.bind_eq_some_iff.mp h
      refine x_callV hC hR dX7_answerOfWheel_47 mK_X7_own wml_X7_55 (hp_X7_own (1 : Int32) a2 a3 σ _ _ h3) (by omega) rfl (by decide) rfl rfl (xlt (by decide)) rfl (Nat.le_of_ble_eq_true rfl) rfl rfl rfl <| ?_
      refine x_aload_n hC dX7_answerOfWheel_50 rfl (j := 0) rfl <| x_iconst (v := (2 : Int32)) hC dX7_answerOfWheel_51 (by decide) <| x_iconst (v := (1 : Int32)) hC dX7_answerOfWheel_52 (by decide) <| x_iload_n hC dX7_answerOfWheel_53 rfl (j := 3) rfl <| ?_
      obtain ⟨x4, h4, h⟩ := Option.bind_eq_some_iff.mp h
      refine x_callV hC hR dX7_answerOfWheel_54 mK_X7_own wml_X7_55 (hp_X7_own (2 : Int32) (1 : Int32) a3 x3.2 _ _ h4) (by omega) rfl (by decide) rfl rfl (xlt (by decide)) rfl (Nat.le_of_ble_eq_true rfl) rfl rfl rfl <| ?_
      refine x_isub hC dX7_answerOfWheel_57 <| ?_
      obtain ⟨e1, e2⟩ := xso2 h
      subst e1
      subst e2
      exact x_iret (rest := []) hC hE rfl dX7_answerOfWheel_58
    · replace h := (if_neg c2).symm.trans h
      by_cases c5 : a1 = (10 : Int32)
      · replace h := (if_pos c5).symm.trans h
        refine x_lsw (tgt := 59) (off := 58) hC dX7_answerOfWheel_1 (by decide) (by rw [c5]; decide) (by decide) ?_
        refine x_aload_n hC dX7_answerOfWheel_59 rfl (j := 0) rfl <| x_iconst (v := (0 : Int32)) hC dX7_answerOfWheel_60 (by decide) <| x_iload_n hC dX7_answerOfWheel_61 rfl (j := 2) rfl <| x_iload_n hC dX7_answerOfWheel_62 rfl (j := 3) rfl <| ?_
        obtain ⟨x6, h6, h⟩ := Option.bind_eq_some_iff.mp h
        refine x_callV hC hR dX7_answerOfWheel_63 mK_X7_own wml_X7_55 (hp_X7_own (0 : Int32) a2 a3 σ _ _ h6) (by omega) rfl (by decide) rfl rfl (xlt (by decide)) rfl (Nat.le_of_ble_eq_true rfl) rfl rfl rfl <| ?_
        refine x_iconst (v := (2 : Int32)) hC dX7_answerOfWheel_66 (by decide) <| x_imul hC dX7_answerOfWheel_67 <| ?_
        obtain ⟨e1, e2⟩ := xso2 h
        subst e1
        subst e2
        exact x_iret (rest := []) hC hE rfl dX7_answerOfWheel_68
      · replace h := (if_neg c5).symm.trans h
        refine x_lsw (tgt := 69) hC dX7_answerOfWheel_1 (by decide) (xls_else _ (List.forall_mem_cons.mpr ⟨lv_neT c1 (by decide), (List.forall_mem_cons.mpr ⟨lv_neT c2 (by decide), (List.forall_mem_cons.mpr ⟨lv_neT c5 (by decide), (fun _ z => absurd z List.not_mem_nil)⟩)⟩)⟩)) (by decide) ?_
        refine x_iload_n hC dX7_answerOfWheel_69 rfl (j := 2) rfl <| x_aload_n hC dX7_answerOfWheel_70 rfl (j := 0) rfl <| s_getI hC dX7_answerOfWheel_71 wfl_X7_33 rfl (by decide) (by decide) (by decide) (by decide) <| x_ixor hC dX7_answerOfWheel_74 <| ?_
        obtain ⟨e1, e2⟩ := xso2 h
        subst e1
        subst e2
        exact x_iret (rest := []) hC hE rfl dX7_answerOfWheel_75
set_option maxRecDepth 100000 in
set_option maxHeartbeats 4000000 in
theorem B_X7_answerUnder_18 {G : xG} {l : Launch} {K : xK} {r : Int32} {τ : xS2} {n : Nat} {p_X7_begin : (Int32 → Int32 → Int32 → Int32 → xS2 → Option (Int32 × xS2))} (hp_X7_begin : ∀ (a1 : Int32) (a2 : Int32) (a3 : Int32) (a4 : Int32) (σ : xS2) (r : Int32) (τ : xS2), p_X7_begin a1 a2 a3 a4 σ = some (r, τ) → xC G l mM_X7_begin (2 + n) [.ref (xad G 40), .int a1, .int a2, .int a3, .int a4] (xM σ) (some (.int r)) (xM τ)) {p_X7_own : (Int32 → Int32 → Int32 → xS2 → Option (Int32 × xS2))} (hp_X7_own : ∀ (a1 : Int32) (a2 : Int32) (a3 : Int32) (σ : xS2) (r : Int32) (τ : xS2), p_X7_own a1 a2 a3 σ = some (r, τ) → xC G l mM_X7_own (2 + n) [.ref (xad G 40), .int a1, .int a2, .int a3] (xM σ) (some (.int r)) (xM τ)) (hC : xCX G mM_X7_answerUnder K) (hR : xRd K (2 + (n + 1))) (hE : xE G K (some (.int r)) (xM τ)) : ∀ (l1 : Int32) (l5 : Int32) (s1 : Int32) (s2 : Int32) (s3 : Int32) (σ : xS2), J_X7_answerUnder_18 p_X7_begin p_X7_own l1 l5 s1 s2 s3 σ = some (r, τ) → xV G l mM_X7_answerUnder K 18 [(0, .ref (xad G 40)), (1, .int l1), (5, .int l5)] [.int s3, .int s2, .int s1, .ref (xad G 40)] (xM σ) := by
  intro l1 l5 s1 s2 s3 σ h
  refine x_iload hC dX7_answerUnder_18 (j := 2) rfl <| x_iconst (v := (1 : Int32)) hC dX7_answerUnder_20 (by decide) <| x_iadd hC dX7_answerUnder_21 <| ?_
  obtain ⟨x2, h2, h⟩ := Option.bind_eq_some_iff.mp h
  refine x_callV hC hR dX7_answerUnder_22 mK_X7_begin wml_X7_40 (hp_X7_begin s1 s2 s3 (l5 + (1 : Int32)) σ _ _ h2) (by omega) rfl (by decide) rfl rfl (xlt (by decide)) rfl (Nat.le_of_ble_eq_true rfl) rfl rfl rfl <| ?_
  refine x_istore hC dX7_answerUnder_25 (by decide) rfl <| x_iload_n hC dX7_answerUnder_27 rfl (j := 2) rfl <| ?_
  by_cases c3 : l1 = (20 : Int32)
  · replace h := (if_pos c3).symm.trans h
    refine x_lsw (tgt := 112) (off := 84) hC dX7_answerUnder_28 (by decide) (by rw [c3]; decide) (by decide) ?_
    refine x_iload hC dX7_answerUnder_112 (j := 0) rfl <| x_iconst (v := (3 : Int32)) hC dX7_answerUnder_114 (by decide) <| x_iadd hC dX7_answerUnder_115 <| ?_
    obtain ⟨e1, e2⟩ := xso2 h
    subst e1
    subst e2
    exact x_iret (rest := []) hC hE rfl dX7_answerUnder_116
  · replace h := (if_neg c3).symm.trans h
    by_cases c4 : l1 = (30 : Int32)
    · replace h := (if_pos c4).symm.trans h
      refine x_lsw (tgt := 117) (off := 89) hC dX7_answerUnder_28 (by decide) (by rw [c4]; decide) (by decide) ?_
      refine x_iload hC dX7_answerUnder_117 (j := 0) rfl <| x_ineg hC dX7_answerUnder_119 <| ?_
      obtain ⟨e1, e2⟩ := xso2 h
      subst e1
      subst e2
      exact x_iret (rest := []) hC hE rfl dX7_answerUnder_120
    · replace h := (if_neg c4).symm.trans h
      by_cases c5 : l1 = (40 : Int32)
      · replace h := (if_pos c5).symm.trans h
        refine x_lsw (tgt := 121) (off := 93) hC dX7_answerUnder_28 (by decide) (by rw [c5]; decide) (by decide) ?_
        refine x_iload hC dX7_answerUnder_121 (j := 0) rfl <| x_iconst (v := (3 : Int32)) hC dX7_answerUnder_123 (by decide) <| x_imul hC dX7_answerUnder_124 <| ?_
        obtain ⟨e1, e2⟩ := xso2 h
        subst e1
        subst e2
        exact x_iret (rest := []) hC hE rfl dX7_answerUnder_125
      · replace h := (if_neg c5).symm.trans h
        by_cases c6 : l1 = (50 : Int32)
        · replace h := (if_pos c6).symm.trans h
          refine x_lsw (tgt := 126) (off := 98) hC dX7_answerUnder_28 (by decide) (by rw [c6]; decide) (by decide) ?_
          refine x_iload hC dX7_answerUnder_126 (j := 0) rfl <| x_iconst (v := (5 : Int32)) hC dX7_answerUnder_128 (by decide) <| x_ixor hC dX7_answerUnder_129 <| ?_
          obtain ⟨e1, e2⟩ := xso2 h
          subst e1
          subst e2
          exact x_iret (rest := []) hC hE rfl dX7_answerUnder_130
        · replace h := (if_neg c6).symm.trans h
          by_cases c7 : l1 = (60 : Int32)
          · replace h := (if_pos c7).symm.trans h
            refine x_lsw (tgt := 131) (off := 103) hC dX7_answerUnder_28 (by decide) (by rw [c7]; decide) (by decide) ?_
            refine x_iload hC dX7_answerUnder_131 (j := 0) rfl <| x_aload_n hC dX7_answerUnder_133 rfl (j := 1) rfl <| x_iconst (v := (0 : Int32)) hC dX7_answerUnder_134 (by decide) <| x_iconst (v := (2 : Int32)) hC dX7_answerUnder_135 (by decide) <| x_iload hC dX7_answerUnder_136 (j := 3) rfl <| ?_
            obtain ⟨x8, h8, h⟩ := Option.bind_eq_some_iff.mp h
            refine x_callV hC hR dX7_answerUnder_138 mK_X7_own wml_X7_55 (hp_X7_own (0 : Int32) (2 : Int32) l5 x2.2 _ _ h8) (by omega) rfl (by decide) rfl rfl (xlt (by decide)) rfl (Nat.le_of_ble_eq_true rfl) rfl rfl rfl <| ?_
            refine x_isub hC dX7_answerUnder_141 <| ?_
            obtain ⟨e1, e2⟩ := xso2 h
            subst e1
            subst e2
            exact x_iret (rest := []) hC hE rfl dX7_answerUnder_142
          · replace h := (if_neg c7).symm.trans h
            by_cases c9 : l1 = (61 : Int32)
            · replace h := (if_pos c9).symm.trans h
              refine x_lsw (tgt := 143) (off := 115) hC dX7_answerUnder_28 (by decide) (by rw [c9]; decide) (by decide) ?_
              refine x_iload hC dX7_answerUnder_143 (j := 0) rfl <| x_iconst (v := (1 : Int32)) hC dX7_answerUnder_145 (by decide) <| x_iadd hC dX7_answerUnder_146 <| ?_
              obtain ⟨e1, e2⟩ := xso2 h
              subst e1
              subst e2
              exact x_iret (rest := []) hC hE rfl dX7_answerUnder_147
            · replace h := (if_neg c9).symm.trans h
              by_cases c10 : l1 = (70 : Int32)
              · replace h := (if_pos c10).symm.trans h
                refine x_lsw (tgt := 148) (off := 120) hC dX7_answerUnder_28 (by decide) (by rw [c10]; decide) (by decide) ?_
                refine x_iload hC dX7_answerUnder_148 (j := 0) rfl <| x_iconst (v := (2 : Int32)) hC dX7_answerUnder_150 (by decide) <| x_imul hC dX7_answerUnder_151 <| ?_
                obtain ⟨e1, e2⟩ := xso2 h
                subst e1
                subst e2
                exact x_iret (rest := []) hC hE rfl dX7_answerUnder_152
              · replace h := (if_neg c10).symm.trans h
                by_cases c11 : l1 = (80 : Int32)
                · replace h := (if_pos c11).symm.trans h
                  refine x_lsw (tgt := 153) (off := 125) hC dX7_answerUnder_28 (by decide) (by rw [c11]; decide) (by decide) ?_
                  refine x_iload hC dX7_answerUnder_153 (j := 0) rfl <| x_aload_n hC dX7_answerUnder_155 rfl (j := 1) rfl <| x_iconst (v := (2 : Int32)) hC dX7_answerUnder_156 (by decide) <| x_iconst (v := (2 : Int32)) hC dX7_answerUnder_157 (by decide) <| x_iload hC dX7_answerUnder_158 (j := 3) rfl <| ?_
                  obtain ⟨x12, h12, h⟩ := Option.bind_eq_some_iff.mp h
                  refine x_callV hC hR dX7_answerUnder_160 mK_X7_own wml_X7_55 (hp_X7_own (2 : Int32) (2 : Int32) l5 x2.2 _ _ h12) (by omega) rfl (by decide) rfl rfl (xlt (by decide)) rfl (Nat.le_of_ble_eq_true rfl) rfl rfl rfl <| ?_
                  refine x_iadd hC dX7_answerUnder_163 <| ?_
                  obtain ⟨e1, e2⟩ := xso2 h
                  subst e1
                  subst e2
                  exact x_iret (rest := []) hC hE rfl dX7_answerUnder_164
                · replace h := (if_neg c11).symm.trans h
                  by_cases c13 : l1 = (81 : Int32)
                  · replace h := (if_pos c13).symm.trans h
                    refine x_lsw (tgt := 165) (off := 137) hC dX7_answerUnder_28 (by decide) (by rw [c13]; decide) (by decide) ?_
                    refine x_iload hC dX7_answerUnder_165 (j := 0) rfl <| x_iconst (v := (1 : Int32)) hC dX7_answerUnder_167 (by decide) <| x_isub hC dX7_answerUnder_168 <| ?_
                    obtain ⟨e1, e2⟩ := xso2 h
                    subst e1
                    subst e2
                    exact x_iret (rest := []) hC hE rfl dX7_answerUnder_169
                  · replace h := (if_neg c13).symm.trans h
                    refine x_lsw (tgt := 170) hC dX7_answerUnder_28 (by decide) (xls_else _ (List.forall_mem_cons.mpr ⟨lv_neT c3 (by decide), (List.forall_mem_cons.mpr ⟨lv_neT c4 (by decide), (List.forall_mem_cons.mpr ⟨lv_neT c5 (by decide), (List.forall_mem_cons.mpr ⟨lv_neT c6 (by decide), (List.forall_mem_cons.mpr ⟨lv_neT c7 (by decide), (List.forall_mem_cons.mpr ⟨lv_neT c9 (by decide), (List.forall_mem_cons.mpr ⟨lv_neT c10 (by decide), (List.forall_mem_cons.mpr ⟨lv_neT c11 (by decide), (List.forall_mem_cons.mpr ⟨lv_neT c13 (by decide), (fun _ z => absurd z List.not_mem_nil)⟩)⟩)⟩)⟩)⟩)⟩)⟩)⟩)⟩)) (by decide) ?_
                    refine x_iload hC dX7_answerUnder_170 (j := 0) rfl <| ?_
                    obtain ⟨e1, e2⟩ := xso2 h
                    subst e1
                    subst e2
                    exact x_iret (rest := []) hC hE rfl dX7_answerUnder_172
set_option maxRecDepth 100000 in
set_option maxHeartbeats 4000000 in
theorem D_X7_answerUnder {G : xG} {l : Launch} {n : Nat} {p_X7_begin : (Int32 → Int32 → Int32 → Int32 → xS2 → Option (Int32 × xS2))} (hp_X7_begin : ∀ (a1 : Int32) (a2 : Int32) (a3 : Int32) (a4 : Int32) (σ : xS2) (r : Int32) (τ : xS2), p_X7_begin a1 a2 a3 a4 σ = some (r, τ) → xC G l mM_X7_begin (2 + n) [.ref (xad G 40), .int a1, .int a2, .int a3, .int a4] (xM σ) (some (.int r)) (xM τ)) {p_X7_own : (Int32 → Int32 → Int32 → xS2 → Option (Int32 × xS2))} (hp_X7_own : ∀ (a1 : Int32) (a2 : Int32) (a3 : Int32) (σ : xS2) (r : Int32) (τ : xS2), p_X7_own a1 a2 a3 σ = some (r, τ) → xC G l mM_X7_own (2 + n) [.ref (xad G 40), .int a1, .int a2, .int a3] (xM σ) (some (.int r)) (xM τ)) {a1 : Int32} {a2 : Int32} {a3 : Int32} {a4 : Int32} {a5 : Int32} {σ : xS2} {r : Int32} {τ : xS2} (h : J_X7_answerUnder_b p_X7_begin p_X7_own a1 a2 a3 a4 a5 σ = some (r, τ)) : xC G l mM_X7_answerUnder (2 + (n + 1)) [.ref (xad G 40), .int a1, .int a2, .int a3, .int a4, .int a5] (xM σ) (some (.int r)) (xM τ) := by
  refine xC_of (by decide) rfl (Nat.le_refl _) (Nat.le_of_ble_eq_true rfl) (fun K hC hE hR _ => ?_)
  refine x_aload_n hC dX7_answerUnder_0 rfl (j := 0) rfl <| x_iload_n hC dX7_answerUnder_1 rfl (j := 2) rfl <| x_iload_n hC dX7_answerUnder_2 rfl (j := 3) rfl <| x_iload_n hC dX7_answerUnder_3 rfl (j := 1) rfl <| x_bipush (v := (41 : Int32)) hC dX7_answerUnder_4 (by decide) <| ?_
  refine x_icmp_ne (tgt := 16) hC dX7_answerUnder_6 (by decide) (fun c1 => ?_) (fun c1 => ?_)
  · replace h := (if_neg c1).symm.trans h
    refine x_iload hC dX7_answerUnder_16 (j := 4) rfl <| ?_
    refine x_sub [0, 1, 5] rfl ?_
    exact B_X7_answerUnder_18 hp_X7_begin hp_X7_own hC hR hE a1 a5 a2 a3 a4 σ h
  · replace h := (if_pos c1).symm.trans h
    refine x_iload hC dX7_answerUnder_9 (j := 4) rfl <| x_iconst (v := (1 : Int32)) hC dX7_answerUnder_11 (by decide) <| x_iadd hC dX7_answerUnder_12 <| x_goto (tgt := 18) hC dX7_answerUnder_13 (by decide) <| ?_
    refine x_sub [0, 1, 5] rfl ?_
    exact B_X7_answerUnder_18 hp_X7_begin hp_X7_own hC hR hE a1 a5 a2 a3 (a4 + (1 : Int32)) σ h
set_option maxRecDepth 100000 in
set_option maxHeartbeats 4000000 in
theorem B_X7_begin_99 {G : xG} {l : Launch} {K : xK} {r : Int32} {τ : xS2} {n : Nat} {p_X7_answerOfWheel : (Int32 → Int32 → Int32 → xS2 → Option (Int32 × xS2))} (hp_X7_answerOfWheel : ∀ (a1 : Int32) (a2 : Int32) (a3 : Int32) (σ : xS2) (r : Int32) (τ : xS2), p_X7_answerOfWheel a1 a2 a3 σ = some (r, τ) → xC G l mM_X7_answerOfWheel (2 + n) [.ref (xad G 40), .int a1, .int a2, .int a3] (xM σ) (some (.int r)) (xM τ)) {p_X7_answerUnder : (Int32 → Int32 → Int32 → Int32 → Int32 → xS2 → Option (Int32 × xS2))} (hp_X7_answerUnder : ∀ (a1 : Int32) (a2 : Int32) (a3 : Int32) (a4 : Int32) (a5 : Int32) (σ : xS2) (r : Int32) (τ : xS2), p_X7_answerUnder a1 a2 a3 a4 a5 σ = some (r, τ) → xC G l mM_X7_answerUnder (2 + n) [.ref (xad G 40), .int a1, .int a2, .int a3, .int a4, .int a5] (xM σ) (some (.int r)) (xM τ)) (hC : xCX G mM_X7_begin K) (hR : xRd K (2 + (n + 1))) (hE : xE G K (some (.int r)) (xM τ)) : ∀ (l1 : Int32) (l3 : Int32) (l4 : Int32) (l5 : Int32) (l6 : Int32) (σ : xS2), J_X7_begin_99 p_X7_answerOfWheel p_X7_answerUnder l1 l3 l4 l5 l6 σ = some (r, τ) → xV G l mM_X7_begin K 99 [(0, .ref (xad G 40)), (1, .int l1), (3, .int l3), (4, .int l4), (5, .int l5), (6, .int l6)] [] (xM σ) := by
  intro l1 l3 l4 l5 l6 σ h
  refine x_aload_n hC dX7_begin_99 rfl (j := 0) rfl <| x_dup hC dX7_begin_100 rfl <| s_getI hC dX7_begin_101 wfl_X7_30 rfl (by decide) (by decide) (by decide) (by decide) <| x_iconst (v := (1 : Int32)) hC dX7_begin_104 (by decide) <| x_iadd hC dX7_begin_105 <| s_putI hC dX7_begin_106 wfl_X7_30 rfl (by decide) (by decide) (by decide) (by decide) (by decide) <| ?_
  refine x_iload hC dX7_begin_109 (j := 5) rfl <| x_bipush (v := (11 : Int32)) hC dX7_begin_111 (by decide) <| ?_
  refine x_icmp_gt (tgt := 126) hC dX7_begin_113 (by decide) (fun c7 => ?_) (fun c7 => ?_)
  · replace h := (if_pos c7).symm.trans h
    refine x_aload_n hC dX7_begin_126 rfl (j := 0) rfl <| x_iload hC dX7_begin_127 (j := 5) rfl <| x_iload_n hC dX7_begin_129 rfl (j := 1) rfl <| x_gets (j := 5) hC dX7_begin_130 rfl wst_X7_20 <| x_iload hC dX7_begin_133 (j := 4) rfl <| ?_
    obtain ⟨h8, h⟩ := xgd_some h
    refine x_tald (v := (xsv 5 l5)) hC dX7_begin_135 rfl (N := 8) rfl h8 rfl <| ?_
    refine x_iload_n hC dX7_begin_136 rfl (j := 2) rfl <| x_iload hC dX7_begin_137 (j := 3) rfl <| ?_
    obtain ⟨x9, h9, h⟩ := Option.bind_eq_some_iff.mp h
    refine x_callV hC hR dX7_begin_139 mK_X7_answerUnder wml_X7_51 (hp_X7_answerUnder l6 l1 (xsv 5 l5) l3 l4 (yI σ 40 4 ((σ.1 40 4) + (1 : Int32))) _ _ h9) (by omega) rfl (by decide) rfl rfl (xlt (by decide)) rfl (Nat.le_of_ble_eq_true rfl) rfl rfl rfl <| ?_
    obtain ⟨e1, e2⟩ := xso2 h
    subst e1
    subst e2
    exact x_iret (rest := []) hC hE rfl dX7_begin_142
  · replace h := (if_neg c7).symm.trans h
    refine x_aload_n hC dX7_begin_116 rfl (j := 0) rfl <| x_iload hC dX7_begin_117 (j := 5) rfl <| x_iload_n hC dX7_begin_119 rfl (j := 2) rfl <| x_iload hC dX7_begin_120 (j := 3) rfl <| ?_
    obtain ⟨x10, h10, h⟩ := Option.bind_eq_some_iff.mp h
    refine x_callV hC hR dX7_begin_122 mK_X7_answerOfWheel wml_X7_47 (hp_X7_answerOfWheel l6 l3 l4 (yI σ 40 4 ((σ.1 40 4) + (1 : Int32))) _ _ h10) (by omega) rfl (by decide) rfl rfl (xlt (by decide)) rfl (Nat.le_of_ble_eq_true rfl) rfl rfl rfl <| ?_
    obtain ⟨e1, e2⟩ := xso2 h
    subst e1
    subst e2
    exact x_iret (rest := []) hC hE rfl dX7_begin_125
set_option maxRecDepth 100000 in
set_option maxHeartbeats 4000000 in
theorem B_X7_begin_49 {G : xG} {l : Launch} {K : xK} {r : Int32} {τ : xS2} {n : Nat} {p_X7_answerOfWheel : (Int32 → Int32 → Int32 → xS2 → Option (Int32 × xS2))} (hp_X7_answerOfWheel : ∀ (a1 : Int32) (a2 : Int32) (a3 : Int32) (σ : xS2) (r : Int32) (τ : xS2), p_X7_answerOfWheel a1 a2 a3 σ = some (r, τ) → xC G l mM_X7_answerOfWheel (2 + n) [.ref (xad G 40), .int a1, .int a2, .int a3] (xM σ) (some (.int r)) (xM τ)) {p_X7_answerUnder : (Int32 → Int32 → Int32 → Int32 → Int32 → xS2 → Option (Int32 × xS2))} (hp_X7_answerUnder : ∀ (a1 : Int32) (a2 : Int32) (a3 : Int32) (a4 : Int32) (a5 : Int32) (σ : xS2) (r : Int32) (τ : xS2), p_X7_answerUnder a1 a2 a3 a4 a5 σ = some (r, τ) → xC G l mM_X7_answerUnder (2 + n) [.ref (xad G 40), .int a1, .int a2, .int a3, .int a4, .int a5] (xM σ) (some (.int r)) (xM τ)) (hC : xCX G mM_X7_begin K) (hR : xRd K (2 + (n + 1))) (hE : xE G K (some (.int r)) (xM τ)) : ∀ (l1 : Int32) (l3 : Int32) (l4 : Int32) (l5 : Int32) (σ : xS2), J_X7_begin_49 p_X7_answerOfWheel p_X7_answerUnder l1 l3 l4 l5 σ = some (r, τ) → xV G l mM_X7_begin K 49 [(0, .ref (xad G 40)), (1, .int l1), (3, .int l3), (4, .int l4), (5, .int l5)] [] (xM σ) := by
  intro l1 l3 l4 l5 σ h
  refine x_iload hC dX7_begin_49 (j := 4) rfl <| x_callS hC hR dX7_begin_51 mK_X7_isKind wml_X7_16 (C_X7_isKind (a0 := l5) (σ := σ)) (by omega) rfl (Nat.le_of_ble_eq_true rfl) rfl rfl rfl <| ?_
  refine x_if_eq (tgt := 64) hC dX7_begin_54 (by decide) (fun c3 => ?_) (fun c3 => ?_)
  · replace h := (if_pos c3).symm.trans h
    refine x_iconst (v := (0 : Int32)) hC dX7_begin_64 (by decide) <| ?_
    obtain ⟨e1, e2⟩ := xso2 h
    subst e1
    subst e2
    exact x_iret (rest := []) hC hE rfl dX7_begin_65
  · replace h := (if_neg c3).symm.trans h
    refine x_iload hC dX7_begin_57 (j := 3) rfl <| x_bipush (v := (20 : Int32)) hC dX7_begin_59 (by decide) <| ?_
    refine x_icmp_le (tgt := 66) hC dX7_begin_61 (by decide) (fun c4 => ?_) (fun c4 => ?_)
    · replace h := (if_pos c4).symm.trans h
      refine x_gets (j := 4) hC dX7_begin_66 rfl wst_X7_44 <| x_iload_n hC dX7_begin_69 rfl (j := 1) rfl <| x_bipush (v := (8 : Int32)) hC dX7_begin_70 (by decide) <| x_imul hC dX7_begin_72 <| x_iload hC dX7_begin_73 (j := 4) rfl <| x_iadd hC dX7_begin_75 <| ?_
      obtain ⟨h5, h⟩ := xgd_some h
      refine x_tald (v := (xsv 4 ((l1 * (8 : Int32)) + l5))) hC dX7_begin_76 rfl (N := 32) rfl h5 rfl <| ?_
      refine x_istore hC dX7_begin_77 (by decide) rfl <| x_aload_n hC dX7_begin_79 rfl (j := 1) rfl <| s_getI hC dX7_begin_80 wfl_X7_30 rfl (by decide) (by decide) (by decide) (by decide) <| x_bipush (v := (24 : Int32)) hC dX7_begin_83 (by decide) <| ?_
      refine x_icmp_ge (tgt := 99) hC dX7_begin_85 (by decide) (fun c6 => ?_) (fun c6 => ?_)
      · replace h := (if_pos c6).symm.trans h
        refine x_sub [1, 2, 3, 4, 5, 0] rfl ?_
        exact B_X7_begin_99 hp_X7_answerOfWheel hp_X7_answerUnder hC hR hE l1 l3 l4 l5 (xsv 4 ((l1 * (8 : Int32)) + l5)) σ h
      · replace h := (if_neg c6).symm.trans h
        refine x_aload_n hC dX7_begin_88 rfl (j := 1) rfl <| s_getR (q := 42) hC dX7_begin_89 wfl_X7_13 rfl (by decide) (by decide) (by decide) (by decide) (by decide) <| x_aload_n hC dX7_begin_92 rfl (j := 1) rfl <| s_getI hC dX7_begin_93 wfl_X7_30 rfl (by decide) (by decide) (by decide) (by decide) <| x_iload hC dX7_begin_96 (j := 0) rfl <| ?_
        obtain ⟨h11, h⟩ := xgd_some h
        refine s_iast hC dX7_begin_98 rfl (by decide) h11 <| ?_
        refine x_sub [1, 2, 3, 4, 5, 0] rfl ?_
        exact B_X7_begin_99 hp_X7_answerOfWheel hp_X7_answerUnder hC hR hE l1 l3 l4 l5 (xsv 4 ((l1 * (8 : Int32)) + l5)) (yI σ 42 (σ.1 40 4).toNatClampNeg (xsv 4 ((l1 * (8 : Int32)) + l5))) h
    · replace h := (if_neg c4).symm.trans h
      refine x_iconst (v := (0 : Int32)) hC dX7_begin_64 (by decide) <| ?_
      obtain ⟨e1, e2⟩ := xso2 h
      subst e1
      subst e2
      exact x_iret (rest := []) hC hE rfl dX7_begin_65
set_option maxRecDepth 100000 in
set_option maxHeartbeats 4000000 in
theorem B_X7_begin_6 {G : xG} {l : Launch} {K : xK} {r : Int32} {τ : xS2} {n : Nat} {p_X7_answerOfWheel : (Int32 → Int32 → Int32 → xS2 → Option (Int32 × xS2))} (hp_X7_answerOfWheel : ∀ (a1 : Int32) (a2 : Int32) (a3 : Int32) (σ : xS2) (r : Int32) (τ : xS2), p_X7_answerOfWheel a1 a2 a3 σ = some (r, τ) → xC G l mM_X7_answerOfWheel (2 + n) [.ref (xad G 40), .int a1, .int a2, .int a3] (xM σ) (some (.int r)) (xM τ)) {p_X7_answerUnder : (Int32 → Int32 → Int32 → Int32 → Int32 → xS2 → Option (Int32 × xS2))} (hp_X7_answerUnder : ∀ (a1 : Int32) (a2 : Int32) (a3 : Int32) (a4 : Int32) (a5 : Int32) (σ : xS2) (r : Int32) (τ : xS2), p_X7_answerUnder a1 a2 a3 a4 a5 σ = some (r, τ) → xC G l mM_X7_answerUnder (2 + n) [.ref (xad G 40), .int a1, .int a2, .int a3, .int a4, .int a5] (xM σ) (some (.int r)) (xM τ)) (hC : xCX G mM_X7_begin K) (hR : xRd K (2 + (n + 1))) (hE : xE G K (some (.int r)) (xM τ)) : ∀ (f : Nat) (l1 : Int32) (l3 : Int32) (l4 : Int32) (l5 : Int32) (l6 : Int32) (σ : xS2), J_X7_begin_6 p_X7_answerOfWheel p_X7_answerUnder f l1 l3 l4 l5 l6 σ = some (r, τ) → xV G l mM_X7_begin K 6 [(0, .ref (xad G 40)), (1, .int l1), (3, .int l3), (4, .int l4), (5, .int l5), (6, .int l6)] [] (xM σ) := by
  intro f
  induction f with
  | zero => intro l1 l3 l4 l5 l6 σ h; cases h
  | succ f ih =>
    intro l1 l3 l4 l5 l6 σ h
    refine x_iload hC dX7_begin_6 (j := 5) rfl <| x_bipush (v := (8 : Int32)) hC dX7_begin_8 (by decide) <| ?_
    refine x_icmp_ge (tgt := 49) hC dX7_begin_10 (by decide) (fun c1 => ?_) (fun c1 => ?_)
    · replace h := (if_pos c1).symm.trans h
      refine x_sub [0, 1, 2, 3, 4] rfl ?_
      exact B_X7_begin_49 hp_X7_answerOfWheel hp_X7_answerUnder hC hR hE l1 l3 l4 l5 σ h
    · replace h := (if_neg c1).symm.trans h
      refine x_iload hC dX7_begin_13 (j := 4) rfl <| x_callS hC hR dX7_begin_15 mK_X7_isKind wml_X7_16 (C_X7_isKind (a0 := l5) (σ := σ)) (by omega) rfl (Nat.le_of_ble_eq_true rfl) rfl rfl rfl <| ?_
      refine x_if_eq (tgt := 49) hC dX7_begin_18 (by decide) (fun c13 => ?_) (fun c13 => ?_)
      · replace h := (if_pos c13).symm.trans h
        refine x_sub [0, 1, 2, 3, 4] rfl ?_
        exact B_X7_begin_49 hp_X7_answerOfWheel hp_X7_answerUnder hC hR hE l1 l3 l4 l5 σ h
      · replace h := (if_neg c13).symm.trans h
        refine x_gets (j := 4) hC dX7_begin_21 rfl wst_X7_44 <| x_iload_n hC dX7_begin_24 rfl (j := 1) rfl <| x_bipush (v := (8 : Int32)) hC dX7_begin_25 (by decide) <| x_imul hC dX7_begin_27 <| x_iload hC dX7_begin_28 (j := 4) rfl <| x_iadd hC dX7_begin_30 <| ?_
        obtain ⟨h14, h⟩ := xgd_some h
        refine x_tald (v := (xsv 4 ((l1 * (8 : Int32)) + l5))) hC dX7_begin_31 rfl (N := 32) rfl h14 rfl <| ?_
        refine x_if_ne (tgt := 49) hC dX7_begin_32 (by decide) (fun c15 => ?_) (fun c15 => ?_)
        · replace h := (if_neg c15).symm.trans h
          refine x_sub [0, 1, 2, 3, 4] rfl ?_
          exact B_X7_begin_49 hp_X7_answerOfWheel hp_X7_answerUnder hC hR hE l1 l3 l4 l5 σ h
        · replace h := (if_pos c15).symm.trans h
          refine x_gets (j := 5) hC dX7_begin_35 rfl wst_X7_20 <| x_iload hC dX7_begin_38 (j := 4) rfl <| ?_
          obtain ⟨h16, h⟩ := xgd_some h
          refine x_tald (v := (xsv 5 l5)) hC dX7_begin_40 rfl (N := 8) rfl h16 rfl <| ?_
          refine x_istore hC dX7_begin_41 (by decide) rfl <| x_iinc hC dX7_begin_43 (j := 5) (v := (l6 + (1 : Int32))) rfl rfl (by decide) rfl <| x_goto (tgt := 6) hC dX7_begin_46 (by decide) <| ?_
          refine x_sub [2, 3, 4, 5, 1, 0] rfl ?_
          exact ih l1 l3 l4 (xsv 5 l5) (l6 + (1 : Int32)) σ h
set_option maxRecDepth 100000 in
set_option maxHeartbeats 4000000 in
theorem D_X7_begin {G : xG} {l : Launch} {n : Nat} {p_X7_answerOfWheel : (Int32 → Int32 → Int32 → xS2 → Option (Int32 × xS2))} (hp_X7_answerOfWheel : ∀ (a1 : Int32) (a2 : Int32) (a3 : Int32) (σ : xS2) (r : Int32) (τ : xS2), p_X7_answerOfWheel a1 a2 a3 σ = some (r, τ) → xC G l mM_X7_answerOfWheel (2 + n) [.ref (xad G 40), .int a1, .int a2, .int a3] (xM σ) (some (.int r)) (xM τ)) {p_X7_answerUnder : (Int32 → Int32 → Int32 → Int32 → Int32 → xS2 → Option (Int32 × xS2))} (hp_X7_answerUnder : ∀ (a1 : Int32) (a2 : Int32) (a3 : Int32) (a4 : Int32) (a5 : Int32) (σ : xS2) (r : Int32) (τ : xS2), p_X7_answerUnder a1 a2 a3 a4 a5 σ = some (r, τ) → xC G l mM_X7_answerUnder (2 + n) [.ref (xad G 40), .int a1, .int a2, .int a3, .int a4, .int a5] (xM σ) (some (.int r)) (xM τ)) {a1 : Int32} {a2 : Int32} {a3 : Int32} {a4 : Int32} {σ : xS2} {r : Int32} {τ : xS2} (h : J_X7_begin_b p_X7_answerOfWheel p_X7_answerUnder a1 a2 a3 a4 σ = some (r, τ)) : xC G l mM_X7_begin (2 + (n + 1)) [.ref (xad G 40), .int a1, .int a2, .int a3, .int a4] (xM σ) (some (.int r)) (xM τ) := by
  refine xC_of (by decide) rfl (Nat.le_refl _) (Nat.le_of_ble_eq_true rfl) (fun K hC hE hR _ => ?_)
  refine x_iload_n hC dX7_begin_0 rfl (j := 2) rfl <| x_istore hC dX7_begin_1 (by decide) rfl <| x_iconst (v := (0 : Int32)) hC dX7_begin_3 (by decide) <| x_istore hC dX7_begin_4 (by decide) rfl <| ?_
  refine x_sub [2, 3, 5, 6, 1, 0] rfl ?_
  exact B_X7_begin_6 hp_X7_answerOfWheel hp_X7_answerUnder hC hR hE xFU a1 a3 a4 a2 (0 : Int32) σ h
set_option maxRecDepth 100000 in
set_option maxHeartbeats 4000000 in
theorem D_X7_own {G : xG} {l : Launch} {n : Nat} {p_X7_begin : (Int32 → Int32 → Int32 → Int32 → xS2 → Option (Int32 × xS2))} (hp_X7_begin : ∀ (a1 : Int32) (a2 : Int32) (a3 : Int32) (a4 : Int32) (σ : xS2) (r : Int32) (τ : xS2), p_X7_begin a1 a2 a3 a4 σ = some (r, τ) → xC G l mM_X7_begin (2 + n) [.ref (xad G 40), .int a1, .int a2, .int a3, .int a4] (xM σ) (some (.int r)) (xM τ)) {a1 : Int32} {a2 : Int32} {a3 : Int32} {σ : xS2} {r : Int32} {τ : xS2} (h : J_X7_own_b p_X7_begin a1 a2 a3 σ = some (r, τ)) : xC G l mM_X7_own (2 + (n + 1)) [.ref (xad G 40), .int a1, .int a2, .int a3] (xM σ) (some (.int r)) (xM τ) := by
  refine xC_of (by decide) rfl (Nat.le_refl _) (Nat.le_of_ble_eq_true rfl) (fun K hC hE hR _ => ?_)
  refine x_aload_n hC dX7_own_0 rfl (j := 0) rfl <| x_iload_n hC dX7_own_1 rfl (j := 1) rfl <| x_aload_n hC dX7_own_2 rfl (j := 0) rfl <| x_aload_n hC dX7_own_3 rfl (j := 0) rfl <| s_getI hC dX7_own_4 wfl_X7_33 rfl (by decide) (by decide) (by decide) (by decide) <| ?_
  obtain ⟨x1, h1, h⟩ := Option.bind_eq_some_iff.mp h
  refine x_callV hC hR dX7_own_7 mK_X7_kindOf wml_X7_36 (C_X7_kindOf (a1 := (σ.1 40 2)) (σ := σ) h1) (by omega) rfl (by decide) rfl rfl (xlt (by decide)) rfl (Nat.le_of_ble_eq_true rfl) rfl rfl rfl <| ?_
  refine x_iload_n hC dX7_own_10 rfl (j := 2) rfl <| x_iload_n hC dX7_own_11 rfl (j := 3) rfl <| x_iconst (v := (1 : Int32)) hC dX7_own_12 (by decide) <| x_iadd hC dX7_own_13 <| ?_
  obtain ⟨x2, h2, h⟩ := Option.bind_eq_some_iff.mp h
  refine x_callV hC hR dX7_own_14 mK_X7_begin wml_X7_40 (hp_X7_begin a1 x1 a2 (a3 + (1 : Int32)) σ _ _ h2) (by omega) rfl (by decide) rfl rfl (xlt (by decide)) rfl (Nat.le_of_ble_eq_true rfl) rfl rfl rfl <| ?_
  obtain ⟨e1, e2⟩ := xso2 h
  subst e1
  subst e2
  exact x_iret (rest := []) hC hE rfl dX7_own_17
set_option maxRecDepth 100000 in
set_option maxHeartbeats 4000000 in
theorem CG_X7_answerOfWheel {G : xG} {l : Launch} : ∀ n : Nat, (∀ (a1 : Int32) (a2 : Int32) (a3 : Int32) (σ : xS2) (r : Int32) (τ : xS2), (G_X7_answerOfWheel n).1 a1 a2 a3 σ = some (r, τ) → xC G l mM_X7_answerOfWheel (2 + n) [.ref (xad G 40), .int a1, .int a2, .int a3] (xM σ) (some (.int r)) (xM τ)) ∧ (∀ (a1 : Int32) (a2 : Int32) (a3 : Int32) (a4 : Int32) (a5 : Int32) (σ : xS2) (r : Int32) (τ : xS2), (G_X7_answerOfWheel n).2.1 a1 a2 a3 a4 a5 σ = some (r, τ) → xC G l mM_X7_answerUnder (2 + n) [.ref (xad G 40), .int a1, .int a2, .int a3, .int a4, .int a5] (xM σ) (some (.int r)) (xM τ)) ∧ (∀ (a1 : Int32) (a2 : Int32) (a3 : Int32) (a4 : Int32) (σ : xS2) (r : Int32) (τ : xS2), (G_X7_answerOfWheel n).2.2.1 a1 a2 a3 a4 σ = some (r, τ) → xC G l mM_X7_begin (2 + n) [.ref (xad G 40), .int a1, .int a2, .int a3, .int a4] (xM σ) (some (.int r)) (xM τ)) ∧ (∀ (a1 : Int32) (a2 : Int32) (a3 : Int32) (σ : xS2) (r : Int32) (τ : xS2), (G_X7_answerOfWheel n).2.2.2 a1 a2 a3 σ = some (r, τ) → xC G l mM_X7_own (2 + n) [.ref (xad G 40), .int a1, .int a2, .int a3] (xM σ) (some (.int r)) (xM τ)) := by
  intro n
  induction n with
  | zero => exact ⟨fun _ _ _ _ _ _ h => (by cases h), fun _ _ _ _ _ _ _ _ h => (by cases h), fun _ _ _ _ _ _ _ h => (by cases h), fun _ _ _ _ _ _ h => (by cases h)⟩
  | succ n ih =>
    obtain ⟨i_X7_answerOfWheel, i_X7_answerUnder, i_X7_begin, i_X7_own⟩ := ih
    exact ⟨fun a1 a2 a3 σ r τ h => D_X7_answerOfWheel i_X7_own h, fun a1 a2 a3 a4 a5 σ r τ h => D_X7_answerUnder i_X7_begin i_X7_own h, fun a1 a2 a3 a4 σ r τ h => D_X7_begin i_X7_answerOfWheel i_X7_answerUnder h, fun a1 a2 a3 σ r τ h => D_X7_own i_X7_begin h⟩
theorem C_X7_answerOfWheel {G : xG} {l : Launch} {a1 : Int32} {a2 : Int32} {a3 : Int32} {σ : xS2} {r : Int32} {τ : xS2} (h : J_X7_answerOfWheel a1 a2 a3 σ = some (r, τ)) : xC G l mM_X7_answerOfWheel 102 [.ref (xad G 40), .int a1, .int a2, .int a3] (xM σ) (some (.int r)) (xM τ) := (CG_X7_answerOfWheel 100).1 a1 a2 a3 σ r τ h
theorem C_X7_answerUnder {G : xG} {l : Launch} {a1 : Int32} {a2 : Int32} {a3 : Int32} {a4 : Int32} {a5 : Int32} {σ : xS2} {r : Int32} {τ : xS2} (h : J_X7_answerUnder a1 a2 a3 a4 a5 σ = some (r, τ)) : xC G l mM_X7_answerUnder 102 [.ref (xad G 40), .int a1, .int a2, .int a3, .int a4, .int a5] (xM σ) (some (.int r)) (xM τ) := (CG_X7_answerOfWheel 100).2.1 a1 a2 a3 a4 a5 σ r τ h
theorem C_X7_begin {G : xG} {l : Launch} {a1 : Int32} {a2 : Int32} {a3 : Int32} {a4 : Int32} {σ : xS2} {r : Int32} {τ : xS2} (h : J_X7_begin a1 a2 a3 a4 σ = some (r, τ)) : xC G l mM_X7_begin 102 [.ref (xad G 40), .int a1, .int a2, .int a3, .int a4] (xM σ) (some (.int r)) (xM τ) := (CG_X7_answerOfWheel 100).2.2.1 a1 a2 a3 a4 σ r τ h
theorem C_X7_own {G : xG} {l : Launch} {a1 : Int32} {a2 : Int32} {a3 : Int32} {σ : xS2} {r : Int32} {τ : xS2} (h : J_X7_own a1 a2 a3 σ = some (r, τ)) : xC G l mM_X7_own 102 [.ref (xad G 40), .int a1, .int a2, .int a3] (xM σ) (some (.int r)) (xM τ) := (CG_X7_answerOfWheel 100).2.2.2 a1 a2 a3 σ r τ h
set_option maxRecDepth 100000 in
set_option maxHeartbeats 4000000 in
theorem B_X7_isUnder_4 {G : xG} {l : Launch} {K : xK} {r : Bool} {σ : xS2} (hC : xCX G mM_X7_isUnder K) (hR : xRd K 1) (hE : xE G K (some (.int (xb r))) (xM σ)) : ∀ (f : Nat) (l1 : Int32) (l2 : Int32) (l3 : Int32), J_X7_isUnder_4 f l1 l2 l3 σ = some r → xV G l mM_X7_isUnder K 4 [(1, .int l1), (2, .int l2), (3, .int l3)] [] (xM σ) := by
  intro f
  induction f with
  | zero => intro l1 l2 l3 h; cases h
  | succ f ih =>
    intro l1 l2 l3 h
    refine x_iload_n hC dX7_isUnder_4 rfl (j := 2) rfl <| x_bipush (v := (8 : Int32)) hC dX7_isUnder_5 (by decide) <| ?_
    refine x_icmp_ge (tgt := 36) hC dX7_isUnder_7 (by decide) (fun c1 => ?_) (fun c1 => ?_)
    · replace h := (if_pos c1).symm.trans h
      refine x_iconst (v := (0 : Int32)) hC dX7_isUnder_36 (by decide) <| ?_
      have e1 := Option.some.inj h
      subst e1
      exact x_zret (rest := []) hC hE rfl (by decide) dX7_isUnder_37
    · replace h := (if_neg c1).symm.trans h
      refine x_iload_n hC dX7_isUnder_10 rfl (j := 1) rfl <| x_callS hC hR dX7_isUnder_11 mK_X7_isKind wml_X7_16 (C_X7_isKind (a0 := l2) (σ := σ)) (by omega) rfl (Nat.le_of_ble_eq_true rfl) rfl rfl rfl <| ?_
      refine x_if_eq (tgt := 36) hC dX7_isUnder_14 (by decide) (fun c3 => ?_) (fun c3 => ?_)
      · replace h := (if_pos c3).symm.trans h
        refine x_iconst (v := (0 : Int32)) hC dX7_isUnder_36 (by decide) <| ?_
        have e1 := Option.some.inj h
        subst e1
        exact x_zret (rest := []) hC hE rfl (by decide) dX7_isUnder_37
      · replace h := (if_neg c3).symm.trans h
        refine x_iload_n hC dX7_isUnder_17 rfl (j := 1) rfl <| x_iload_n hC dX7_isUnder_18 rfl (j := 0) rfl <| ?_
        refine x_icmp_ne (tgt := 24) hC dX7_isUnder_19 (by decide) (fun c4 => ?_) (fun c4 => ?_)
        · replace h := (if_neg c4).symm.trans h
          refine x_gets (j := 5) hC dX7_isUnder_24 rfl wst_X7_20 <| x_iload_n hC dX7_isUnder_27 rfl (j := 1) rfl <| ?_
          obtain ⟨h5, h⟩ := xgd_some h
          refine x_tald (v := (xsv 5 l2)) hC dX7_isUnder_28 rfl (N := 8) rfl h5 rfl <| ?_
          refine x_istore_n hC dX7_isUnder_29 rfl (by decide) rfl <| x_iinc hC dX7_isUnder_30 (j := 2) (v := (l3 + (1 : Int32))) rfl rfl (by decide) rfl <| x_goto (tgt := 4) hC dX7_isUnder_33 (by decide) <| ?_
          refine x_sub [2, 1, 0] rfl ?_
          exact ih l1 (xsv 5 l2) (l3 + (1 : Int32)) h
        · replace h := (if_pos c4).symm.trans h
          refine x_iconst (v := (1 : Int32)) hC dX7_isUnder_22 (by decide) <| ?_
          have e1 := Option.some.inj h
          subst e1
          exact x_zret (rest := []) hC hE rfl (by decide) dX7_isUnder_23
set_option maxRecDepth 100000 in
set_option maxHeartbeats 4000000 in
theorem C_X7_isUnder {G : xG} {l : Launch} {a0 : Int32} {a1 : Int32} {σ : xS2} {r : Bool} (h : J_X7_isUnder a0 a1 σ = some r) : xC G l mM_X7_isUnder 1 [.int a0, .int a1] (xM σ) (some (.int (xb r))) (xM σ) := by
  refine xC_of (by decide) rfl (Nat.le_refl _) (Nat.le_of_ble_eq_true rfl) (fun K hC hE hR _ => ?_)
  refine x_iload_n hC dX7_isUnder_0 rfl (j := 0) rfl <| x_istore_n hC dX7_isUnder_1 rfl (by decide) rfl <| x_iconst (v := (0 : Int32)) hC dX7_isUnder_2 (by decide) <| x_istore_n hC dX7_isUnder_3 rfl (by decide) rfl <| ?_
  refine x_sub [3, 1, 0] rfl ?_
  exact B_X7_isUnder_4 hC hR hE xFU a1 a0 (0 : Int32) h
set_option maxRecDepth 100000 in
set_option maxHeartbeats 4000000 in
theorem C_X7_perform {G : xG} {l : Launch} {a1 : Int32} {a2 : Int32} {a3 : Int32} {σ : xS2} {r : Int32} {τ : xS2} (h : J_X7_perform a1 a2 a3 σ = some (r, τ)) : xC G l mM_X7_perform 103 [.ref (xad G 40), .int a1, .int a2, .int a3] (xM σ) (some (.int r)) (xM τ) := by
  refine xC_of (by decide) rfl (Nat.le_refl _) (Nat.le_of_ble_eq_true rfl) (fun K hC hE hR _ => ?_)
  refine x_aload_n hC dX7_perform_0 rfl (j := 0) rfl <| x_iconst (v := (0 : Int32)) hC dX7_perform_1 (by decide) <| s_putI hC dX7_perform_2 wfl_X7_30 rfl (by decide) (by decide) (by decide) (by decide) (by decide) <| x_aload_n hC dX7_perform_5 rfl (j := 0) rfl <| x_iload_n hC dX7_perform_6 rfl (j := 1) rfl <| x_callV hC hR dX7_perform_7 mK_X7_has wml_X7_27 (C_X7_has (a1 := a1) (σ := (yI σ 40 4 (0 : Int32)))) (by omega) rfl (by decide) rfl rfl (xlt (by decide)) rfl (Nat.le_of_ble_eq_true rfl) rfl rfl rfl <| ?_
  refine x_if_eq (tgt := 22) hC dX7_perform_10 (by decide) (fun c2 => ?_) (fun c2 => ?_)
  · replace h := (if_pos c2).symm.trans h
    refine x_iconst (v := (0 : Int32)) hC dX7_perform_22 (by decide) <| ?_
    obtain ⟨e1, e2⟩ := xso2 h
    subst e1
    subst e2
    exact x_iret (rest := []) hC hE rfl dX7_perform_23
  · replace h := (if_neg c2).symm.trans h
    refine x_iload_n hC dX7_perform_13 rfl (j := 2) rfl <| ?_
    refine x_if_lt (tgt := 22) hC dX7_perform_14 (by decide) (fun c3 => ?_) (fun c3 => ?_)
    · replace h := (if_pos c3).symm.trans h
      refine x_iconst (v := (0 : Int32)) hC dX7_perform_22 (by decide) <| ?_
      obtain ⟨e1, e2⟩ := xso2 h
      subst e1
      subst e2
      exact x_iret (rest := []) hC hE rfl dX7_perform_23
    · replace h := (if_neg c3).symm.trans h
      refine x_iload_n hC dX7_perform_17 rfl (j := 2) rfl <| x_iconst (v := (4 : Int32)) hC dX7_perform_18 (by decide) <| ?_
      refine x_icmp_lt (tgt := 24) hC dX7_perform_19 (by decide) (fun c4 => ?_) (fun c4 => ?_)
      · replace h := (if_pos c4).symm.trans h
        refine x_aload_n hC dX7_perform_24 rfl (j := 0) rfl <| x_iload_n hC dX7_perform_25 rfl (j := 1) rfl <| s_putI hC dX7_perform_26 wfl_X7_33 rfl (by decide) (by decide) (by decide) (by decide) (by decide) <| x_aload_n hC dX7_perform_29 rfl (j := 0) rfl <| x_iload_n hC dX7_perform_30 rfl (j := 2) rfl <| x_aload_n hC dX7_perform_31 rfl (j := 0) rfl <| ?_
        refine x_iload_n hC dX7_perform_32 rfl (j := 1) rfl <| ?_
        obtain ⟨x5, h5, h⟩ := Option.bind_eq_some_iff.mp h
        refine x_callV hC hR dX7_perform_33 mK_X7_kindOf wml_X7_36 (C_X7_kindOf (a1 := a1) (σ := (yI (yI σ 40 4 (0 : Int32)) 40 2 a1)) h5) (by omega) rfl (by decide) rfl rfl (xlt (by decide)) rfl (Nat.le_of_ble_eq_true rfl) rfl rfl rfl <| ?_
        refine x_iload_n hC dX7_perform_36 rfl (j := 3) rfl <| x_iconst (v := (0 : Int32)) hC dX7_perform_37 (by decide) <| ?_
        obtain ⟨x6, h6, h⟩ := Option.bind_eq_some_iff.mp h
        refine x_callV hC hR dX7_perform_38 mK_X7_begin wml_X7_40 (C_X7_begin (a1 := a2) (a2 := x5) (a3 := a3) (a4 := (0 : Int32)) (σ := (yI (yI σ 40 4 (0 : Int32)) 40 2 a1)) h6) (by omega) rfl (by decide) rfl rfl (xlt (by decide)) rfl (Nat.le_of_ble_eq_true rfl) rfl rfl rfl <| ?_
        obtain ⟨e1, e2⟩ := xso2 h
        subst e1
        subst e2
        exact x_iret (rest := []) hC hE rfl dX7_perform_41
      · replace h := (if_neg c4).symm.trans h
        refine x_iconst (v := (0 : Int32)) hC dX7_perform_22 (by decide) <| ?_
        obtain ⟨e1, e2⟩ := xso2 h
        subst e1
        subst e2
        exact x_iret (rest := []) hC hE rfl dX7_perform_23
set_option maxRecDepth 100000 in
set_option maxHeartbeats 4000000 in
theorem C_X7_ranAt {G : xG} {l : Launch} {a1 : Int32} {σ : xS2} {r : Int32} (h : J_X7_ranAt a1 σ = some r) : xC G l mM_X7_ranAt 0 [.ref (xad G 40), .int a1] (xM σ) (some (.int r)) (xM σ) := by
  refine xC_of (by decide) rfl (Nat.le_refl _) (Nat.le_of_ble_eq_true rfl) (fun K hC hE hR _ => ?_)
  refine x_iload_n hC dX7_ranAt_0 rfl (j := 1) rfl <| ?_
  refine x_if_lt (tgt := 27) hC dX7_ranAt_1 (by decide) (fun c1 => ?_) (fun c1 => ?_)
  · replace h := (if_pos c1).symm.trans h
    refine x_iconst (v := (-1 : Int32)) hC dX7_ranAt_27 (by decide) <| ?_
    have e1 := Option.some.inj h
    subst e1
    exact x_iret (rest := []) hC hE rfl dX7_ranAt_28
  · replace h := (if_neg c1).symm.trans h
    refine x_iload_n hC dX7_ranAt_4 rfl (j := 1) rfl <| x_aload_n hC dX7_ranAt_5 rfl (j := 0) rfl <| s_getI hC dX7_ranAt_6 wfl_X7_30 rfl (by decide) (by decide) (by decide) (by decide) <| ?_
    refine x_icmp_ge (tgt := 27) hC dX7_ranAt_9 (by decide) (fun c2 => ?_) (fun c2 => ?_)
    · replace h := (if_pos c2).symm.trans h
      refine x_iconst (v := (-1 : Int32)) hC dX7_ranAt_27 (by decide) <| ?_
      have e1 := Option.some.inj h
      subst e1
      exact x_iret (rest := []) hC hE rfl dX7_ranAt_28
    · replace h := (if_neg c2).symm.trans h
      refine x_iload_n hC dX7_ranAt_12 rfl (j := 1) rfl <| x_bipush (v := (24 : Int32)) hC dX7_ranAt_13 (by decide) <| ?_
      refine x_icmp_ge (tgt := 27) hC dX7_ranAt_15 (by decide) (fun c3 => ?_) (fun c3 => ?_)
      · replace h := (if_pos c3).symm.trans h
        refine x_iconst (v := (-1 : Int32)) hC dX7_ranAt_27 (by decide) <| ?_
        have e1 := Option.some.inj h
        subst e1
        exact x_iret (rest := []) hC hE rfl dX7_ranAt_28
      · replace h := (if_neg c3).symm.trans h
        refine x_aload_n hC dX7_ranAt_18 rfl (j := 0) rfl <| s_getR (q := 42) hC dX7_ranAt_19 wfl_X7_13 rfl (by decide) (by decide) (by decide) (by decide) (by decide) <| x_iload_n hC dX7_ranAt_22 rfl (j := 1) rfl <| ?_
        obtain ⟨h4, h⟩ := xgd_some h
        refine s_iald hC dX7_ranAt_23 rfl (by decide) h4 <| ?_
        refine x_goto (tgt := 28) hC dX7_ranAt_24 (by decide) <| ?_
        have e1 := Option.some.inj h
        subst e1
        exact x_iret (rest := []) hC hE rfl dX7_ranAt_28
set_option maxRecDepth 100000 in
set_option maxHeartbeats 4000000 in
theorem C_X8_act {G : xG} {l : Launch} {a1 : Int32} {a2 : Int32} {a3 : Int32} {σ : xS2} {r : Int32} {τ : xS2} (h : J_X8_act a1 a2 a3 σ = some (r, τ)) : xC G l mM_X8_act 104 [.ref (xad G 0), .int a1, .int a2, .int a3] (xM σ) (some (.int r)) (xM τ) := by
  refine xC_of (by decide) rfl (Nat.le_refl _) (Nat.le_of_ble_eq_true rfl) (fun K hC hE hR _ => ?_)
  refine x_aload_n hC dX8_act_0 rfl (j := 0) rfl <| s_getR (q := 40) hC dX8_act_1 wfl_X8_75 rfl (by decide) (by decide) (by decide) (by decide) (by decide) <| x_iload_n hC dX8_act_4 rfl (j := 1) rfl <| x_iload_n hC dX8_act_5 rfl (j := 2) rfl <| x_iload_n hC dX8_act_6 rfl (j := 3) rfl <| ?_
  obtain ⟨x1, h1, h⟩ := Option.bind_eq_some_iff.mp h
  refine x_callV hC hR dX8_act_7 mK_X7_perform wml_X8_291 (C_X7_perform (a1 := a1) (a2 := a2) (a3 := a3) (σ := σ) h1) (by omega) rfl (by decide) rfl rfl (xlt (by decide)) rfl (Nat.le_of_ble_eq_true rfl) rfl rfl rfl <| ?_
  obtain ⟨e1, e2⟩ := xso2 h
  subst e1
  subst e2
  exact x_iret (rest := []) hC hE rfl dX8_act_10
set_option maxRecDepth 100000 in
set_option maxHeartbeats 4000000 in
theorem C_X8_back {G : xG} {l : Launch} {σ : xS2} {r : Int32} {τ : xS2} (h : J_X8_back σ = some (r, τ)) : xC G l mM_X8_back 2 [.ref (xad G 0)] (xM σ) (some (.int r)) (xM τ) := by
  refine xC_of (by decide) rfl (Nat.le_refl _) (Nat.le_of_ble_eq_true rfl) (fun K hC hE hR _ => ?_)
  refine x_aload_n hC dX8_back_0 rfl (j := 0) rfl <| s_getI hC dX8_back_1 wfl_X8_79 rfl (by decide) (by decide) (by decide) (by decide) <| ?_
  refine x_if_ge (tgt := 10) hC dX8_back_4 (by decide) (fun c1 => ?_) (fun c1 => ?_)
  · replace h := (if_pos c1).symm.trans h
    refine x_aload_n hC dX8_back_10 rfl (j := 0) rfl <| s_getR (q := 3) hC dX8_back_11 wfl_X8_19 rfl (by decide) (by decide) (by decide) (by decide) (by decide) <| x_aload_n hC dX8_back_14 rfl (j := 0) rfl <| s_getR (q := 5) hC dX8_back_15 wfl_X8_26 rfl (by decide) (by decide) (by decide) (by decide) (by decide) <| ?_
    obtain ⟨x2, h2, h⟩ := Option.bind_eq_some_iff.mp h
    refine x_callV hC hR dX8_back_18 mK_X0_become wml_X8_194 (C_X0_become (a0 := 3) (a1 := 5) (σ := σ) rfl rfl h2) (by omega) rfl (by decide) rfl rfl (xlt (by decide)) rfl (Nat.le_of_ble_eq_true rfl) rfl rfl rfl <| ?_
    refine x_aload_n hC dX8_back_21 rfl (j := 0) rfl <| x_aload_n hC dX8_back_22 rfl (j := 0) rfl <| s_getI hC dX8_back_23 wfl_X8_79 rfl (by decide) (by decide) (by decide) (by decide) <| s_putI hC dX8_back_26 wfl_X8_119 rfl (by decide) (by decide) (by decide) (by decide) (by decide) <| x_aload_n hC dX8_back_29 rfl (j := 0) rfl <| s_getI hC dX8_back_30 wfl_X8_119 rfl (by decide) (by decide) (by decide) (by decide) <| ?_
    obtain ⟨e1, e2⟩ := xso2 h
    subst e1
    subst e2
    exact x_iret (rest := []) hC hE rfl dX8_back_33
  · replace h := (if_neg c1).symm.trans h
    refine x_bipush (v := (-5 : Int32)) hC dX8_back_7 (by decide) <| ?_
    obtain ⟨e1, e2⟩ := xso2 h
    subst e1
    subst e2
    exact x_iret (rest := []) hC hE rfl dX8_back_9
set_option maxRecDepth 100000 in
set_option maxHeartbeats 4000000 in
theorem C_X8_body {G : xG} {l : Launch} {a1 : Int32} {σ : xS2} {r : Int32} {τ : xS2} (h : J_X8_body a1 σ = some (r, τ)) : xC G l mM_X8_body 1 [.ref (xad G 0), .int a1] (xM σ) (some (.int r)) (xM τ) := by
  refine xC_of (by decide) rfl (Nat.le_refl _) (Nat.le_of_ble_eq_true rfl) (fun K hC hE hR _ => ?_)
  refine x_iload_n hC dX8_body_0 rfl (j := 1) rfl <| x_callS hC hR dX8_body_1 mK_X7_isKind wml_X8_285 (C_X7_isKind (a0 := a1) (σ := σ)) (by omega) rfl (Nat.le_of_ble_eq_true rfl) rfl rfl rfl <| ?_
  refine x_if_ne (tgt := 9) hC dX8_body_4 (by decide) (fun c2 => ?_) (fun c2 => ?_)
  · replace h := (if_neg c2).symm.trans h
    refine x_aload_n hC dX8_body_9 rfl (j := 0) rfl <| s_getR (q := 40) hC dX8_body_10 wfl_X8_75 rfl (by decide) (by decide) (by decide) (by decide) (by decide) <| x_iload_n hC dX8_body_13 rfl (j := 1) rfl <| ?_
    obtain ⟨x3, h3, h⟩ := Option.bind_eq_some_iff.mp h
    refine x_callV hC hR dX8_body_14 mK_X7_add wml_X8_288 (C_X7_add (a1 := a1) (σ := σ) h3) (by omega) rfl (by decide) rfl rfl (xlt (by decide)) rfl (Nat.le_of_ble_eq_true rfl) rfl rfl rfl <| ?_
    refine x_istore_n hC dX8_body_17 rfl (by decide) rfl <| x_iload_n hC dX8_body_18 rfl (j := 0) rfl <| ?_
    refine x_if_ge (tgt := 27) hC dX8_body_19 (by decide) (fun c4 => ?_) (fun c4 => ?_)
    · replace h := (if_pos c4).symm.trans h
      refine x_iload_n hC dX8_body_27 rfl (j := 0) rfl <| ?_
      obtain ⟨e1, e2⟩ := xso2 h
      subst e1
      subst e2
      exact x_iret (rest := []) hC hE rfl dX8_body_28
    · replace h := (if_neg c4).symm.trans h
      refine x_bipush (v := (-3 : Int32)) hC dX8_body_22 (by decide) <| x_goto (tgt := 28) hC dX8_body_24 (by decide) <| ?_
      obtain ⟨e1, e2⟩ := xso2 h
      subst e1
      subst e2
      exact x_iret (rest := []) hC hE rfl dX8_body_28
  · replace h := (if_pos c2).symm.trans h
    refine x_iconst (v := (-1 : Int32)) hC dX8_body_7 (by decide) <| ?_
    obtain ⟨e1, e2⟩ := xso2 h
    subst e1
    subst e2
    exact x_iret (rest := []) hC hE rfl dX8_body_8
set_option maxRecDepth 100000 in
set_option maxHeartbeats 4000000 in
theorem C_X8_isOneOf {G : xG} {l : Launch} {a0 : Int32} {a1 : Int32} {σ : xS2} : xC G l mM_X8_isOneOf 0 [.int a0, .int a1] (xM σ) (some (.int (xb (J_X8_isOneOf a0 a1)))) (xM σ) := by
  refine xC_of (by decide) rfl (Nat.le_refl _) (Nat.le_of_ble_eq_true rfl) (fun K hC hE hR _ => ?_)
  obtain ⟨r, h⟩ : ∃ r, J_X8_isOneOf a0 a1 = r := ⟨_, rfl⟩
  rw [h] at hE
  refine x_iload_n hC dX8_isOneOf_0 rfl (j := 0) rfl <| ?_
  refine x_if_lt (tgt := 13) hC dX8_isOneOf_1 (by decide) (fun c1 => ?_) (fun c1 => ?_)
  · replace h := (if_pos c1).symm.trans h
    refine x_iconst (v := (0 : Int32)) hC dX8_isOneOf_13 (by decide) <| ?_
    subst h
    exact x_zret (rest := []) hC hE rfl (by decide) dX8_isOneOf_14
  · replace h := (if_neg c1).symm.trans h
    refine x_iload_n hC dX8_isOneOf_4 rfl (j := 0) rfl <| x_iload_n hC dX8_isOneOf_5 rfl (j := 1) rfl <| ?_
    refine x_icmp_ge (tgt := 13) hC dX8_isOneOf_6 (by decide) (fun c2 => ?_) (fun c2 => ?_)
    · replace h := (if_pos c2).symm.trans h
      refine x_iconst (v := (0 : Int32)) hC dX8_isOneOf_13 (by decide) <| ?_
      subst h
      exact x_zret (rest := []) hC hE rfl (by decide) dX8_isOneOf_14
    · replace h := (if_neg c2).symm.trans h
      refine x_iconst (v := (1 : Int32)) hC dX8_isOneOf_9 (by decide) <| x_goto (tgt := 14) hC dX8_isOneOf_10 (by decide) <| ?_
      subst h
      exact x_zret (rest := []) hC hE rfl (by decide) dX8_isOneOf_14
set_option maxRecDepth 100000 in
set_option maxHeartbeats 4000000 in
theorem C_X8_cheapest {G : xG} {l : Launch} {a1 : Int32} {a2 : Int32} {σ : xS2} {r : Int32} {τ : xS2} (h : J_X8_cheapest a1 a2 σ = some (r, τ)) : xC G l mM_X8_cheapest 4 [.ref (xad G 0), .int a1, .int a2] (xM σ) (some (.int r)) (xM τ) := by
  refine xC_of (by decide) rfl (Nat.le_refl _) (Nat.le_of_ble_eq_true rfl) (fun K hC hE hR _ => ?_)
  refine x_iload_n hC dX8_cheapest_0 rfl (j := 1) rfl <| ?_
  refine x_if_lt (tgt := 32) hC dX8_cheapest_1 (by decide) (fun c1 => ?_) (fun c1 => ?_)
  · replace h := (if_pos c1).symm.trans h
    refine x_iconst (v := (-1 : Int32)) hC dX8_cheapest_32 (by decide) <| ?_
    obtain ⟨e1, e2⟩ := xso2 h
    subst e1
    subst e2
    exact x_iret (rest := []) hC hE rfl dX8_cheapest_33
  · replace h := (if_neg c1).symm.trans h
    refine x_iload_n hC dX8_cheapest_4 rfl (j := 1) rfl <| x_bipush (v := (100 : Int32)) hC dX8_cheapest_5 (by decide) <| x_idiv hC dX8_cheapest_7 (by decide) <| x_callS hC hR dX8_cheapest_8 mK_X3_isCell wml_X8_109 (C_X3_isCell (a0 := (a1 / (100 : Int32))) (σ := σ)) (by omega) rfl (Nat.le_of_ble_eq_true rfl) rfl rfl rfl <| ?_
    refine x_if_eq (tgt := 32) hC dX8_cheapest_11 (by decide) (fun c3 => ?_) (fun c3 => ?_)
    · replace h := (if_pos c3).symm.trans h
      refine x_iconst (v := (-1 : Int32)) hC dX8_cheapest_32 (by decide) <| ?_
      obtain ⟨e1, e2⟩ := xso2 h
      subst e1
      subst e2
      exact x_iret (rest := []) hC hE rfl dX8_cheapest_33
    · replace h := (if_neg c3).symm.trans h
      refine x_iload_n hC dX8_cheapest_14 rfl (j := 1) rfl <| x_bipush (v := (100 : Int32)) hC dX8_cheapest_15 (by decide) <| x_irm hC dX8_cheapest_17 (by decide) <| x_callS hC hR dX8_cheapest_18 mK_X3_isCell wml_X8_109 (C_X3_isCell (a0 := (xrm a1 (100 : Int32))) (σ := σ)) (by omega) rfl (Nat.le_of_ble_eq_true rfl) rfl rfl rfl <| ?_
      refine x_if_eq (tgt := 32) hC dX8_cheapest_21 (by decide) (fun c5 => ?_) (fun c5 => ?_)
      · replace h := (if_pos c5).symm.trans h
        refine x_iconst (v := (-1 : Int32)) hC dX8_cheapest_32 (by decide) <| ?_
        obtain ⟨e1, e2⟩ := xso2 h
        subst e1
        subst e2
        exact x_iret (rest := []) hC hE rfl dX8_cheapest_33
      · replace h := (if_neg c5).symm.trans h
        refine x_iload_n hC dX8_cheapest_24 rfl (j := 2) rfl <| x_iconst (v := (2 : Int32)) hC dX8_cheapest_25 (by decide) <| x_callS hC hR dX8_cheapest_26 mK_X8_isOneOf wml_X8_188 (C_X8_isOneOf (a0 := a2) (a1 := (2 : Int32)) (σ := σ)) (by omega) rfl (Nat.le_of_ble_eq_true rfl) rfl rfl rfl <| ?_
        refine x_if_ne (tgt := 34) hC dX8_cheapest_29 (by decide) (fun c7 => ?_) (fun c7 => ?_)
        · replace h := (if_neg c7).symm.trans h
          refine x_iload_n hC dX8_cheapest_34 rfl (j := 1) rfl <| x_bipush (v := (100 : Int32)) hC dX8_cheapest_35 (by decide) <| x_idiv hC dX8_cheapest_37 (by decide) <| x_istore_n hC dX8_cheapest_38 rfl (by decide) rfl <| x_aload_n hC dX8_cheapest_39 rfl (j := 1) rfl <| s_getR (q := 13) hC dX8_cheapest_40 wfl_X8_47 rfl (by decide) (by decide) (by decide) (by decide) (by decide) <| ?_
          refine x_aload_n hC dX8_cheapest_43 rfl (j := 1) rfl <| s_getR (q := 1) hC dX8_cheapest_44 wfl_X8_10 rfl (by decide) (by decide) (by decide) (by decide) (by decide) <| x_iload_n hC dX8_cheapest_47 rfl (j := 2) rfl <| x_bipush (v := (100 : Int32)) hC dX8_cheapest_48 (by decide) <| x_irm hC dX8_cheapest_50 (by decide) <| ?_
          obtain ⟨x8, h8, h⟩ := Option.bind_eq_some_iff.mp h
          refine x_callV hC hR dX8_cheapest_51 mK_X6_spreadTo wml_X8_209 (C_X6_spreadTo (a2 := (xrm a1 (100 : Int32))) (σ := σ) h8) (by omega) rfl (by decide) rfl rfl (xlt (by decide)) rfl (Nat.le_of_ble_eq_true rfl) rfl rfl rfl <| ?_
          refine x_iload_n hC dX8_cheapest_54 rfl (j := 3) rfl <| ?_
          refine x_if_ne (tgt := 67) hC dX8_cheapest_55 (by decide) (fun c9 => ?_) (fun c9 => ?_)
          · replace h := (if_neg c9).symm.trans h
            refine x_aload_n hC dX8_cheapest_67 rfl (j := 1) rfl <| s_getR (q := 13) hC dX8_cheapest_68 wfl_X8_47 rfl (by decide) (by decide) (by decide) (by decide) (by decide) <| x_aload_n hC dX8_cheapest_71 rfl (j := 1) rfl <| s_getR (q := 1) hC dX8_cheapest_72 wfl_X8_10 rfl (by decide) (by decide) (by decide) (by decide) (by decide) <| x_iload_n hC dX8_cheapest_75 rfl (j := 0) rfl <| ?_
            obtain ⟨x10, h10, h⟩ := Option.bind_eq_some_iff.mp h
            refine x_callV hC hR dX8_cheapest_76 mK_X6_firstFrom wml_X8_216 (C_X6_firstFrom (a2 := (a1 / (100 : Int32))) (σ := x8) h10) (by omega) rfl (by decide) rfl rfl (xlt (by decide)) rfl (Nat.le_of_ble_eq_true rfl) rfl rfl rfl <| ?_
            refine x_istore hC dX8_cheapest_79 (by decide) rfl <| x_iload hC dX8_cheapest_81 (j := 0) rfl <| ?_
            refine x_if_ge (tgt := 91) hC dX8_cheapest_83 (by decide) (fun c11 => ?_) (fun c11 => ?_)
            · replace h := (if_pos c11).symm.trans h
              refine x_iload hC dX8_cheapest_91 (j := 0) rfl <| ?_
              obtain ⟨e1, e2⟩ := xso2 h
              subst e1
              subst e2
              exact x_iret (rest := []) hC hE rfl dX8_cheapest_93
            · replace h := (if_neg c11).symm.trans h
              refine x_bipush (v := (-2 : Int32)) hC dX8_cheapest_86 (by decide) <| x_goto (tgt := 93) hC dX8_cheapest_88 (by decide) <| ?_
              obtain ⟨e1, e2⟩ := xso2 h
              subst e1
              subst e2
              exact x_iret (rest := []) hC hE rfl dX8_cheapest_93
          · replace h := (if_pos c9).symm.trans h
            refine x_aload_n hC dX8_cheapest_58 rfl (j := 1) rfl <| s_getR (q := 13) hC dX8_cheapest_59 wfl_X8_47 rfl (by decide) (by decide) (by decide) (by decide) (by decide) <| x_iload_n hC dX8_cheapest_62 rfl (j := 0) rfl <| ?_
            obtain ⟨x12, h12, h⟩ := Option.bind_eq_some_iff.mp h
            refine x_callV hC hR dX8_cheapest_63 mK_X6_costFrom wml_X8_213 (C_X6_costFrom (a1 := (a1 / (100 : Int32))) (σ := x8) h12) (by omega) rfl (by decide) rfl rfl (xlt (by decide)) rfl (Nat.le_of_ble_eq_true rfl) rfl rfl rfl <| ?_
            obtain ⟨e1, e2⟩ := xso2 h
            subst e1
            subst e2
            exact x_iret (rest := []) hC hE rfl dX8_cheapest_66
        · replace h := (if_pos c7).symm.trans h
          refine x_iconst (v := (-1 : Int32)) hC dX8_cheapest_32 (by decide) <| ?_
          obtain ⟨e1, e2⟩ := xso2 h
          subst e1
          subst e2
          exact x_iret (rest := []) hC hE rfl dX8_cheapest_33
set_option maxRecDepth 100000 in
set_option maxHeartbeats 4000000 in
theorem B_X8_greatestCommon_9 {G : xG} {l : Launch} {K : xK} {r : Int64} {σ : xS2} (hC : xCX G mM_X8_greatestCommon K) (hR : xRd K 0) (hE : xE G K (some (.long r)) (xM σ)) : ∀ (f : Nat) (l4 : Int64) (l6 : Int64) (l8 : Int32), J_X8_greatestCommon_9 f l4 l6 l8 = some r → xV G l mM_X8_greatestCommon K 9 [(4, .long l4), (6, .long l6), (8, .int l8)] [] (xM σ) := by
  intro f
  induction f with
  | zero => intro l4 l6 l8 h; cases h
  | succ f ih =>
    intro l4 l6 l8 h
    refine x_iload hC dX8_greatestCommon_9 (j := 2) rfl <| x_sipush (v := (200 : Int32)) hC dX8_greatestCommon_11 (by decide) <| ?_
    refine x_icmp_ge (tgt := 45) hC dX8_greatestCommon_14 (by decide) (fun c1 => ?_) (fun c1 => ?_)
    · replace h := (if_pos c1).symm.trans h
      refine x_lload hC dX8_greatestCommon_45 (j := 0) rfl <| ?_
      have e1 := Option.some.inj h
      subst e1
      exact x_lret (rest := []) hC hE rfl dX8_greatestCommon_47
    · replace h := (if_neg c1).symm.trans h
      refine x_lload hC dX8_greatestCommon_17 (j := 1) rfl <| x_lconst (v := (0 : Int64)) hC dX8_greatestCommon_19 (by decide) <| x_lcmp hC dX8_greatestCommon_20 <| ?_
      refine x_if_eq (tgt := 45) hC dX8_greatestCommon_21 (by decide) (fun c2 => ?_) (fun c2 => ?_)
      · replace h := (if_pos c2).symm.trans h
        refine x_lload hC dX8_greatestCommon_45 (j := 0) rfl <| ?_
        have e1 := Option.some.inj h
        subst e1
        exact x_lret (rest := []) hC hE rfl dX8_greatestCommon_47
      · replace h := (if_neg c2).symm.trans h
        refine x_lload hC dX8_greatestCommon_24 (j := 0) rfl <| x_lload hC dX8_greatestCommon_26 (j := 1) rfl <| ?_
        obtain ⟨h3, h⟩ := xgd_some h
        refine x_lrm hC dX8_greatestCommon_28 (xnz_neL h3) <| ?_
        refine x_lstore hC dX8_greatestCommon_29 (by decide) rfl <| x_lload hC dX8_greatestCommon_31 (j := 2) rfl <| x_lstore hC dX8_greatestCommon_33 (by decide) rfl <| x_lload hC dX8_greatestCommon_35 (j := 1) rfl <| x_lstore hC dX8_greatestCommon_37 (by decide) rfl <| x_iinc hC dX8_greatestCommon_39 (j := 3) (v := (l8 + (1 : Int32))) rfl rfl (by decide) rfl <| ?_
        refine x_goto (tgt := 9) hC dX8_greatestCommon_42 (by decide) <| ?_
        refine x_sub [2, 1, 0] rfl ?_
        exact ih l6 (xrmL l4 l6) (l8 + (1 : Int32)) h
set_option maxRecDepth 100000 in
set_option maxHeartbeats 4000000 in
theorem C_X8_greatestCommon {G : xG} {l : Launch} {a0 : Int64} {a1 : Int64} {σ : xS2} {r : Int64} (h : J_X8_greatestCommon a0 a1 = some r) : xC G l mM_X8_greatestCommon 0 [.long a0, .long a1] (xM σ) (some (.long r)) (xM σ) := by
  refine xC_of (by decide) rfl (Nat.le_refl _) (Nat.le_of_ble_eq_true rfl) (fun K hC hE hR _ => ?_)
  refine x_lload_n hC dX8_greatestCommon_0 rfl (j := 0) rfl <| x_lstore hC dX8_greatestCommon_1 (by decide) rfl <| x_lload_n hC dX8_greatestCommon_3 rfl (j := 2) rfl <| x_lstore hC dX8_greatestCommon_4 (by decide) rfl <| x_iconst (v := (0 : Int32)) hC dX8_greatestCommon_6 (by decide) <| x_istore hC dX8_greatestCommon_7 (by decide) rfl <| ?_
  refine x_sub [2, 1, 0] rfl ?_
  exact B_X8_greatestCommon_9 hC hR hE xFU a0 a1 (0 : Int32) h
set_option maxRecDepth 100000 in
set_option maxHeartbeats 4000000 in
theorem B_X8_power_5 {G : xG} {l : Launch} {K : xK} {r : Int64} {σ : xS2} (hC : xCX G mM_X8_power K) (hR : xRd K 0) (hE : xE G K (some (.long r)) (xM σ)) : ∀ (f : Nat) (l0 : Int64) (l2 : Int32) (l3 : Int64) (l5 : Int32), J_X8_power_5 f l0 l2 l3 l5 = some r → xV G l mM_X8_power K 5 [(0, .long l0), (2, .int l2), (3, .long l3), (5, .int l5)] [] (xM σ) := by
  intro f
  induction f with
  | zero => intro l0 l2 l3 l5 h; cases h
  | succ f ih =>
    intro l0 l2 l3 l5 h
    refine x_iload hC dX8_power_5 (j := 3) rfl <| x_iload_n hC dX8_power_7 rfl (j := 1) rfl <| ?_
    refine x_icmp_ge (tgt := 21) hC dX8_power_8 (by decide) (fun c1 => ?_) (fun c1 => ?_)
    · replace h := (if_pos c1).symm.trans h
      refine x_lload_n hC dX8_power_21 rfl (j := 2) rfl <| ?_
      have e1 := Option.some.inj h
      subst e1
      exact x_lret (rest := []) hC hE rfl dX8_power_22
    · replace h := (if_neg c1).symm.trans h
      refine x_lload_n hC dX8_power_11 rfl (j := 2) rfl <| x_lload_n hC dX8_power_12 rfl (j := 0) rfl <| x_lmul hC dX8_power_13 <| x_lstore_n hC dX8_power_14 rfl (by decide) rfl <| x_iinc hC dX8_power_15 (j := 3) (v := (l5 + (1 : Int32))) rfl rfl (by decide) rfl <| x_goto (tgt := 5) hC dX8_power_18 (by decide) <| ?_
      refine x_sub [2, 3, 1, 0] rfl ?_
      exact ih l0 l2 (l3 * l0) (l5 + (1 : Int32)) h
set_option maxRecDepth 100000 in
set_option maxHeartbeats 4000000 in
theorem C_X8_power {G : xG} {l : Launch} {a0 : Int64} {a1 : Int32} {σ : xS2} {r : Int64} (h : J_X8_power a0 a1 = some r) : xC G l mM_X8_power 0 [.long a0, .int a1] (xM σ) (some (.long r)) (xM σ) := by
  refine xC_of (by decide) rfl (Nat.le_refl _) (Nat.le_of_ble_eq_true rfl) (fun K hC hE hR _ => ?_)
  refine x_lconst (v := (1 : Int64)) hC dX8_power_0 (by decide) <| x_lstore_n hC dX8_power_1 rfl (by decide) rfl <| x_iconst (v := (0 : Int32)) hC dX8_power_2 (by decide) <| x_istore hC dX8_power_3 (by decide) rfl <| ?_
  refine x_sub [2, 3, 1, 0] rfl ?_
  exact B_X8_power_5 hC hR hE xFU a0 a1 (1 : Int64) (0 : Int32) h
set_option maxRecDepth 100000 in
set_option maxHeartbeats 4000000 in
theorem B_X8_clean_159 {G : xG} {l : Launch} {K : xK} {r : Int64} {σ : xS2} (hC : xCX G mM_X8_clean K) (hR : xRd K 1) (hE : xE G K (some (.long r)) (xM σ)) : ∀ (l10 : Int64) (s0 : Int64), J_X8_clean_159 l10 s0 σ = some r → xV G l mM_X8_clean K 159 [(10, .long l10)] [.long s0] (xM σ) := by
  intro l10 s0 h
  refine x_lload hC dX8_clean_159 (j := 0) rfl <| ?_
  obtain ⟨h14, h⟩ := xgd_some h
  refine x_ldiv hC dX8_clean_161 (xnz_neL h14) <| ?_
  have e1 := Option.some.inj h
  subst e1
  exact x_lret (rest := []) hC hE rfl dX8_clean_162
set_option maxRecDepth 100000 in
set_option maxHeartbeats 4000000 in
theorem B_X8_clean_128 {G : xG} {l : Launch} {K : xK} {r : Int64} {σ : xS2} (hC : xCX G mM_X8_clean K) (hR : xRd K 1) (hE : xE G K (some (.long r)) (xM σ)) : ∀ (l3 : Int32) (l6 : Int64) (l8 : Int64), J_X8_clean_128 l3 l6 l8 σ = some r → xV G l mM_X8_clean K 128 [(3, .int l3), (6, .long l6), (8, .long l8)] [] (xM σ) := by
  intro l3 l6 l8 h
  refine x_lload hC dX8_clean_128 (j := 1) rfl <| x_lload hC dX8_clean_130 (j := 2) rfl <| ?_
  obtain ⟨x11, h11, h⟩ := Option.bind_eq_some_iff.mp h
  refine x_callS hC hR dX8_clean_132 mK_X8_greatestCommon wml_X8_264 (C_X8_greatestCommon (a0 := l6) (a1 := l8) (σ := σ) h11) (by omega) rfl (Nat.le_of_ble_eq_true rfl) rfl rfl rfl <| ?_
  refine x_lstore hC dX8_clean_135 (by decide) rfl <| x_lload hC dX8_clean_137 (j := 0) rfl <| x_lconst (v := (0 : Int64)) hC dX8_clean_139 (by decide) <| x_lcmp hC dX8_clean_140 <| ?_
  refine x_if_ne (tgt := 148) hC dX8_clean_141 (by decide) (fun c12 => ?_) (fun c12 => ?_)
  · replace h := (if_neg c12).symm.trans h
    refine x_iload_n hC dX8_clean_148 rfl (j := 1) rfl <| ?_
    refine x_if_ne (tgt := 157) hC dX8_clean_149 (by decide) (fun c13 => ?_) (fun c13 => ?_)
    · replace h := (if_neg c13).symm.trans h
      refine x_lload hC dX8_clean_157 (j := 3) rfl <| ?_
      refine x_sub [0] rfl ?_
      exact B_X8_clean_159 hC hR hE x11 l8 h
    · replace h := (if_pos c13).symm.trans h
      refine x_lload hC dX8_clean_152 (j := 2) rfl <| x_goto (tgt := 159) hC dX8_clean_154 (by decide) <| ?_
      refine x_sub [0] rfl ?_
      exact B_X8_clean_159 hC hR hE x11 l6 h
  · replace h := (if_pos c12).symm.trans h
    refine x_ldc2 hC dX8_clean_144 wconstL_X8_253 <| ?_
    have e1 := Option.some.inj h
    subst e1
    exact x_lret (rest := []) hC hE rfl dX8_clean_147
set_option maxRecDepth 100000 in
set_option maxHeartbeats 4000000 in
theorem B_X8_clean_91 {G : xG} {l : Launch} {K : xK} {r : Int64} {σ : xS2} (hC : xCX G mM_X8_clean K) (hR : xRd K 1) (hE : xE G K (some (.long r)) (xM σ)) : ∀ (f : Nat) (l1 : Int32) (l3 : Int32) (l4 : Int64) (l6 : Int64) (l8 : Int64) (l10 : Int32), J_X8_clean_91 f l1 l3 l4 l6 l8 l10 σ = some r → xV G l mM_X8_clean K 91 [(1, .int l1), (3, .int l3), (4, .long l4), (6, .long l6), (8, .long l8), (10, .int l10)] [] (xM σ) := by
  intro f
  induction f with
  | zero => intro l1 l3 l4 l6 l8 l10 h; cases h
  | succ f ih =>
    intro l1 l3 l4 l6 l8 l10 h
    refine x_iload hC dX8_clean_91 (j := 5) rfl <| x_iload_n hC dX8_clean_93 rfl (j := 0) rfl <| ?_
    refine x_icmp_ge (tgt := 128) hC dX8_clean_94 (by decide) (fun c10 => ?_) (fun c10 => ?_)
    · replace h := (if_pos c10).symm.trans h
      refine x_sub [1, 3, 4] rfl ?_
      exact B_X8_clean_128 hC hR hE l3 l6 l8 h
    · replace h := (if_neg c10).symm.trans h
      refine x_lload hC dX8_clean_97 (j := 3) rfl <| x_lload hC dX8_clean_99 (j := 2) rfl <| x_iload hC dX8_clean_101 (j := 5) rfl <| ?_
      obtain ⟨x15, h15, h⟩ := Option.bind_eq_some_iff.mp h
      refine x_callS hC hR dX8_clean_103 mK_X8_power wml_X8_260 (C_X8_power (a0 := l4) (a1 := l10) (σ := σ) h15) (by omega) rfl (Nat.le_of_ble_eq_true rfl) rfl rfl rfl <| ?_
      refine x_ldc2 hC dX8_clean_106 wconstL_X8_258 <| x_iload_n hC dX8_clean_109 rfl (j := 0) rfl <| x_iconst (v := (1 : Int32)) hC dX8_clean_110 (by decide) <| x_isub hC dX8_clean_111 <| x_iload hC dX8_clean_112 (j := 5) rfl <| x_isub hC dX8_clean_114 <| ?_
      obtain ⟨x16, h16, h⟩ := Option.bind_eq_some_iff.mp h
      refine x_callS hC hR dX8_clean_115 mK_X8_power wml_X8_260 (C_X8_power (a0 := (12 : Int64)) (a1 := ((l1 - (1 : Int32)) - l10)) (σ := σ) h16) (by omega) rfl (Nat.le_of_ble_eq_true rfl) rfl rfl rfl <| ?_
      refine x_lmul hC dX8_clean_118 <| x_ladd hC dX8_clean_119 <| x_lstore hC dX8_clean_120 (by decide) rfl <| x_iinc hC dX8_clean_122 (j := 5) (v := (l10 + (1 : Int32))) rfl rfl (by decide) rfl <| x_goto (tgt := 91) hC dX8_clean_125 (by decide) <| ?_
      refine x_sub [2, 3, 4, 1, 5, 0] rfl ?_
      exact ih l1 l3 l4 (l6 + (x15 * x16)) l8 (l10 + (1 : Int32)) h
set_option maxRecDepth 100000 in
set_option maxHeartbeats 4000000 in
theorem C_X8_clean {G : xG} {l : Launch} {a1 : Int32} {a2 : Int32} {a3 : Int32} {σ : xS2} {r : Int64} (h : J_X8_clean a1 a2 a3 σ = some r) : xC G l mM_X8_clean 1 [.ref (xad G 0), .int a1, .int a2, .int a3] (xM σ) (some (.long r)) (xM σ) := by
  refine xC_of (by decide) rfl (Nat.le_refl _) (Nat.le_of_ble_eq_true rfl) (fun K hC hE hR _ => ?_)
  refine x_iload_n hC dX8_clean_0 rfl (j := 1) rfl <| ?_
  refine x_if_lt (tgt := 26) hC dX8_clean_1 (by decide) (fun c1 => ?_) (fun c1 => ?_)
  · replace h := (if_pos c1).symm.trans h
    refine x_ldc2 hC dX8_clean_26 wconstL_X8_253 <| ?_
    have e1 := Option.some.inj h
    subst e1
    exact x_lret (rest := []) hC hE rfl dX8_clean_29
  · replace h := (if_neg c1).symm.trans h
    refine x_iload_n hC dX8_clean_4 rfl (j := 1) rfl <| x_bipush (v := (8 : Int32)) hC dX8_clean_5 (by decide) <| ?_
    refine x_icmp_gt (tgt := 26) hC dX8_clean_7 (by decide) (fun c2 => ?_) (fun c2 => ?_)
    · replace h := (if_pos c2).symm.trans h
      refine x_ldc2 hC dX8_clean_26 wconstL_X8_253 <| ?_
      have e1 := Option.some.inj h
      subst e1
      exact x_lret (rest := []) hC hE rfl dX8_clean_29
    · replace h := (if_neg c2).symm.trans h
      refine x_iload_n hC dX8_clean_10 rfl (j := 2) rfl <| x_iconst (v := (2 : Int32)) hC dX8_clean_11 (by decide) <| x_callS hC hR dX8_clean_12 mK_X8_isOneOf wml_X8_188 (C_X8_isOneOf (a0 := a2) (a1 := (2 : Int32)) (σ := σ)) (by omega) rfl (Nat.le_of_ble_eq_true rfl) rfl rfl rfl <| ?_
      refine x_if_eq (tgt := 26) hC dX8_clean_15 (by decide) (fun c4 => ?_) (fun c4 => ?_)
      · replace h := (if_pos c4).symm.trans h
        refine x_ldc2 hC dX8_clean_26 wconstL_X8_253 <| ?_
        have e1 := Option.some.inj h
        subst e1
        exact x_lret (rest := []) hC hE rfl dX8_clean_29
      · replace h := (if_neg c4).symm.trans h
        refine x_iload_n hC dX8_clean_18 rfl (j := 3) rfl <| x_iconst (v := (2 : Int32)) hC dX8_clean_19 (by decide) <| x_callS hC hR dX8_clean_20 mK_X8_isOneOf wml_X8_188 (C_X8_isOneOf (a0 := a3) (a1 := (2 : Int32)) (σ := σ)) (by omega) rfl (Nat.le_of_ble_eq_true rfl) rfl rfl rfl <| ?_
        refine x_if_ne (tgt := 30) hC dX8_clean_23 (by decide) (fun c6 => ?_) (fun c6 => ?_)
        · replace h := (if_neg c6).symm.trans h
          refine x_bipush (v := (12 : Int32)) hC dX8_clean_30 (by decide) <| x_aload_n hC dX8_clean_32 rfl (j := 0) rfl <| s_getR (q := 1) hC dX8_clean_33 wfl_X8_10 rfl (by decide) (by decide) (by decide) (by decide) (by decide) <| x_callV hC hR dX8_clean_36 mK_X3_odds wml_X8_255 (C_X3_odds (σ := σ)) (by omega) rfl (by decide) rfl rfl (xlt (by decide)) rfl (Nat.le_of_ble_eq_true rfl) rfl rfl rfl <| x_isub hC dX8_clean_39 <| x_i2l (v := (((12 : Int32) - (J_X3_odds σ)).toInt64)) hC dX8_clean_40 rfl <| ?_
          refine x_lstore hC dX8_clean_41 (by decide) rfl <| x_iload_n hC dX8_clean_43 rfl (j := 3) rfl <| ?_
          refine x_if_ne (tgt := 70) hC dX8_clean_44 (by decide) (fun c8 => ?_) (fun c8 => ?_)
          · replace h := (if_neg c8).symm.trans h
            refine x_ldc2 hC dX8_clean_70 wconstL_X8_258 <| x_iconst (v := (0 : Int32)) hC dX8_clean_73 (by decide) <| x_iload_n hC dX8_clean_74 rfl (j := 2) rfl <| x_iconst (v := (1 : Int32)) hC dX8_clean_75 (by decide) <| x_isub hC dX8_clean_76 <| x_mmax hC hR (by omega) dX8_clean_77 wml_X8_243 (Nat.le_of_ble_eq_true rfl) <| ?_
            obtain ⟨x9, h9, h⟩ := Option.bind_eq_some_iff.mp h
            refine x_callS hC hR dX8_clean_80 mK_X8_power wml_X8_260 (C_X8_power (a0 := (12 : Int64)) (a1 := (xmax (0 : Int32) (a1 - (1 : Int32)))) (σ := σ) h9) (by omega) rfl (Nat.le_of_ble_eq_true rfl) rfl rfl rfl <| ?_
            refine x_lstore hC dX8_clean_83 (by decide) rfl <| x_lconst (v := (0 : Int64)) hC dX8_clean_85 (by decide) <| x_lstore hC dX8_clean_86 (by decide) rfl <| x_iconst (v := (0 : Int32)) hC dX8_clean_88 (by decide) <| x_istore hC dX8_clean_89 (by decide) rfl <| ?_
            refine x_sub [5, 7, 3, 1, 2, 0] rfl ?_
            exact B_X8_clean_91 hC hR hE xFU a1 a3 (((12 : Int32) - (J_X3_odds σ)).toInt64) (0 : Int64) x9 (0 : Int32) h
          · replace h := (if_pos c8).symm.trans h
            refine x_ldc2 hC dX8_clean_47 wconstL_X8_258 <| x_iload_n hC dX8_clean_50 rfl (j := 2) rfl <| ?_
            obtain ⟨x17, h17, h⟩ := Option.bind_eq_some_iff.mp h
            refine x_callS hC hR dX8_clean_51 mK_X8_power wml_X8_260 (C_X8_power (a0 := (12 : Int64)) (a1 := a1) (σ := σ) h17) (by omega) rfl (Nat.le_of_ble_eq_true rfl) rfl rfl rfl <| ?_
            refine x_lstore hC dX8_clean_54 (by decide) rfl <| x_lload hC dX8_clean_56 (j := 0) rfl <| x_lload hC dX8_clean_58 (j := 1) rfl <| x_iload_n hC dX8_clean_60 rfl (j := 3) rfl <| ?_
            obtain ⟨x18, h18, h⟩ := Option.bind_eq_some_iff.mp h
            refine x_callS hC hR dX8_clean_61 mK_X8_power wml_X8_260 (C_X8_power (a0 := (((12 : Int32) - (J_X3_odds σ)).toInt64)) (a1 := a1) (σ := σ) h18) (by omega) rfl (Nat.le_of_ble_eq_true rfl) rfl rfl rfl <| ?_
            refine x_lsub hC dX8_clean_64 <| x_lstore hC dX8_clean_65 (by decide) rfl <| x_goto (tgt := 128) hC dX8_clean_67 (by decide) <| ?_
            refine x_sub [6, 0, 1] rfl ?_
            exact B_X8_clean_128 hC hR hE a3 (x17 - x18) x17 h
        · replace h := (if_pos c6).symm.trans h
          refine x_ldc2 hC dX8_clean_26 wconstL_X8_253 <| ?_
          have e1 := Option.some.inj h
          subst e1
          exact x_lret (rest := []) hC hE rfl dX8_clean_29
set_option maxRecDepth 100000 in
set_option maxHeartbeats 4000000 in
theorem C_X8_cost {G : xG} {l : Launch} {a1 : Int32} {a2 : Int32} {σ : xS2} {r : Int32} (h : J_X8_cost a1 a2 σ = some r) : xC G l mM_X8_cost 2 [.ref (xad G 0), .int a1, .int a2] (xM σ) (some (.int r)) (xM σ) := by
  refine xC_of (by decide) rfl (Nat.le_refl _) (Nat.le_of_ble_eq_true rfl) (fun K hC hE hR _ => ?_)
  refine x_iload_n hC dX8_cost_0 rfl (j := 1) rfl <| x_callS hC hR dX8_cost_1 mK_X3_isCell wml_X8_109 (C_X3_isCell (a0 := a1) (σ := σ)) (by omega) rfl (Nat.le_of_ble_eq_true rfl) rfl rfl rfl <| ?_
  refine x_if_eq (tgt := 17) hC dX8_cost_4 (by decide) (fun c2 => ?_) (fun c2 => ?_)
  · replace h := (if_pos c2).symm.trans h
    refine x_iconst (v := (-1 : Int32)) hC dX8_cost_17 (by decide) <| ?_
    have e1 := Option.some.inj h
    subst e1
    exact x_iret (rest := []) hC hE rfl dX8_cost_18
  · replace h := (if_neg c2).symm.trans h
    refine x_iload_n hC dX8_cost_7 rfl (j := 2) rfl <| x_iconst (v := (1 : Int32)) hC dX8_cost_8 (by decide) <| ?_
    refine x_icmp_lt (tgt := 17) hC dX8_cost_9 (by decide) (fun c3 => ?_) (fun c3 => ?_)
    · replace h := (if_pos c3).symm.trans h
      refine x_iconst (v := (-1 : Int32)) hC dX8_cost_17 (by decide) <| ?_
      have e1 := Option.some.inj h
      subst e1
      exact x_iret (rest := []) hC hE rfl dX8_cost_18
    · replace h := (if_neg c3).symm.trans h
      refine x_iload_n hC dX8_cost_12 rfl (j := 2) rfl <| x_iconst (v := (4 : Int32)) hC dX8_cost_13 (by decide) <| ?_
      refine x_icmp_le (tgt := 19) hC dX8_cost_14 (by decide) (fun c4 => ?_) (fun c4 => ?_)
      · replace h := (if_pos c4).symm.trans h
        refine x_iload_n hC dX8_cost_19 rfl (j := 1) rfl <| x_iload_n hC dX8_cost_20 rfl (j := 2) rfl <| x_callS hC hR dX8_cost_21 mK_X3_neighbour wml_X8_172 (C_X3_neighbour (a0 := a1) (a1 := a2) (σ := σ)) (by omega) rfl (Nat.le_of_ble_eq_true rfl) rfl rfl rfl <| x_istore_n hC dX8_cost_24 rfl (by decide) rfl <| x_iload_n hC dX8_cost_25 rfl (j := 0) rfl <| ?_
        refine x_if_ge (tgt := 34) hC dX8_cost_26 (by decide) (fun c6 => ?_) (fun c6 => ?_)
        · replace h := (if_pos c6).symm.trans h
          refine x_aload_n hC dX8_cost_34 rfl (j := 1) rfl <| s_getR (q := 1) hC dX8_cost_35 wfl_X8_10 rfl (by decide) (by decide) (by decide) (by decide) (by decide) <| x_iload_n hC dX8_cost_38 rfl (j := 2) rfl <| x_iload_n hC dX8_cost_39 rfl (j := 0) rfl <| ?_
          obtain ⟨x7, h7, h⟩ := Option.bind_eq_some_iff.mp h
          refine x_callV hC hR dX8_cost_40 mK_X3_price wml_X8_175 (C_X3_price (a1 := a1) (a2 := (J_X3_neighbour a1 a2)) (σ := σ) h7) (by omega) rfl (by decide) rfl rfl (xlt (by decide)) rfl (Nat.le_of_ble_eq_true rfl) rfl rfl rfl <| ?_
          have e1 := Option.some.inj h
          subst e1
          exact x_iret (rest := []) hC hE rfl dX8_cost_43
        · replace h := (if_neg c6).symm.trans h
          refine x_bipush (v := (-2 : Int32)) hC dX8_cost_29 (by decide) <| x_goto (tgt := 43) hC dX8_cost_31 (by decide) <| ?_
          have e1 := Option.some.inj h
          subst e1
          exact x_iret (rest := []) hC hE rfl dX8_cost_43
      · replace h := (if_neg c4).symm.trans h
        refine x_iconst (v := (-1 : Int32)) hC dX8_cost_17 (by decide) <| ?_
        have e1 := Option.some.inj h
        subst e1
        exact x_iret (rest := []) hC hE rfl dX8_cost_18
set_option maxRecDepth 100000 in
set_option maxHeartbeats 4000000 in
theorem C_X8_count {G : xG} {l : Launch} {a1 : Int32} {σ : xS2} {r : Int32} (h : J_X8_count a1 σ = some r) : xC G l mM_X8_count 3 [.ref (xad G 0), .int a1] (xM σ) (some (.int r)) (xM σ) := by
  refine xC_of (by decide) rfl (Nat.le_refl _) (Nat.le_of_ble_eq_true rfl) (fun K hC hE hR _ => ?_)
  refine x_iload_n hC dX8_count_0 rfl (j := 1) rfl <| ?_
  by_cases c1 : a1 = (0 : Int32)
  · replace h := (if_pos c1).symm.trans h
    refine x_tsw (tgt := 40) hC dX8_count_1 (by decide) (by rw [c1]; decide) ?_
    refine x_aload_n hC dX8_count_40 rfl (j := 0) rfl <| s_getR (q := 1) hC dX8_count_41 wfl_X8_10 rfl (by decide) (by decide) (by decide) (by decide) (by decide) <| ?_
    obtain ⟨x2, h2, h⟩ := Option.bind_eq_some_iff.mp h
    refine x_callV hC hR dX8_count_44 mK_X3_stones wml_X8_346 (C_X3_stones (σ := σ) h2) (by omega) rfl (by decide) rfl rfl (xlt (by decide)) rfl (Nat.le_of_ble_eq_true rfl) rfl rfl rfl <| ?_
    have e1 := Option.some.inj h
    subst e1
    exact x_iret (rest := []) hC hE rfl dX8_count_47
  · replace h := (if_neg c1).symm.trans h
    by_cases c3 : a1 = (1 : Int32)
    · replace h := (if_pos c3).symm.trans h
      refine x_tsw (tgt := 48) hC dX8_count_1 (by decide) (by rw [c3]; decide) ?_
      refine x_aload_n hC dX8_count_48 rfl (j := 0) rfl <| s_getR (q := 1) hC dX8_count_49 wfl_X8_10 rfl (by decide) (by decide) (by decide) (by decide) (by decide) <| ?_
      obtain ⟨x4, h4, h⟩ := Option.bind_eq_some_iff.mp h
      refine x_callV hC hR dX8_count_52 mK_X3_hollows wml_X8_349 (C_X3_hollows (σ := σ) h4) (by omega) rfl (by decide) rfl rfl (xlt (by decide)) rfl (Nat.le_of_ble_eq_true rfl) rfl rfl rfl <| ?_
      have e1 := Option.some.inj h
      subst e1
      exact x_iret (rest := []) hC hE rfl dX8_count_55
    · replace h := (if_neg c3).symm.trans h
      by_cases c5 : a1 = (2 : Int32)
      · replace h := (if_pos c5).symm.trans h
        refine x_tsw (tgt := 56) hC dX8_count_1 (by decide) (by rw [c5]; decide) ?_
        refine x_aload_n hC dX8_count_56 rfl (j := 0) rfl <| s_getR (q := 8) hC dX8_count_57 wfl_X8_40 rfl (by decide) (by decide) (by decide) (by decide) (by decide) <| s_getI hC dX8_count_60 wfl_X8_165 rfl (by decide) (by decide) (by decide) (by decide) <| ?_
        have e1 := Option.some.inj h
        subst e1
        exact x_iret (rest := []) hC hE rfl dX8_count_63
      · replace h := (if_neg c5).symm.trans h
        by_cases c6 : a1 = (3 : Int32)
        · replace h := (if_pos c6).symm.trans h
          refine x_tsw (tgt := 64) hC dX8_count_1 (by decide) (by rw [c6]; decide) ?_
          refine x_aload_n hC dX8_count_64 rfl (j := 0) rfl <| s_getR (q := 23) hC dX8_count_65 wfl_X8_61 rfl (by decide) (by decide) (by decide) (by decide) (by decide) <| s_getI hC dX8_count_68 wfl_X8_276 rfl (by decide) (by decide) (by decide) (by decide) <| ?_
          have e1 := Option.some.inj h
          subst e1
          exact x_iret (rest := []) hC hE rfl dX8_count_71
        · replace h := (if_neg c6).symm.trans h
          by_cases c7 : a1 = (4 : Int32)
          · replace h := (if_pos c7).symm.trans h
            refine x_tsw (tgt := 72) hC dX8_count_1 (by decide) (by rw [c7]; decide) ?_
            refine x_aload_n hC dX8_count_72 rfl (j := 0) rfl <| s_getR (q := 40) hC dX8_count_73 wfl_X8_75 rfl (by decide) (by decide) (by decide) (by decide) (by decide) <| s_getI hC dX8_count_76 wfl_X8_352 rfl (by decide) (by decide) (by decide) (by decide) <| ?_
            have e1 := Option.some.inj h
            subst e1
            exact x_iret (rest := []) hC hE rfl dX8_count_79
          · replace h := (if_neg c7).symm.trans h
            by_cases c8 : a1 = (5 : Int32)
            · replace h := (if_pos c8).symm.trans h
              refine x_tsw (tgt := 80) hC dX8_count_1 (by decide) (by rw [c8]; decide) ?_
              refine x_aload_n hC dX8_count_80 rfl (j := 0) rfl <| s_getR (q := 40) hC dX8_count_81 wfl_X8_75 rfl (by decide) (by decide) (by decide) (by decide) (by decide) <| s_getI hC dX8_count_84 wfl_X8_354 rfl (by decide) (by decide) (by decide) (by decide) <| ?_
              have e1 := Option.some.inj h
              subst e1
              exact x_iret (rest := []) hC hE rfl dX8_count_87
            · replace h := (if_neg c8).symm.trans h
              refine x_tsw (tgt := 88) hC dX8_count_1 (by decide) ((xTs_else [0, 1, 2, 3, 4, 5] (by decide) (by decide +kernel) (List.forall_mem_cons.mpr ⟨lv_neT c1 (by decide), (List.forall_mem_cons.mpr ⟨lv_neT c3 (by decide), (List.forall_mem_cons.mpr ⟨lv_neT c5 (by decide), (List.forall_mem_cons.mpr ⟨lv_neT c6 (by decide), (List.forall_mem_cons.mpr ⟨lv_neT c7 (by decide), (List.forall_mem_cons.mpr ⟨lv_neT c8 (by decide), (fun _ z => absurd z List.not_mem_nil)⟩)⟩)⟩)⟩)⟩)⟩)).trans (by decide)) ?_
              refine x_iconst (v := (-1 : Int32)) hC dX8_count_88 (by decide) <| ?_
              have e1 := Option.some.inj h
              subst e1
              exact x_iret (rest := []) hC hE rfl dX8_count_89
set_option maxRecDepth 100000 in
set_option maxHeartbeats 4000000 in
theorem C_X8_live {G : xG} {l : Launch} {a1 : Int32} {σ : xS2} {r : Bool} {τ : xS2} (h : J_X8_live a1 σ = some (r, τ)) : xC G l mM_X8_live 5 [.ref (xad G 0), .int a1] (xM σ) (some (.int (xb r))) (xM τ) := by
  refine xC_of (by decide) rfl (Nat.le_refl _) (Nat.le_of_ble_eq_true rfl) (fun K hC hE hR _ => ?_)
  refine x_aload_n hC dX8_live_0 rfl (j := 0) rfl <| s_getI hC dX8_live_1 wfl_X8_119 rfl (by decide) (by decide) (by decide) (by decide) <| x_bipush (v := (60 : Int32)) hC dX8_live_4 (by decide) <| ?_
  refine x_icmp_lt (tgt := 11) hC dX8_live_6 (by decide) (fun c1 => ?_) (fun c1 => ?_)
  · replace h := (if_pos c1).symm.trans h
    refine x_aload_n hC dX8_live_11 rfl (j := 0) rfl <| s_getR (q := 3) hC dX8_live_12 wfl_X8_19 rfl (by decide) (by decide) (by decide) (by decide) (by decide) <| x_aload_n hC dX8_live_15 rfl (j := 0) rfl <| s_getR (q := 1) hC dX8_live_16 wfl_X8_10 rfl (by decide) (by decide) (by decide) (by decide) (by decide) <| x_aload_n hC dX8_live_19 rfl (j := 0) rfl <| s_getI hC dX8_live_20 wfl_X8_119 rfl (by decide) (by decide) (by decide) (by decide) <| ?_
    refine x_iload_n hC dX8_live_23 rfl (j := 1) rfl <| ?_
    obtain ⟨x2, h2, h⟩ := Option.bind_eq_some_iff.mp h
    refine x_callV hC hR dX8_live_24 mK_X0_live wml_X8_185 (C_X0_live (a0 := 3) (a2 := (σ.1 0 12)) (a3 := a1) (σ := σ) rfl h2) (by omega) rfl (by decide) rfl rfl (xlt (by decide)) rfl (Nat.le_of_ble_eq_true rfl) rfl rfl rfl <| ?_
    refine x_istore_n hC dX8_live_27 rfl (by decide) rfl <| x_aload_n hC dX8_live_28 rfl (j := 1) rfl <| s_getR (q := 6) hC dX8_live_29 wfl_X8_29 rfl (by decide) (by decide) (by decide) (by decide) (by decide) <| x_aload_n hC dX8_live_32 rfl (j := 1) rfl <| s_getI hC dX8_live_33 wfl_X8_119 rfl (by decide) (by decide) (by decide) (by decide) <| x_iload_n hC dX8_live_36 rfl (j := 2) rfl <| ?_
    obtain ⟨h3, h⟩ := xgd_some h
    refine s_iast hC dX8_live_37 rfl (by decide) h3 <| ?_
    refine x_aload_n hC dX8_live_38 rfl (j := 1) rfl <| s_getR (q := 7) hC dX8_live_39 wfl_X8_33 rfl (by decide) (by decide) (by decide) (by decide) (by decide) <| x_aload_n hC dX8_live_42 rfl (j := 1) rfl <| s_getI hC dX8_live_43 wfl_X8_119 rfl (by decide) (by decide) (by decide) (by decide) <| x_iload_n hC dX8_live_46 rfl (j := 0) rfl <| ?_
    obtain ⟨h4, h⟩ := xgd_some h
    refine s_zast hC dX8_live_47 rfl (by decide) h4 <| ?_
    refine x_aload_n hC dX8_live_48 rfl (j := 1) rfl <| x_dup hC dX8_live_49 rfl <| s_getI hC dX8_live_50 wfl_X8_119 rfl (by decide) (by decide) (by decide) (by decide) <| x_iconst (v := (1 : Int32)) hC dX8_live_53 (by decide) <| x_iadd hC dX8_live_54 <| s_putI hC dX8_live_55 wfl_X8_119 rfl (by decide) (by decide) (by decide) (by decide) (by decide) <| ?_
    refine x_iload_n hC dX8_live_58 rfl (j := 0) rfl <| ?_
    obtain ⟨e1, e2⟩ := xso2 h
    subst e1
    subst e2
    exact x_zret (rest := []) hC hE rfl (rfl) dX8_live_59
  · replace h := (if_neg c1).symm.trans h
    refine x_iconst (v := (0 : Int32)) hC dX8_live_9 (by decide) <| ?_
    obtain ⟨e1, e2⟩ := xso2 h
    subst e1
    subst e2
    exact x_zret (rest := []) hC hE rfl (by decide) dX8_live_10
set_option maxRecDepth 100000 in
set_option maxHeartbeats 4000000 in
theorem C_X8_day {G : xG} {l : Launch} {a1 : Int32} {σ : xS2} {r : Int32} {τ : xS2} (h : J_X8_day a1 σ = some (r, τ)) : xC G l mM_X8_day 6 [.ref (xad G 0), .int a1] (xM σ) (some (.int r)) (xM τ) := by
  refine xC_of (by decide) rfl (Nat.le_refl _) (Nat.le_of_ble_eq_true rfl) (fun K hC hE hR _ => ?_)
  refine x_iload_n hC dX8_day_0 rfl (j := 1) rfl <| ?_
  refine x_if_lt (tgt := 9) hC dX8_day_1 (by decide) (fun c1 => ?_) (fun c1 => ?_)
  · replace h := (if_pos c1).symm.trans h
    refine x_iconst (v := (-1 : Int32)) hC dX8_day_9 (by decide) <| ?_
    obtain ⟨e1, e2⟩ := xso2 h
    subst e1
    subst e2
    exact x_iret (rest := []) hC hE rfl dX8_day_10
  · replace h := (if_neg c1).symm.trans h
    refine x_iload_n hC dX8_day_4 rfl (j := 1) rfl <| x_iconst (v := (5 : Int32)) hC dX8_day_5 (by decide) <| ?_
    refine x_icmp_le (tgt := 11) hC dX8_day_6 (by decide) (fun c2 => ?_) (fun c2 => ?_)
    · replace h := (if_pos c2).symm.trans h
      refine x_aload_n hC dX8_day_11 rfl (j := 0) rfl <| s_getI hC dX8_day_12 wfl_X8_119 rfl (by decide) (by decide) (by decide) (by decide) <| x_bipush (v := (60 : Int32)) hC dX8_day_15 (by decide) <| ?_
      refine x_icmp_lt (tgt := 23) hC dX8_day_17 (by decide) (fun c3 => ?_) (fun c3 => ?_)
      · replace h := (if_pos c3).symm.trans h
        refine x_aload_n hC dX8_day_23 rfl (j := 0) rfl <| x_iload_n hC dX8_day_24 rfl (j := 1) rfl <| ?_
        obtain ⟨x4, h4, h⟩ := Option.bind_eq_some_iff.mp h
        refine x_callV hC hR dX8_day_25 mK_X8_live wml_X8_182 (C_X8_live (a1 := a1) (σ := σ) h4) (by omega) rfl (by decide) rfl rfl (xlt (by decide)) rfl (Nat.le_of_ble_eq_true rfl) rfl rfl rfl <| ?_
        refine x_if_eq (tgt := 35) hC dX8_day_28 (by decide) (fun c5 => ?_) (fun c5 => ?_)
        · replace h := (if_pos c5).symm.trans h
          refine x_iconst (v := (0 : Int32)) hC dX8_day_35 (by decide) <| ?_
          obtain ⟨e1, e2⟩ := xso2 h
          subst e1
          subst e2
          exact x_iret (rest := []) hC hE rfl dX8_day_36
        · replace h := (if_neg c5).symm.trans h
          refine x_iconst (v := (1 : Int32)) hC dX8_day_31 (by decide) <| x_goto (tgt := 36) hC dX8_day_32 (by decide) <| ?_
          obtain ⟨e1, e2⟩ := xso2 h
          subst e1
          subst e2
          exact x_iret (rest := []) hC hE rfl dX8_day_36
      · replace h := (if_neg c3).symm.trans h
        refine x_bipush (v := (-5 : Int32)) hC dX8_day_20 (by decide) <| ?_
        obtain ⟨e1, e2⟩ := xso2 h
        subst e1
        subst e2
        exact x_iret (rest := []) hC hE rfl dX8_day_22
    · replace h := (if_neg c2).symm.trans h
      refine x_iconst (v := (-1 : Int32)) hC dX8_day_9 (by decide) <| ?_
      obtain ⟨e1, e2⟩ := xso2 h
      subst e1
      subst e2
      exact x_iret (rest := []) hC hE rfl dX8_day_10
set_option maxRecDepth 100000 in
set_option maxHeartbeats 4000000 in
theorem B_X8_days_65 {G : xG} {l : Launch} {K : xK} {r : Int32} {τ : xS2} (hC : xCX G mM_X8_days K) (hR : xRd K 6) (hE : xE G K (some (.int r)) (xM τ)) {k31 : Int32 → Int32 → Int32 → xS2 → Option (Int32 × xS2)} (hk31 : ∀ (l1 : Int32) (l2 : Int32) (l3 : Int32) (σ : xS2), k31 l1 l2 l3 σ = some (r, τ) → xV G l mM_X8_days K 31 [(0, .ref (xad G 0)), (1, .int l1), (2, .int l2), (3, .int l3)] [] (xM σ)) : ∀ (l1 : Int32) (l2 : Int32) (l3 : Int32) (σ : xS2), J_X8_days_65 k31 l1 l2 l3 σ = some (r, τ) → xV G l mM_X8_days K 65 [(0, .ref (xad G 0)), (1, .int l1), (2, .int l2), (3, .int l3)] [] (xM σ) := by
  intro l1 l2 l3 σ h
  refine x_iinc hC dX8_days_65 (j := 3) (v := (l3 + (1 : Int32))) rfl rfl (by decide) rfl <| x_goto (tgt := 31) hC dX8_days_68 (by decide) <| ?_
  refine x_sub [1, 2, 3, 0] rfl ?_
  exact hk31 l1 l2 (l3 + (1 : Int32)) σ h
set_option maxRecDepth 100000 in
set_option maxHeartbeats 4000000 in
theorem B_X8_days_31 {G : xG} {l : Launch} {K : xK} {r : Int32} {τ : xS2} (hC : xCX G mM_X8_days K) (hR : xRd K 6) (hE : xE G K (some (.int r)) (xM τ)) : ∀ (f : Nat) (l1 : Int32) (l2 : Int32) (l3 : Int32) (σ : xS2), J_X8_days_31 f l1 l2 l3 σ = some (r, τ) → xV G l mM_X8_days K 31 [(0, .ref (xad G 0)), (1, .int l1), (2, .int l2), (3, .int l3)] [] (xM σ) := by
  intro f
  induction f with
  | zero => intro l1 l2 l3 σ h; cases h
  | succ f ih =>
    intro l1 l2 l3 σ h
    refine x_iload_n hC dX8_days_31 rfl (j := 3) rfl <| x_iload_n hC dX8_days_32 rfl (j := 1) rfl <| ?_
    refine x_icmp_ge (tgt := 71) hC dX8_days_33 (by decide) (fun c4 => ?_) (fun c4 => ?_)
    · replace h := (if_pos c4).symm.trans h
      refine x_iload_n hC dX8_days_71 rfl (j := 2) rfl <| ?_
      obtain ⟨e1, e2⟩ := xso2 h
      subst e1
      subst e2
      exact x_iret (rest := []) hC hE rfl dX8_days_72
    · replace h := (if_neg c4).symm.trans h
      refine x_aload_n hC dX8_days_36 rfl (j := 0) rfl <| x_aload_n hC dX8_days_37 rfl (j := 0) rfl <| s_getR (q := 8) hC dX8_days_38 wfl_X8_40 rfl (by decide) (by decide) (by decide) (by decide) (by decide) <| x_aload_n hC dX8_days_41 rfl (j := 0) rfl <| s_getR (q := 1) hC dX8_days_42 wfl_X8_10 rfl (by decide) (by decide) (by decide) (by decide) (by decide) <| x_aload_n hC dX8_days_45 rfl (j := 0) rfl <| ?_
      refine s_getR (q := 3) hC dX8_days_46 wfl_X8_19 rfl (by decide) (by decide) (by decide) (by decide) (by decide) <| x_aload_n hC dX8_days_49 rfl (j := 0) rfl <| s_getI hC dX8_days_50 wfl_X8_119 rfl (by decide) (by decide) (by decide) (by decide) <| ?_
      obtain ⟨x5, h5, h⟩ := Option.bind_eq_some_iff.mp h
      refine x_callV hC hR dX8_days_53 mK_X2_orderFor wml_X8_178 (C_X2_orderFor (a2 := 3) (a3 := (σ.1 0 12)) (σ := σ) rfl h5) (by omega) rfl (by decide) rfl rfl (xlt (by decide)) rfl (Nat.le_of_ble_eq_true rfl) rfl rfl rfl <| ?_
      obtain ⟨x6, h6, h⟩ := Option.bind_eq_some_iff.mp h
      refine x_callV hC hR dX8_days_56 mK_X8_live wml_X8_182 (C_X8_live (a1 := x5.1) (σ := x5.2) h6) (by omega) rfl (by decide) rfl rfl (xlt (by decide)) rfl (Nat.le_of_ble_eq_true rfl) rfl rfl rfl <| ?_
      refine x_if_eq (tgt := 65) hC dX8_days_59 (by decide) (fun c7 => ?_) (fun c7 => ?_)
      · replace h := (if_pos c7).symm.trans h
        refine x_sub [0, 1, 2, 3] rfl ?_
        exact B_X8_days_65 hC hR hE ih l1 l2 l3 x6.2 h
      · replace h := (if_neg c7).symm.trans h
        refine x_iinc hC dX8_days_62 (j := 2) (v := (l2 + (1 : Int32))) rfl rfl (by decide) rfl <| ?_
        refine x_sub [1, 2, 0, 3] rfl ?_
        exact B_X8_days_65 hC hR hE ih l1 (l2 + (1 : Int32)) l3 x6.2 h
set_option maxRecDepth 100000 in
set_option maxHeartbeats 4000000 in
theorem C_X8_days {G : xG} {l : Launch} {a1 : Int32} {σ : xS2} {r : Int32} {τ : xS2} (h : J_X8_days a1 σ = some (r, τ)) : xC G l mM_X8_days 6 [.ref (xad G 0), .int a1] (xM σ) (some (.int r)) (xM τ) := by
  refine xC_of (by decide) rfl (Nat.le_refl _) (Nat.le_of_ble_eq_true rfl) (fun K hC hE hR _ => ?_)
  refine x_iload_n hC dX8_days_0 rfl (j := 1) rfl <| x_iconst (v := (1 : Int32)) hC dX8_days_1 (by decide) <| ?_
  refine x_icmp_lt (tgt := 11) hC dX8_days_2 (by decide) (fun c1 => ?_) (fun c1 => ?_)
  · replace h := (if_pos c1).symm.trans h
    refine x_iconst (v := (-1 : Int32)) hC dX8_days_11 (by decide) <| ?_
    obtain ⟨e1, e2⟩ := xso2 h
    subst e1
    subst e2
    exact x_iret (rest := []) hC hE rfl dX8_days_12
  · replace h := (if_neg c1).symm.trans h
    refine x_iload_n hC dX8_days_5 rfl (j := 1) rfl <| x_bipush (v := (60 : Int32)) hC dX8_days_6 (by decide) <| ?_
    refine x_icmp_le (tgt := 13) hC dX8_days_8 (by decide) (fun c2 => ?_) (fun c2 => ?_)
    · replace h := (if_pos c2).symm.trans h
      refine x_iload_n hC dX8_days_13 rfl (j := 1) rfl <| x_bipush (v := (60 : Int32)) hC dX8_days_14 (by decide) <| x_aload_n hC dX8_days_16 rfl (j := 0) rfl <| s_getI hC dX8_days_17 wfl_X8_119 rfl (by decide) (by decide) (by decide) (by decide) <| x_isub hC dX8_days_20 <| ?_
      refine x_icmp_le (tgt := 27) hC dX8_days_21 (by decide) (fun c3 => ?_) (fun c3 => ?_)
      · replace h := (if_pos c3).symm.trans h
        refine x_iconst (v := (0 : Int32)) hC dX8_days_27 (by decide) <| x_istore_n hC dX8_days_28 rfl (by decide) rfl <| x_iconst (v := (0 : Int32)) hC dX8_days_29 (by decide) <| x_istore_n hC dX8_days_30 rfl (by decide) rfl <| ?_
        refine x_sub [2, 3, 1, 0] rfl ?_
        exact B_X8_days_31 hC hR hE xFU a1 (0 : Int32) (0 : Int32) σ h
      · replace h := (if_neg c3).symm.trans h
        refine x_bipush (v := (-5 : Int32)) hC dX8_days_24 (by decide) <| ?_
        obtain ⟨e1, e2⟩ := xso2 h
        subst e1
        subst e2
        exact x_iret (rest := []) hC hE rfl dX8_days_26
    · replace h := (if_neg c2).symm.trans h
      refine x_iconst (v := (-1 : Int32)) hC dX8_days_11 (by decide) <| ?_
      obtain ⟨e1, e2⟩ := xso2 h
      subst e1
      subst e2
      exact x_iret (rest := []) hC hE rfl dX8_days_12
set_option maxRecDepth 100000 in
set_option maxHeartbeats 4000000 in
theorem B_X8_drawn_157 {G : xG} {l : Launch} {K : xK} {r : Int32} {τ : xS2} (hC : xCX G mM_X8_drawn K) (hR : xRd K 4) (hE : xE G K (some (.int r)) (xM τ)) {k33 : Int32 → Int32 → Int32 → Int32 → Int32 → Int32 → xS2 → Option (Int32 × xS2)} (hk33 : ∀ (l2 : Int32) (l3 : Int32) (l4 : Int32) (l5 : Int32) (l6 : Int32) (l7 : Int32) (σ : xS2), k33 l2 l3 l4 l5 l6 l7 σ = some (r, τ) → xV G l mM_X8_drawn K 33 [(0, .ref (xad G 0)), (2, .int l2), (3, .int l3), (4, .int l4), (5, .int l5), (6, .int l6), (7, .int l7)] [] (xM σ)) : ∀ (l2 : Int32) (l3 : Int32) (l4 : Int32) (l5 : Int32) (l6 : Int32) (l7 : Int32) (σ : xS2), J_X8_drawn_157 k33 l2 l3 l4 l5 l6 l7 σ = some (r, τ) → xV G l mM_X8_drawn K 157 [(0, .ref (xad G 0)), (2, .int l2), (3, .int l3), (4, .int l4), (5, .int l5), (6, .int l6), (7, .int l7)] [] (xM σ) := by
  intro l2 l3 l4 l5 l6 l7 σ h
  refine x_iload hC dX8_drawn_157 (j := 5) rfl <| x_aload_n hC dX8_drawn_159 rfl (j := 0) rfl <| s_getR (q := 4) hC dX8_drawn_160 wfl_X8_23 rfl (by decide) (by decide) (by decide) (by decide) (by decide) <| s_getI hC dX8_drawn_163 wfl_X8_125 rfl (by decide) (by decide) (by decide) (by decide) <| x_iadd hC dX8_drawn_166 <| x_istore hC dX8_drawn_167 (by decide) rfl <| ?_
  refine x_iinc hC dX8_drawn_169 (j := 6) (v := (l7 + (1 : Int32))) rfl rfl (by decide) rfl <| x_goto (tgt := 33) hC dX8_drawn_172 (by decide) <| ?_
  refine x_sub [2, 3, 4, 5, 6, 1, 0] rfl ?_
  exact hk33 l2 l3 l4 l5 (l6 + (σ.1 4 1)) (l7 + (1 : Int32)) σ h
set_option maxRecDepth 100000 in
set_option maxHeartbeats 4000000 in
theorem B_X8_drawn_143 {G : xG} {l : Launch} {K : xK} {r : Int32} {τ : xS2} (hC : xCX G mM_X8_drawn K) (hR : xRd K 4) (hE : xE G K (some (.int r)) (xM τ)) {k33 : Int32 → Int32 → Int32 → Int32 → Int32 → Int32 → xS2 → Option (Int32 × xS2)} (hk33 : ∀ (l2 : Int32) (l3 : Int32) (l4 : Int32) (l5 : Int32) (l6 : Int32) (l7 : Int32) (σ : xS2), k33 l2 l3 l4 l5 l6 l7 σ = some (r, τ) → xV G l mM_X8_drawn K 33 [(0, .ref (xad G 0)), (2, .int l2), (3, .int l3), (4, .int l4), (5, .int l5), (6, .int l6), (7, .int l7)] [] (xM σ)) {k59 : Int32 → Int32 → Int32 → Int32 → Int32 → Int32 → Bool → Int32 → xS2 → Option (Int32 × xS2)} (hk59 : ∀ (l2 : Int32) (l3 : Int32) (l4 : Int32) (l5 : Int32) (l6 : Int32) (l7 : Int32) (l8 : Bool) (l9 : Int32) (σ : xS2), k59 l2 l3 l4 l5 l6 l7 l8 l9 σ = some (r, τ) → xV G l mM_X8_drawn K 59 [(0, .ref (xad G 0)), (2, .int l2), (3, .int l3), (4, .int l4), (5, .int l5), (6, .int l6), (7, .int l7), (8, .int (xb l8)), (9, .int l9)] [] (xM σ)) : ∀ (l2 : Int32) (l3 : Int32) (l4 : Int32) (l5 : Int32) (l6 : Int32) (l7 : Int32) (l8 : Bool) (l9 : Int32) (σ : xS2), J_X8_drawn_143 k33 k59 l2 l3 l4 l5 l6 l7 l8 l9 σ = some (r, τ) → xV G l mM_X8_drawn K 143 [(0, .ref (xad G 0)), (2, .int l2), (3, .int l3), (4, .int l4), (5, .int l5), (6, .int l6), (7, .int l7), (8, .int (xb l8)), (9, .int l9)] [] (xM σ) := by
  intro l2 l3 l4 l5 l6 l7 l8 l9 σ h
  refine x_iinc hC dX8_drawn_143 (j := 8) (v := (l9 + (1 : Int32))) rfl rfl (by decide) rfl <| x_goto (tgt := 59) hC dX8_drawn_146 (by decide) <| ?_
  refine x_sub [1, 2, 3, 4, 5, 6, 7, 8, 0] rfl ?_
  exact hk59 l2 l3 l4 l5 l6 l7 l8 (l9 + (1 : Int32)) σ h
set_option maxRecDepth 100000 in
set_option maxHeartbeats 4000000 in
theorem B_X8_drawn_102 {G : xG} {l : Launch} {K : xK} {r : Int32} {τ : xS2} (hC : xCX G mM_X8_drawn K) (hR : xRd K 4) (hE : xE G K (some (.int r)) (xM τ)) {k33 : Int32 → Int32 → Int32 → Int32 → Int32 → Int32 → xS2 → Option (Int32 × xS2)} (hk33 : ∀ (l2 : Int32) (l3 : Int32) (l4 : Int32) (l5 : Int32) (l6 : Int32) (l7 : Int32) (σ : xS2), k33 l2 l3 l4 l5 l6 l7 σ = some (r, τ) → xV G l mM_X8_drawn K 33 [(0, .ref (xad G 0)), (2, .int l2), (3, .int l3), (4, .int l4), (5, .int l5), (6, .int l6), (7, .int l7)] [] (xM σ)) {k59 : Int32 → Int32 → Int32 → Int32 → Int32 → Int32 → Bool → Int32 → xS2 → Option (Int32 × xS2)} (hk59 : ∀ (l2 : Int32) (l3 : Int32) (l4 : Int32) (l5 : Int32) (l6 : Int32) (l7 : Int32) (l8 : Bool) (l9 : Int32) (σ : xS2), k59 l2 l3 l4 l5 l6 l7 l8 l9 σ = some (r, τ) → xV G l mM_X8_drawn K 59 [(0, .ref (xad G 0)), (2, .int l2), (3, .int l3), (4, .int l4), (5, .int l5), (6, .int l6), (7, .int l7), (8, .int (xb l8)), (9, .int l9)] [] (xM σ)) : ∀ (l2 : Int32) (l3 : Int32) (l4 : Int32) (l5 : Int32) (l6 : Int32) (l7 : Int32) (l8 : Bool) (l9 : Int32) (s0 : Int32) (σ : xS2), J_X8_drawn_102 k33 k59 l2 l3 l4 l5 l6 l7 l8 l9 s0 σ = some (r, τ) → xV G l mM_X8_drawn K 102 [(0, .ref (xad G 0)), (2, .int l2), (3, .int l3), (4, .int l4), (5, .int l5), (6, .int l6), (7, .int l7), (8, .int (xb l8)), (9, .int l9)] [.int s0] (xM σ) := by
  intro l2 l3 l4 l5 l6 l7 l8 l9 s0 σ h
  refine x_istore hC dX8_drawn_102 (by decide) rfl <| x_aload_n hC dX8_drawn_104 rfl (j := 1) rfl <| s_getR (q := 4) hC dX8_drawn_105 wfl_X8_23 rfl (by decide) (by decide) (by decide) (by decide) (by decide) <| x_aload_n hC dX8_drawn_108 rfl (j := 1) rfl <| s_getR (q := 1) hC dX8_drawn_109 wfl_X8_10 rfl (by decide) (by decide) (by decide) (by decide) (by decide) <| x_iload hC dX8_drawn_112 (j := 9) rfl <| ?_
  refine x_iconst (v := (0 : Int32)) hC dX8_drawn_114 (by decide) <| x_aload_n hC dX8_drawn_115 rfl (j := 1) rfl <| s_getR (q := 1) hC dX8_drawn_116 wfl_X8_10 rfl (by decide) (by decide) (by decide) (by decide) (by decide) <| x_iload hC dX8_drawn_119 (j := 9) rfl <| ?_
  obtain ⟨x12, h12, h⟩ := Option.bind_eq_some_iff.mp h
  refine x_callV hC hR dX8_drawn_121 mK_X3_sun wml_X8_240 (C_X3_sun (a1 := l9) (σ := σ) h12) (by omega) rfl (by decide) rfl rfl (xlt (by decide)) rfl (Nat.le_of_ble_eq_true rfl) rfl rfl rfl <| ?_
  refine x_iload hC dX8_drawn_124 (j := 0) rfl <| ?_
  obtain ⟨x13, h13, h⟩ := Option.bind_eq_some_iff.mp h
  refine x_callV hC hR dX8_drawn_126 mK_X0_liveUnder wml_X8_249 (C_X0_liveUnder (a0 := 4) (a2 := l9) (a3 := (0 : Int32)) (a4 := x12) (a5 := s0) (σ := σ) rfl h13) (by omega) rfl (by decide) rfl rfl (xlt (by decide)) rfl (Nat.le_of_ble_eq_true rfl) rfl rfl rfl <| ?_
  refine x_pop hC dX8_drawn_129 rfl <| x_aload_n hC dX8_drawn_130 rfl (j := 1) rfl <| s_getR (q := 4) hC dX8_drawn_131 wfl_X8_23 rfl (by decide) (by decide) (by decide) (by decide) (by decide) <| s_getI hC dX8_drawn_134 wfl_X8_125 rfl (by decide) (by decide) (by decide) (by decide) <| ?_
  refine x_if_ne (tgt := 143) hC dX8_drawn_137 (by decide) (fun c14 => ?_) (fun c14 => ?_)
  · replace h := (if_neg c14).symm.trans h
    refine x_sub [1, 2, 3, 4, 5, 6, 7, 8, 9] rfl ?_
    exact B_X8_drawn_143 hC hR hE hk33 hk59 l2 l3 l4 l5 l6 l7 l8 l9 x13.2 h
  · replace h := (if_pos c14).symm.trans h
    refine x_iconst (v := (1 : Int32)) hC dX8_drawn_140 (by decide) <| x_istore hC dX8_drawn_141 (by decide) rfl <| ?_
    refine x_sub [2, 3, 4, 5, 6, 7, 8, 0, 9] rfl ?_
    exact B_X8_drawn_143 hC hR hE hk33 hk59 l2 l3 l4 l5 l6 l7 true l9 x13.2 h
set_option maxRecDepth 100000 in
set_option maxHeartbeats 4000000 in
theorem B_X8_drawn_59 {G : xG} {l : Launch} {K : xK} {r : Int32} {τ : xS2} (hC : xCX G mM_X8_drawn K) (hR : xRd K 4) (hE : xE G K (some (.int r)) (xM τ)) {k33 : Int32 → Int32 → Int32 → Int32 → Int32 → Int32 → xS2 → Option (Int32 × xS2)} (hk33 : ∀ (l2 : Int32) (l3 : Int32) (l4 : Int32) (l5 : Int32) (l6 : Int32) (l7 : Int32) (σ : xS2), k33 l2 l3 l4 l5 l6 l7 σ = some (r, τ) → xV G l mM_X8_drawn K 33 [(0, .ref (xad G 0)), (2, .int l2), (3, .int l3), (4, .int l4), (5, .int l5), (6, .int l6), (7, .int l7)] [] (xM σ)) : ∀ (f : Nat) (l2 : Int32) (l3 : Int32) (l4 : Int32) (l5 : Int32) (l6 : Int32) (l7 : Int32) (l8 : Bool) (l9 : Int32) (σ : xS2), J_X8_drawn_59 k33 f l2 l3 l4 l5 l6 l7 l8 l9 σ = some (r, τ) → xV G l mM_X8_drawn K 59 [(0, .ref (xad G 0)), (2, .int l2), (3, .int l3), (4, .int l4), (5, .int l5), (6, .int l6), (7, .int l7), (8, .int (xb l8)), (9, .int l9)] [] (xM σ) := by
  intro f
  induction f with
  | zero => intro l2 l3 l4 l5 l6 l7 l8 l9 σ h; cases h
  | succ f ih =>
    intro l2 l3 l4 l5 l6 l7 l8 l9 σ h
    refine x_iload hC dX8_drawn_59 (j := 8) rfl <| x_bipush (v := (60 : Int32)) hC dX8_drawn_61 (by decide) <| ?_
    refine x_icmp_ge (tgt := 149) hC dX8_drawn_63 (by decide) (fun c8 => ?_) (fun c8 => ?_)
    · replace h := (if_pos c8).symm.trans h
      refine x_iload hC dX8_drawn_149 (j := 7) rfl <| ?_
      refine x_if_eq (tgt := 157) hC dX8_drawn_151 (by decide) (fun c9 => ?_) (fun c9 => ?_)
      · replace h := (if_pos c9).symm.trans h
        refine x_sub [0, 1, 2, 3, 4, 5, 6] rfl ?_
        exact B_X8_drawn_157 hC hR hE hk33 l2 l3 l4 l5 l6 l7 σ h
      · replace h := (if_neg c9).symm.trans h
        refine x_iinc hC dX8_drawn_154 (j := 4) (v := (l5 + (1 : Int32))) rfl rfl (by decide) rfl <| ?_
        refine x_sub [1, 2, 3, 4, 0, 5, 6] rfl ?_
        exact B_X8_drawn_157 hC hR hE hk33 l2 l3 l4 (l5 + (1 : Int32)) l6 l7 σ h
    · replace h := (if_neg c8).symm.trans h
      refine x_iload hC dX8_drawn_66 (j := 3) rfl <| x_ldcw hC dX8_drawn_68 wconst_X8_271 <| x_imul hC dX8_drawn_71 <| x_sipush (v := (12345 : Int32)) hC dX8_drawn_72 (by decide) <| x_iadd hC dX8_drawn_75 <| x_istore hC dX8_drawn_76 (by decide) rfl <| ?_
      refine x_iload hC dX8_drawn_78 (j := 0) rfl <| x_bipush (v := (8 : Int32)) hC dX8_drawn_80 (by decide) <| x_iushr (v := (xus ((l4 * (1103515245 : Int32)) + (12345 : Int32)) (8 : Int32))) hC dX8_drawn_82 rfl <| x_bipush (v := (12 : Int32)) hC dX8_drawn_83 (by decide) <| x_irm hC dX8_drawn_85 (by decide) <| x_aload_n hC dX8_drawn_86 rfl (j := 1) rfl <| ?_
      refine s_getR (q := 1) hC dX8_drawn_87 wfl_X8_10 rfl (by decide) (by decide) (by decide) (by decide) (by decide) <| x_callV hC hR dX8_drawn_90 mK_X3_odds wml_X8_255 (C_X3_odds (σ := σ)) (by omega) rfl (by decide) rfl rfl (xlt (by decide)) rfl (Nat.le_of_ble_eq_true rfl) rfl rfl rfl <| ?_
      refine x_icmp_ge (tgt := 101) hC dX8_drawn_93 (by decide) (fun c11 => ?_) (fun c11 => ?_)
      · replace h := (if_pos c11).symm.trans h
        refine x_iconst (v := (0 : Int32)) hC dX8_drawn_101 (by decide) <| ?_
        refine x_sub [1, 2, 3, 0, 4, 5, 6, 7, 8] rfl ?_
        exact B_X8_drawn_102 hC hR hE hk33 ih l2 l3 ((l4 * (1103515245 : Int32)) + (12345 : Int32)) l5 l6 l7 l8 l9 (0 : Int32) σ h
      · replace h := (if_neg c11).symm.trans h
        refine x_bipush (v := (9 : Int32)) hC dX8_drawn_96 (by decide) <| x_goto (tgt := 102) hC dX8_drawn_98 (by decide) <| ?_
        refine x_sub [1, 2, 3, 0, 4, 5, 6, 7, 8] rfl ?_
        exact B_X8_drawn_102 hC hR hE hk33 ih l2 l3 ((l4 * (1103515245 : Int32)) + (12345 : Int32)) l5 l6 l7 l8 l9 (9 : Int32) σ h
set_option maxRecDepth 100000 in
set_option maxHeartbeats 4000000 in
theorem B_X8_drawn_33 {G : xG} {l : Launch} {K : xK} {r : Int32} {τ : xS2} (hC : xCX G mM_X8_drawn K) (hR : xRd K 4) (hE : xE G K (some (.int r)) (xM τ)) : ∀ (f : Nat) (l2 : Int32) (l3 : Int32) (l4 : Int32) (l5 : Int32) (l6 : Int32) (l7 : Int32) (σ : xS2), J_X8_drawn_33 f l2 l3 l4 l5 l6 l7 σ = some (r, τ) → xV G l mM_X8_drawn K 33 [(0, .ref (xad G 0)), (2, .int l2), (3, .int l3), (4, .int l4), (5, .int l5), (6, .int l6), (7, .int l7)] [] (xM σ) := by
  intro f
  induction f with
  | zero => intro l2 l3 l4 l5 l6 l7 σ h; cases h
  | succ f ih =>
    intro l2 l3 l4 l5 l6 l7 σ h
    refine x_iload hC dX8_drawn_33 (j := 6) rfl <| x_iload_n hC dX8_drawn_35 rfl (j := 1) rfl <| ?_
    refine x_icmp_ge (tgt := 175) hC dX8_drawn_36 (by decide) (fun c5 => ?_) (fun c5 => ?_)
    · replace h := (if_pos c5).symm.trans h
      refine x_iload_n hC dX8_drawn_175 rfl (j := 2) rfl <| ?_
      refine x_if_ne (tgt := 184) hC dX8_drawn_176 (by decide) (fun c6 => ?_) (fun c6 => ?_)
      · replace h := (if_neg c6).symm.trans h
        refine x_iload hC dX8_drawn_184 (j := 5) rfl <| ?_
        obtain ⟨e1, e2⟩ := xso2 h
        subst e1
        subst e2
        exact x_iret (rest := []) hC hE rfl dX8_drawn_186
      · replace h := (if_pos c6).symm.trans h
        refine x_iload hC dX8_drawn_179 (j := 4) rfl <| x_goto (tgt := 186) hC dX8_drawn_181 (by decide) <| ?_
        obtain ⟨e1, e2⟩ := xso2 h
        subst e1
        subst e2
        exact x_iret (rest := []) hC hE rfl dX8_drawn_186
    · replace h := (if_neg c5).symm.trans h
      refine x_iconst (v := (0 : Int32)) hC dX8_drawn_39 (by decide) <| x_istore hC dX8_drawn_40 (by decide) rfl <| x_aload_n hC dX8_drawn_42 rfl (j := 1) rfl <| s_getR (q := 4) hC dX8_drawn_43 wfl_X8_23 rfl (by decide) (by decide) (by decide) (by decide) (by decide) <| x_aload_n hC dX8_drawn_46 rfl (j := 1) rfl <| s_getR (q := 3) hC dX8_drawn_47 wfl_X8_19 rfl (by decide) (by decide) (by decide) (by decide) (by decide) <| ?_
      obtain ⟨x7, h7, h⟩ := Option.bind_eq_some_iff.mp h
      refine x_callV hC hR dX8_drawn_50 mK_X0_become wml_X8_194 (C_X0_become (a0 := 4) (a1 := 3) (σ := σ) rfl rfl h7) (by omega) rfl (by decide) rfl rfl (xlt (by decide)) rfl (Nat.le_of_ble_eq_true rfl) rfl rfl rfl <| ?_
      refine x_aload_n hC dX8_drawn_53 rfl (j := 1) rfl <| s_getI hC dX8_drawn_54 wfl_X8_119 rfl (by decide) (by decide) (by decide) (by decide) <| x_istore hC dX8_drawn_57 (by decide) rfl <| ?_
      refine x_sub [2, 3, 4, 5, 6, 7, 8, 1, 0] rfl ?_
      exact B_X8_drawn_59 hC hR hE ih xFU l2 l3 l4 l5 l6 l7 false (x7.1 0 12) x7 h
set_option maxRecDepth 100000 in
set_option maxHeartbeats 4000000 in
theorem C_X8_drawn {G : xG} {l : Launch} {a1 : Int32} {a2 : Int32} {a3 : Int32} {σ : xS2} {r : Int32} {τ : xS2} (h : J_X8_drawn a1 a2 a3 σ = some (r, τ)) : xC G l mM_X8_drawn 4 [.ref (xad G 0), .int a1, .int a2, .int a3] (xM σ) (some (.int r)) (xM τ) := by
  refine xC_of (by decide) rfl (Nat.le_refl _) (Nat.le_of_ble_eq_true rfl) (fun K hC hE hR _ => ?_)
  refine x_iload_n hC dX8_drawn_0 rfl (j := 2) rfl <| x_iconst (v := (1 : Int32)) hC dX8_drawn_1 (by decide) <| ?_
  refine x_icmp_lt (tgt := 19) hC dX8_drawn_2 (by decide) (fun c1 => ?_) (fun c1 => ?_)
  · replace h := (if_pos c1).symm.trans h
    refine x_iconst (v := (-1 : Int32)) hC dX8_drawn_19 (by decide) <| ?_
    obtain ⟨e1, e2⟩ := xso2 h
    subst e1
    subst e2
    exact x_iret (rest := []) hC hE rfl dX8_drawn_20
  · replace h := (if_neg c1).symm.trans h
    refine x_iload_n hC dX8_drawn_5 rfl (j := 2) rfl <| x_bipush (v := (30 : Int32)) hC dX8_drawn_6 (by decide) <| ?_
    refine x_icmp_gt (tgt := 19) hC dX8_drawn_8 (by decide) (fun c2 => ?_) (fun c2 => ?_)
    · replace h := (if_pos c2).symm.trans h
      refine x_iconst (v := (-1 : Int32)) hC dX8_drawn_19 (by decide) <| ?_
      obtain ⟨e1, e2⟩ := xso2 h
      subst e1
      subst e2
      exact x_iret (rest := []) hC hE rfl dX8_drawn_20
    · replace h := (if_neg c2).symm.trans h
      refine x_iload_n hC dX8_drawn_11 rfl (j := 3) rfl <| x_iconst (v := (2 : Int32)) hC dX8_drawn_12 (by decide) <| x_callS hC hR dX8_drawn_13 mK_X8_isOneOf wml_X8_188 (C_X8_isOneOf (a0 := a3) (a1 := (2 : Int32)) (σ := σ)) (by omega) rfl (Nat.le_of_ble_eq_true rfl) rfl rfl rfl <| ?_
      refine x_if_ne (tgt := 21) hC dX8_drawn_16 (by decide) (fun c4 => ?_) (fun c4 => ?_)
      · replace h := (if_neg c4).symm.trans h
        refine x_iload_n hC dX8_drawn_21 rfl (j := 1) rfl <| x_istore hC dX8_drawn_22 (by decide) rfl <| x_iconst (v := (0 : Int32)) hC dX8_drawn_24 (by decide) <| x_istore hC dX8_drawn_25 (by decide) rfl <| x_iconst (v := (0 : Int32)) hC dX8_drawn_27 (by decide) <| x_istore hC dX8_drawn_28 (by decide) rfl <| ?_
        refine x_iconst (v := (0 : Int32)) hC dX8_drawn_30 (by decide) <| x_istore hC dX8_drawn_31 (by decide) rfl <| ?_
        refine x_sub [4, 6, 7, 3, 2, 1, 0] rfl ?_
        exact B_X8_drawn_33 hC hR hE xFU a2 a3 a1 (0 : Int32) (0 : Int32) (0 : Int32) σ h
      · replace h := (if_pos c4).symm.trans h
        refine x_iconst (v := (-1 : Int32)) hC dX8_drawn_19 (by decide) <| ?_
        obtain ⟨e1, e2⟩ := xso2 h
        subst e1
        subst e2
        exact x_iret (rest := []) hC hE rfl dX8_drawn_20
set_option maxRecDepth 100000 in
set_option maxHeartbeats 4000000 in
theorem C_X8_isShelf {G : xG} {l : Launch} {a0 : Int32} {σ : xS2} : xC G l mM_X8_isShelf 0 [.int a0] (xM σ) (some (.int (xb (J_X8_isShelf a0)))) (xM σ) := by
  refine xC_of (by decide) rfl (Nat.le_refl _) (Nat.le_of_ble_eq_true rfl) (fun K hC hE hR _ => ?_)
  obtain ⟨r, h⟩ : ∃ r, J_X8_isShelf a0 = r := ⟨_, rfl⟩
  rw [h] at hE
  refine x_iload_n hC dX8_isShelf_0 rfl (j := 0) rfl <| ?_
  refine x_if_lt (tgt := 14) hC dX8_isShelf_1 (by decide) (fun c1 => ?_) (fun c1 => ?_)
  · replace h := (if_pos c1).symm.trans h
    refine x_iconst (v := (0 : Int32)) hC dX8_isShelf_14 (by decide) <| ?_
    subst h
    exact x_zret (rest := []) hC hE rfl (by decide) dX8_isShelf_15
  · replace h := (if_neg c1).symm.trans h
    refine x_iload_n hC dX8_isShelf_4 rfl (j := 0) rfl <| x_bipush (v := (6 : Int32)) hC dX8_isShelf_5 (by decide) <| ?_
    refine x_icmp_ge (tgt := 14) hC dX8_isShelf_7 (by decide) (fun c2 => ?_) (fun c2 => ?_)
    · replace h := (if_pos c2).symm.trans h
      refine x_iconst (v := (0 : Int32)) hC dX8_isShelf_14 (by decide) <| ?_
      subst h
      exact x_zret (rest := []) hC hE rfl (by decide) dX8_isShelf_15
    · replace h := (if_neg c2).symm.trans h
      refine x_iconst (v := (1 : Int32)) hC dX8_isShelf_10 (by decide) <| x_goto (tgt := 15) hC dX8_isShelf_11 (by decide) <| ?_
      subst h
      exact x_zret (rest := []) hC hE rfl (by decide) dX8_isShelf_15
set_option maxRecDepth 100000 in
set_option maxHeartbeats 4000000 in
theorem C_X8_refusedPlace {G : xG} {l : Launch} {a0 : Nat} {a1 : Int32} {σ : xS2} (ha0 : xSH a0 = (5, 5)) : xC G l mM_X8_refusedPlace 1 [.ref (xad G a0), .int a1] (xM σ) (some (.int (J_X8_refusedPlace a0 a1 σ))) (xM σ) := by
  refine xC_of (by decide) rfl (Nat.le_refl _) (Nat.le_of_ble_eq_true rfl) (fun K hC hE hR _ => ?_)
  obtain ⟨r, h⟩ : ∃ r, J_X8_refusedPlace a0 a1 σ = r := ⟨_, rfl⟩
  rw [h] at hE
  refine x_aload_n hC dX8_refusedPlace_0 rfl (j := 0) rfl <| x_callV hC hR dX8_refusedPlace_1 mK_X5_isEmpty wml_X8_144 (C_X5_isEmpty (a0 := a0) (σ := σ) ha0) (by omega) ha0 (by decide) rfl rfl (xlo ha0 (by decide)) rfl (Nat.le_of_ble_eq_true rfl) rfl rfl rfl <| ?_
  refine x_if_eq (tgt := 10) hC dX8_refusedPlace_4 (by decide) (fun c2 => ?_) (fun c2 => ?_)
  · replace h := (if_pos c2).symm.trans h
    refine x_aload_n hC dX8_refusedPlace_10 rfl (j := 0) rfl <| x_callV hC hR dX8_refusedPlace_11 mK_X5_isRow wml_X8_318 (C_X5_isRow (a0 := a0) (σ := σ) ha0) (by omega) ha0 (by decide) rfl rfl (xlo ha0 (by decide)) rfl (Nat.le_of_ble_eq_true rfl) rfl rfl rfl <| ?_
    refine x_if_ne (tgt := 20) hC dX8_refusedPlace_14 (by decide) (fun c4 => ?_) (fun c4 => ?_)
    · replace h := (if_neg c4).symm.trans h
      refine x_aload_n hC dX8_refusedPlace_20 rfl (j := 0) rfl <| x_iload_n hC dX8_refusedPlace_21 rfl (j := 1) rfl <| x_iconst (v := (1 : Int32)) hC dX8_refusedPlace_22 (by decide) <| x_callV hC hR dX8_refusedPlace_23 mK_X5_hasPlaces wml_X8_321 (C_X5_hasPlaces (a0 := a0) (a1 := a1) (a2 := (1 : Int32)) (σ := σ) ha0) (by omega) ha0 (by decide) rfl rfl (xlo ha0 (by decide)) rfl (Nat.le_of_ble_eq_true rfl) rfl rfl rfl <| ?_
      refine x_if_eq (tgt := 33) hC dX8_refusedPlace_26 (by decide) (fun c6 => ?_) (fun c6 => ?_)
      · replace h := (if_pos c6).symm.trans h
        refine x_bipush (v := (-13 : Int32)) hC dX8_refusedPlace_33 (by decide) <| ?_
        subst h
        exact x_iret (rest := []) hC hE rfl dX8_refusedPlace_35
      · replace h := (if_neg c6).symm.trans h
        refine x_iconst (v := (0 : Int32)) hC dX8_refusedPlace_29 (by decide) <| x_goto (tgt := 35) hC dX8_refusedPlace_30 (by decide) <| ?_
        subst h
        exact x_iret (rest := []) hC hE rfl dX8_refusedPlace_35
    · replace h := (if_pos c4).symm.trans h
      refine x_bipush (v := (-12 : Int32)) hC dX8_refusedPlace_17 (by decide) <| ?_
      subst h
      exact x_iret (rest := []) hC hE rfl dX8_refusedPlace_19
  · replace h := (if_neg c2).symm.trans h
    refine x_bipush (v := (-11 : Int32)) hC dX8_refusedPlace_7 (by decide) <| ?_
    subst h
    exact x_iret (rest := []) hC hE rfl dX8_refusedPlace_9
set_option maxRecDepth 100000 in
set_option maxHeartbeats 4000000 in
theorem C_X8_element {G : xG} {l : Launch} {a1 : Int32} {a2 : Int32} {σ : xS2} {r : Int64} (h : J_X8_element a1 a2 σ = some r) : xC G l mM_X8_element 2 [.ref (xad G 0), .int a1, .int a2] (xM σ) (some (.long r)) (xM σ) := by
  refine xC_of (by decide) rfl (Nat.le_refl _) (Nat.le_of_ble_eq_true rfl) (fun K hC hE hR _ => ?_)
  refine x_iload_n hC dX8_element_0 rfl (j := 1) rfl <| x_callS hC hR dX8_element_1 mK_X8_isShelf wml_X8_141 (C_X8_isShelf (a0 := a1) (σ := σ)) (by omega) rfl (Nat.le_of_ble_eq_true rfl) rfl rfl rfl <| ?_
  refine x_if_eq (tgt := 20) hC dX8_element_4 (by decide) (fun c2 => ?_) (fun c2 => ?_)
  · replace h := (if_pos c2).symm.trans h
    refine x_ldc2 hC dX8_element_20 wconstL_X8_253 <| ?_
    have e1 := Option.some.inj h
    subst e1
    exact x_lret (rest := []) hC hE rfl dX8_element_23
  · replace h := (if_neg c2).symm.trans h
    refine x_aload_n hC dX8_element_7 rfl (j := 0) rfl <| s_getR (q := 27) hC dX8_element_8 wfl_X8_67 rfl (by decide) (by decide) (by decide) (by decide) (by decide) <| x_iload_n hC dX8_element_11 rfl (j := 1) rfl <| ?_
    obtain ⟨h3, h⟩ := xgd_some h
    refine s_aldq (q := (28 + 2 * a1.toNatClampNeg)) hC dX8_element_12 rfl (by decide) h3 (xsh_rq h3) <| ?_
    refine x_iload_n hC dX8_element_13 rfl (j := 2) rfl <| x_callS hC hR dX8_element_14 mK_X8_refusedPlace wml_X8_311 (C_X8_refusedPlace (a0 := (28 + 2 * a1.toNatClampNeg)) (a1 := a2) (σ := σ) (xsh_at h3)) (by omega) rfl (Nat.le_of_ble_eq_true rfl) rfl rfl rfl <| ?_
    refine x_if_eq (tgt := 24) hC dX8_element_17 (by decide) (fun c5 => ?_) (fun c5 => ?_)
    · replace h := (if_pos c5).symm.trans h
      refine x_aload_n hC dX8_element_24 rfl (j := 0) rfl <| s_getR (q := 27) hC dX8_element_25 wfl_X8_67 rfl (by decide) (by decide) (by decide) (by decide) (by decide) <| x_iload_n hC dX8_element_28 rfl (j := 1) rfl <| ?_
      obtain ⟨h6, h⟩ := xgd_some h
      refine s_aldq (q := (28 + 2 * a1.toNatClampNeg)) hC dX8_element_29 rfl (by decide) h6 (xsh_rq h6) <| ?_
      refine x_iload_n hC dX8_element_30 rfl (j := 2) rfl <| ?_
      obtain ⟨x7, h7, h⟩ := Option.bind_eq_some_iff.mp h
      refine x_callV hC hR dX8_element_31 mK_X5_at wml_X8_158 (C_X5_at (a0 := (28 + 2 * a1.toNatClampNeg)) (a1 := a2) (σ := σ) (xsh_at h6) h7) (by omega) (xsh_at h6) (by decide) rfl rfl (xlo (xsh_at h6) (by decide)) rfl (Nat.le_of_ble_eq_true rfl) rfl rfl rfl <| ?_
      have e1 := Option.some.inj h
      subst e1
      exact x_lret (rest := []) hC hE rfl dX8_element_34
    · replace h := (if_neg c5).symm.trans h
      refine x_ldc2 hC dX8_element_20 wconstL_X8_253 <| ?_
      have e1 := Option.some.inj h
      subst e1
      exact x_lret (rest := []) hC hE rfl dX8_element_23
set_option maxRecDepth 100000 in
set_option maxHeartbeats 4000000 in
theorem B_X8_endOfLine_4 {G : xG} {l : Launch} {K : xK} {r : Int32} {σ : xS2} (hC : xCX G mM_X8_endOfLine K) (hR : xRd K 2) (hE : xE G K (some (.int r)) (xM σ)) : ∀ (f : Nat) (l0 : Nat) (hl0 : xSH l0 = (5, 5)) (l2 : Int32) (l3 : Int32), J_X8_endOfLine_4 f l0 l2 l3 σ = some r → xV G l mM_X8_endOfLine K 4 [(0, .ref (xad G l0)), (2, .int l2), (3, .int l3)] [] (xM σ) := by
  intro f
  induction f with
  | zero => intro l0 hl0 l2 l3 h; cases h
  | succ f ih =>
    intro l0 hl0 l2 l3 h
    refine x_iload_n hC dX8_endOfLine_4 rfl (j := 2) rfl <| x_aload_n hC dX8_endOfLine_5 rfl (j := 0) rfl <| s_getI hC dX8_endOfLine_6 wfl_X8_155 hl0 (by decide) (by decide) (xlo hl0 (by decide)) (by decide) <| ?_
    refine x_icmp_ge (tgt := 33) hC dX8_endOfLine_9 (by decide) (fun c1 => ?_) (fun c1 => ?_)
    · replace h := (if_pos c1).symm.trans h
      refine x_iload_n hC dX8_endOfLine_33 rfl (j := 1) rfl <| ?_
      have e1 := Option.some.inj h
      subst e1
      exact x_iret (rest := []) hC hE rfl dX8_endOfLine_34
    · replace h := (if_neg c1).symm.trans h
      refine x_iload_n hC dX8_endOfLine_12 rfl (j := 1) rfl <| ?_
      refine x_if_lt (tgt := 33) hC dX8_endOfLine_13 (by decide) (fun c2 => ?_) (fun c2 => ?_)
      · replace h := (if_pos c2).symm.trans h
        refine x_iload_n hC dX8_endOfLine_33 rfl (j := 1) rfl <| ?_
        have e1 := Option.some.inj h
        subst e1
        exact x_iret (rest := []) hC hE rfl dX8_endOfLine_34
      · replace h := (if_neg c2).symm.trans h
        refine x_iload_n hC dX8_endOfLine_16 rfl (j := 1) rfl <| x_aload_n hC dX8_endOfLine_17 rfl (j := 0) rfl <| x_iload_n hC dX8_endOfLine_18 rfl (j := 2) rfl <| ?_
        obtain ⟨x3, h3, h⟩ := Option.bind_eq_some_iff.mp h
        refine x_callV hC hR dX8_endOfLine_19 mK_X5_at wml_X8_158 (C_X5_at (a0 := l0) (a1 := l3) (σ := σ) hl0 h3) (by omega) hl0 (by decide) rfl rfl (xlo hl0 (by decide)) rfl (Nat.le_of_ble_eq_true rfl) rfl rfl rfl <| ?_
        refine x_l2i (v := (x3.toInt32)) hC dX8_endOfLine_22 rfl <| x_callS hC hR dX8_endOfLine_23 mK_X3_neighbour wml_X8_172 (C_X3_neighbour (a0 := l2) (a1 := (x3.toInt32)) (σ := σ)) (by omega) rfl (Nat.le_of_ble_eq_true rfl) rfl rfl rfl <| x_istore_n hC dX8_endOfLine_26 rfl (by decide) rfl <| x_iinc hC dX8_endOfLine_27 (j := 2) (v := (l3 + (1 : Int32))) rfl rfl (by decide) rfl <| x_goto (tgt := 4) hC dX8_endOfLine_30 (by decide) <| ?_
        refine x_sub [2, 1, 0] rfl ?_
        exact ih l0 hl0 (J_X3_neighbour l2 (x3.toInt32)) (l3 + (1 : Int32)) h
set_option maxRecDepth 100000 in
set_option maxHeartbeats 4000000 in
theorem C_X8_endOfLine {G : xG} {l : Launch} {a0 : Nat} {a1 : Int32} {σ : xS2} {r : Int32} (ha0 : xSH a0 = (5, 5)) (h : J_X8_endOfLine a0 a1 σ = some r) : xC G l mM_X8_endOfLine 2 [.ref (xad G a0), .int a1] (xM σ) (some (.int r)) (xM σ) := by
  refine xC_of (by decide) rfl (Nat.le_refl _) (Nat.le_of_ble_eq_true rfl) (fun K hC hE hR _ => ?_)
  refine x_iload_n hC dX8_endOfLine_0 rfl (j := 1) rfl <| x_istore_n hC dX8_endOfLine_1 rfl (by decide) rfl <| x_iconst (v := (0 : Int32)) hC dX8_endOfLine_2 (by decide) <| x_istore_n hC dX8_endOfLine_3 rfl (by decide) rfl <| ?_
  refine x_sub [2, 1, 0] rfl ?_
  exact B_X8_endOfLine_4 hC hR hE xFU a0 ha0 a1 (0 : Int32) h
set_option maxRecDepth 100000 in
set_option maxHeartbeats 4000000 in
theorem C_X8_feed {G : xG} {l : Launch} {a1 : Int32} {σ : xS2} {r : Int32} {τ : xS2} (h : J_X8_feed a1 σ = some (r, τ)) : xC G l mM_X8_feed 1 [.ref (xad G 0), .int a1] (xM σ) (some (.int r)) (xM τ) := by
  refine xC_of (by decide) rfl (Nat.le_refl _) (Nat.le_of_ble_eq_true rfl) (fun K hC hE hR _ => ?_)
  refine x_iload_n hC dX8_feed_0 rfl (j := 1) rfl <| ?_
  refine x_if_lt (tgt := 11) hC dX8_feed_1 (by decide) (fun c1 => ?_) (fun c1 => ?_)
  · replace h := (if_pos c1).symm.trans h
    refine x_iconst (v := (-1 : Int32)) hC dX8_feed_11 (by decide) <| ?_
    obtain ⟨e1, e2⟩ := xso2 h
    subst e1
    subst e2
    exact x_iret (rest := []) hC hE rfl dX8_feed_12
  · replace h := (if_neg c1).symm.trans h
    refine x_iload_n hC dX8_feed_4 rfl (j := 1) rfl <| x_sipush (v := (255 : Int32)) hC dX8_feed_5 (by decide) <| ?_
    refine x_icmp_le (tgt := 13) hC dX8_feed_8 (by decide) (fun c2 => ?_) (fun c2 => ?_)
    · replace h := (if_pos c2).symm.trans h
      refine x_aload_n hC dX8_feed_13 rfl (j := 0) rfl <| s_getR (q := 8) hC dX8_feed_14 wfl_X8_40 rfl (by decide) (by decide) (by decide) (by decide) (by decide) <| x_iload_n hC dX8_feed_17 rfl (j := 1) rfl <| ?_
      obtain ⟨x3, h3, h⟩ := Option.bind_eq_some_iff.mp h
      refine x_callV hC hR dX8_feed_18 mK_X2_take wml_X8_162 (C_X2_take (a1 := a1) (σ := σ) h3) (by omega) rfl (by decide) rfl rfl (xlt (by decide)) rfl (Nat.le_of_ble_eq_true rfl) rfl rfl rfl <| ?_
      refine x_if_eq (tgt := 34) hC dX8_feed_21 (by decide) (fun c4 => ?_) (fun c4 => ?_)
      · replace h := (if_pos c4).symm.trans h
        refine x_bipush (v := (-3 : Int32)) hC dX8_feed_34 (by decide) <| ?_
        obtain ⟨e1, e2⟩ := xso2 h
        subst e1
        subst e2
        exact x_iret (rest := []) hC hE rfl dX8_feed_36
      · replace h := (if_neg c4).symm.trans h
        refine x_aload_n hC dX8_feed_24 rfl (j := 0) rfl <| s_getR (q := 8) hC dX8_feed_25 wfl_X8_40 rfl (by decide) (by decide) (by decide) (by decide) (by decide) <| s_getI hC dX8_feed_28 wfl_X8_165 rfl (by decide) (by decide) (by decide) (by decide) <| x_goto (tgt := 36) hC dX8_feed_31 (by decide) <| ?_
        obtain ⟨e1, e2⟩ := xso2 h
        subst e1
        subst e2
        exact x_iret (rest := []) hC hE rfl dX8_feed_36
    · replace h := (if_neg c2).symm.trans h
      refine x_iconst (v := (-1 : Int32)) hC dX8_feed_11 (by decide) <| ?_
      obtain ⟨e1, e2⟩ := xso2 h
      subst e1
      subst e2
      exact x_iret (rest := []) hC hE rfl dX8_feed_12
set_option maxRecDepth 100000 in
set_option maxHeartbeats 4000000 in
theorem B_X8_orderOn_16 {G : xG} {l : Launch} {K : xK} {r : Int32} {σ : xS2} (hC : xCX G mM_X8_orderOn K) (hR : xRd K 2) (hE : xE G K (some (.int r)) (xM σ)) : J_X8_orderOn_16 σ = some r → xV G l mM_X8_orderOn K 16 [] [] (xM σ) := by
  intro  h
  refine x_iconst (v := (0 : Int32)) hC dX8_orderOn_16 (by decide) <| x_goto (tgt := 21) hC dX8_orderOn_17 (by decide) <| ?_
  have e1 := Option.some.inj h
  subst e1
  exact x_iret (rest := []) hC hE rfl dX8_orderOn_21
set_option maxRecDepth 100000 in
set_option maxHeartbeats 4000000 in
theorem C_X8_orderOn {G : xG} {l : Launch} {a0 : Nat} {a1 : Int32} {σ : xS2} {r : Int32} (ha0 : xSH a0 = (5, 5)) (h : J_X8_orderOn a0 a1 σ = some r) : xC G l mM_X8_orderOn 2 [.ref (xad G a0), .int a1] (xM σ) (some (.int r)) (xM σ) := by
  refine xC_of (by decide) rfl (Nat.le_refl _) (Nat.le_of_ble_eq_true rfl) (fun K hC hE hR _ => ?_)
  refine x_aload_n hC dX8_orderOn_0 rfl (j := 0) rfl <| x_iload_n hC dX8_orderOn_1 rfl (j := 1) rfl <| ?_
  obtain ⟨x1, h1, h⟩ := Option.bind_eq_some_iff.mp h
  refine x_callV hC hR dX8_orderOn_2 mK_X5_at wml_X8_158 (C_X5_at (a0 := a0) (a1 := a1) (σ := σ) ha0 h1) (by omega) ha0 (by decide) rfl rfl (xlo ha0 (by decide)) rfl (Nat.le_of_ble_eq_true rfl) rfl rfl rfl <| ?_
  refine x_l2i (v := (x1.toInt32)) hC dX8_orderOn_5 rfl <| x_istore_n hC dX8_orderOn_6 rfl (by decide) rfl <| x_iload_n hC dX8_orderOn_7 rfl (j := 0) rfl <| ?_
  refine x_if_lt (tgt := 16) hC dX8_orderOn_8 (by decide) (fun c2 => ?_) (fun c2 => ?_)
  · replace h := (if_pos c2).symm.trans h
    refine x_sub [] rfl ?_
    exact B_X8_orderOn_16 hC hR hE  h
  · replace h := (if_neg c2).symm.trans h
    refine x_iload_n hC dX8_orderOn_11 rfl (j := 0) rfl <| x_iconst (v := (5 : Int32)) hC dX8_orderOn_12 (by decide) <| ?_
    refine x_icmp_le (tgt := 20) hC dX8_orderOn_13 (by decide) (fun c3 => ?_) (fun c3 => ?_)
    · replace h := (if_pos c3).symm.trans h
      refine x_iload_n hC dX8_orderOn_20 rfl (j := 0) rfl <| ?_
      have e1 := Option.some.inj h
      subst e1
      exact x_iret (rest := []) hC hE rfl dX8_orderOn_21
    · replace h := (if_neg c3).symm.trans h
      refine x_sub [] rfl ?_
      exact B_X8_orderOn_16 hC hR hE  h
set_option maxRecDepth 100000 in
set_option maxHeartbeats 4000000 in
theorem C_X8_refusedBytes {G : xG} {l : Launch} {a1 : Int32} {σ : xS2} {r : Int32} (h : J_X8_refusedBytes a1 σ = some r) : xC G l mM_X8_refusedBytes 1 [.ref (xad G 0), .int a1] (xM σ) (some (.int r)) (xM σ) := by
  refine xC_of (by decide) rfl (Nat.le_refl _) (Nat.le_of_ble_eq_true rfl) (fun K hC hE hR _ => ?_)
  refine x_aload_n hC dX8_refusedBytes_0 rfl (j := 0) rfl <| s_getR (q := 27) hC dX8_refusedBytes_1 wfl_X8_67 rfl (by decide) (by decide) (by decide) (by decide) (by decide) <| x_iload_n hC dX8_refusedBytes_4 rfl (j := 1) rfl <| ?_
  obtain ⟨h1, h⟩ := xgd_some h
  refine s_aldq (q := (28 + 2 * a1.toNatClampNeg)) hC dX8_refusedBytes_5 rfl (by decide) h1 (xsh_rq h1) <| ?_
  refine x_callV hC hR dX8_refusedBytes_6 mK_X5_isEmpty wml_X8_144 (C_X5_isEmpty (a0 := (28 + 2 * a1.toNatClampNeg)) (σ := σ) (xsh_at h1)) (by omega) (xsh_at h1) (by decide) rfl rfl (xlo (xsh_at h1) (by decide)) rfl (Nat.le_of_ble_eq_true rfl) rfl rfl rfl <| ?_
  refine x_if_eq (tgt := 15) hC dX8_refusedBytes_9 (by decide) (fun c3 => ?_) (fun c3 => ?_)
  · replace h := (if_pos c3).symm.trans h
    refine x_aload_n hC dX8_refusedBytes_15 rfl (j := 0) rfl <| s_getR (q := 27) hC dX8_refusedBytes_16 wfl_X8_67 rfl (by decide) (by decide) (by decide) (by decide) (by decide) <| x_iload_n hC dX8_refusedBytes_19 rfl (j := 1) rfl <| ?_
    obtain ⟨h4, h⟩ := xgd_some h
    refine s_aldq (q := (28 + 2 * a1.toNatClampNeg)) hC dX8_refusedBytes_20 rfl (by decide) h4 (xsh_rq h4) <| ?_
    refine x_callV hC hR dX8_refusedBytes_21 mK_X5_isBytes wml_X8_148 (C_X5_isBytes (a0 := (28 + 2 * a1.toNatClampNeg)) (σ := σ) (xsh_at h4)) (by omega) (xsh_at h4) (by decide) rfl rfl (xlo (xsh_at h4) (by decide)) rfl (Nat.le_of_ble_eq_true rfl) rfl rfl rfl <| ?_
    refine x_if_eq (tgt := 31) hC dX8_refusedBytes_24 (by decide) (fun c6 => ?_) (fun c6 => ?_)
    · replace h := (if_pos c6).symm.trans h
      refine x_bipush (v := (-12 : Int32)) hC dX8_refusedBytes_31 (by decide) <| ?_
      have e1 := Option.some.inj h
      subst e1
      exact x_iret (rest := []) hC hE rfl dX8_refusedBytes_33
    · replace h := (if_neg c6).symm.trans h
      refine x_iconst (v := (0 : Int32)) hC dX8_refusedBytes_27 (by decide) <| x_goto (tgt := 33) hC dX8_refusedBytes_28 (by decide) <| ?_
      have e1 := Option.some.inj h
      subst e1
      exact x_iret (rest := []) hC hE rfl dX8_refusedBytes_33
  · replace h := (if_neg c3).symm.trans h
    refine x_bipush (v := (-11 : Int32)) hC dX8_refusedBytes_12 (by decide) <| ?_
    have e1 := Option.some.inj h
    subst e1
    exact x_iret (rest := []) hC hE rfl dX8_refusedBytes_14
set_option maxRecDepth 100000 in
set_option maxHeartbeats 4000000 in
theorem B_X8_first_55 {G : xG} {l : Launch} {K : xK} {r : Int32} {τ : xS2} (hC : xCX G mM_X8_first K) (hR : xRd K 5) (hE : xE G K (some (.int r)) (xM τ)) : ∀ (f : Nat) (l1 : Int32) (l3 : Int32) (l4 : Int32) (σ : xS2), J_X8_first_55 f l1 l3 l4 σ = some (r, τ) → xV G l mM_X8_first K 55 [(0, .ref (xad G 0)), (1, .int l1), (3, .int l3), (4, .int l4)] [] (xM σ) := by
  intro f
  induction f with
  | zero => intro l1 l3 l4 σ h; cases h
  | succ f ih =>
    intro l1 l3 l4 σ h
    refine x_iload hC dX8_first_55 (j := 3) rfl <| x_iload_n hC dX8_first_57 rfl (j := 2) rfl <| ?_
    refine x_icmp_ge (tgt := 102) hC dX8_first_58 (by decide) (fun c7 => ?_) (fun c7 => ?_)
    · replace h := (if_pos c7).symm.trans h
      refine x_bipush (v := (-2 : Int32)) hC dX8_first_102 (by decide) <| ?_
      obtain ⟨e1, e2⟩ := xso2 h
      subst e1
      subst e2
      exact x_iret (rest := []) hC hE rfl dX8_first_104
    · replace h := (if_neg c7).symm.trans h
      refine x_aload_n hC dX8_first_61 rfl (j := 0) rfl <| s_getR (q := 4) hC dX8_first_62 wfl_X8_23 rfl (by decide) (by decide) (by decide) (by decide) (by decide) <| x_aload_n hC dX8_first_65 rfl (j := 0) rfl <| s_getR (q := 1) hC dX8_first_66 wfl_X8_10 rfl (by decide) (by decide) (by decide) (by decide) (by decide) <| x_aload_n hC dX8_first_69 rfl (j := 0) rfl <| s_getI hC dX8_first_70 wfl_X8_119 rfl (by decide) (by decide) (by decide) (by decide) <| ?_
      refine x_iload hC dX8_first_73 (j := 3) rfl <| x_iadd hC dX8_first_75 <| x_aload_n hC dX8_first_76 rfl (j := 0) rfl <| s_getR (q := 27) hC dX8_first_77 wfl_X8_67 rfl (by decide) (by decide) (by decide) (by decide) (by decide) <| x_iload_n hC dX8_first_80 rfl (j := 1) rfl <| ?_
      obtain ⟨h8, h⟩ := xgd_some h
      refine s_aldq (q := (28 + 2 * l1.toNatClampNeg)) hC dX8_first_81 rfl (by decide) h8 (xsh_rq h8) <| ?_
      refine x_iload hC dX8_first_82 (j := 3) rfl <| ?_
      obtain ⟨x9, h9, h⟩ := Option.bind_eq_some_iff.mp h
      refine x_callS hC hR dX8_first_84 mK_X8_orderOn wml_X8_197 (C_X8_orderOn (a0 := (28 + 2 * l1.toNatClampNeg)) (a1 := l4) (σ := σ) (xsh_at h8) h9) (by omega) rfl (Nat.le_of_ble_eq_true rfl) rfl rfl rfl <| ?_
      obtain ⟨x10, h10, h⟩ := Option.bind_eq_some_iff.mp h
      refine x_callV hC hR dX8_first_87 mK_X0_live wml_X8_185 (C_X0_live (a0 := 4) (a2 := ((σ.1 0 12) + l4)) (a3 := x9) (σ := σ) rfl h10) (by omega) rfl (by decide) rfl rfl (xlt (by decide)) rfl (Nat.le_of_ble_eq_true rfl) rfl rfl rfl <| ?_
      refine x_if_ne (tgt := 96) hC dX8_first_90 (by decide) (fun c11 => ?_) (fun c11 => ?_)
      · replace h := (if_neg c11).symm.trans h
        refine x_iinc hC dX8_first_96 (j := 3) (v := (l4 + (1 : Int32))) rfl rfl (by decide) rfl <| x_goto (tgt := 55) hC dX8_first_99 (by decide) <| ?_
        refine x_sub [1, 2, 3, 0] rfl ?_
        exact ih l1 l3 (l4 + (1 : Int32)) x10.2 h
      · replace h := (if_pos c11).symm.trans h
        refine x_iload hC dX8_first_93 (j := 3) rfl <| ?_
        obtain ⟨e1, e2⟩ := xso2 h
        subst e1
        subst e2
        exact x_iret (rest := []) hC hE rfl dX8_first_95
set_option maxRecDepth 100000 in
set_option maxHeartbeats 4000000 in
theorem C_X8_first {G : xG} {l : Launch} {a1 : Int32} {σ : xS2} {r : Int32} {τ : xS2} (h : J_X8_first a1 σ = some (r, τ)) : xC G l mM_X8_first 5 [.ref (xad G 0), .int a1] (xM σ) (some (.int r)) (xM τ) := by
  refine xC_of (by decide) rfl (Nat.le_refl _) (Nat.le_of_ble_eq_true rfl) (fun K hC hE hR _ => ?_)
  refine x_iload_n hC dX8_first_0 rfl (j := 1) rfl <| x_callS hC hR dX8_first_1 mK_X8_isShelf wml_X8_141 (C_X8_isShelf (a0 := a1) (σ := σ)) (by omega) rfl (Nat.le_of_ble_eq_true rfl) rfl rfl rfl <| ?_
  refine x_if_ne (tgt := 9) hC dX8_first_4 (by decide) (fun c2 => ?_) (fun c2 => ?_)
  · replace h := (if_neg c2).symm.trans h
    refine x_aload_n hC dX8_first_9 rfl (j := 0) rfl <| x_iload_n hC dX8_first_10 rfl (j := 1) rfl <| ?_
    obtain ⟨x3, h3, h⟩ := Option.bind_eq_some_iff.mp h
    refine x_callV hC hR dX8_first_11 mK_X8_refusedBytes wml_X8_191 (C_X8_refusedBytes (a1 := a1) (σ := σ) h3) (by omega) rfl (by decide) rfl rfl (xlt (by decide)) rfl (Nat.le_of_ble_eq_true rfl) rfl rfl rfl <| ?_
    refine x_istore_n hC dX8_first_14 rfl (by decide) rfl <| x_iload_n hC dX8_first_15 rfl (j := 0) rfl <| ?_
    refine x_if_eq (tgt := 21) hC dX8_first_16 (by decide) (fun c4 => ?_) (fun c4 => ?_)
    · replace h := (if_pos c4).symm.trans h
      refine x_aload_n hC dX8_first_21 rfl (j := 1) rfl <| s_getR (q := 27) hC dX8_first_22 wfl_X8_67 rfl (by decide) (by decide) (by decide) (by decide) (by decide) <| x_iload_n hC dX8_first_25 rfl (j := 2) rfl <| ?_
      obtain ⟨h5, h⟩ := xgd_some h
      refine s_aldq (q := (28 + 2 * a1.toNatClampNeg)) hC dX8_first_26 rfl (by decide) h5 (xsh_rq h5) <| ?_
      refine s_getI hC dX8_first_27 wfl_X8_155 (xsh_at h5) (by decide) (by decide) (xlo (xsh_at h5) (by decide)) (by decide) <| x_bipush (v := (60 : Int32)) hC dX8_first_30 (by decide) <| x_aload_n hC dX8_first_32 rfl (j := 1) rfl <| s_getI hC dX8_first_33 wfl_X8_119 rfl (by decide) (by decide) (by decide) (by decide) <| x_isub hC dX8_first_36 <| x_mmin hC hR (by omega) dX8_first_37 wml_X8_204 (Nat.le_of_ble_eq_true rfl) <| ?_
      refine x_istore_n hC dX8_first_40 rfl (by decide) rfl <| x_aload_n hC dX8_first_41 rfl (j := 2) rfl <| s_getR (q := 4) hC dX8_first_42 wfl_X8_23 rfl (by decide) (by decide) (by decide) (by decide) (by decide) <| x_aload_n hC dX8_first_45 rfl (j := 2) rfl <| s_getR (q := 3) hC dX8_first_46 wfl_X8_19 rfl (by decide) (by decide) (by decide) (by decide) (by decide) <| ?_
      obtain ⟨x6, h6, h⟩ := Option.bind_eq_some_iff.mp h
      refine x_callV hC hR dX8_first_49 mK_X0_become wml_X8_194 (C_X0_become (a0 := 4) (a1 := 3) (σ := σ) rfl rfl h6) (by omega) rfl (by decide) rfl rfl (xlt (by decide)) rfl (Nat.le_of_ble_eq_true rfl) rfl rfl rfl <| ?_
      refine x_iconst (v := (0 : Int32)) hC dX8_first_52 (by decide) <| x_istore hC dX8_first_53 (by decide) rfl <| ?_
      refine x_sub [3, 4, 1, 0] rfl ?_
      exact B_X8_first_55 hC hR hE xFU a1 (xmin (σ.1 (28 + 2 * a1.toNatClampNeg) 4) ((60 : Int32) - (σ.1 0 12))) (0 : Int32) x6 h
    · replace h := (if_neg c4).symm.trans h
      refine x_iload_n hC dX8_first_19 rfl (j := 0) rfl <| ?_
      obtain ⟨e1, e2⟩ := xso2 h
      subst e1
      subst e2
      exact x_iret (rest := []) hC hE rfl dX8_first_20
  · replace h := (if_pos c2).symm.trans h
    refine x_iconst (v := (-1 : Int32)) hC dX8_first_7 (by decide) <| ?_
    obtain ⟨e1, e2⟩ := xso2 h
    subst e1
    subst e2
    exact x_iret (rest := []) hC hE rfl dX8_first_8
