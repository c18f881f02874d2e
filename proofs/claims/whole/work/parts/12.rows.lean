set_option maxRecDepth 100000 in
set_option maxHeartbeats 4000000 in
theorem B_X8_heightsFrom_6 {G : xG} {l : Launch} {K : xK} {r : Int32} {τ : xS2} (hC : xCX G mM_X8_heightsFrom K) (hR : xRd K 2) (hE : xE G K (some (.int r)) (xM τ)) : ∀ (f : Nat) (l1 : Nat) (hl1 : xSH l1 = (5, 5)) (l2 : Int32) (l3 : Int32) (l4 : Int32) (l5 : Int32) (l6 : Int32) (σ : xS2), J_X8_heightsFrom_6 f l1 l2 l3 l4 l5 l6 σ = some (r, τ) → xV G l mM_X8_heightsFrom K 6 [(0, .ref (xad G 0)), (1, .ref (xad G l1)), (2, .int l2), (3, .int l3), (4, .int l4), (5, .int l5), (6, .int l6)] [] (xM σ) := by
  intro f
  induction f with
  | zero => intro l1 hl1 l2 l3 l4 l5 l6 σ h; cases h
  | succ f ih =>
    intro l1 hl1 l2 l3 l4 l5 l6 σ h
    refine x_iload hC dX8_heightsFrom_6 (j := 6) rfl <| x_iload hC dX8_heightsFrom_8 (j := 4) rfl <| ?_
    refine x_icmp_ge (tgt := 89) hC dX8_heightsFrom_10 (by decide) (fun c1 => ?_) (fun c1 => ?_)
    · replace h := (if_pos c1).symm.trans h
      refine x_iload hC dX8_heightsFrom_89 (j := 5) rfl <| ?_
      obtain ⟨e1, e2⟩ := xso2 h
      subst e1
      subst e2
      exact x_iret (rest := []) hC hE rfl dX8_heightsFrom_91
    · replace h := (if_neg c1).symm.trans h
      refine x_iload_n hC dX8_heightsFrom_13 rfl (j := 3) rfl <| x_iload hC dX8_heightsFrom_14 (j := 6) rfl <| x_iadd hC dX8_heightsFrom_16 <| x_iconst (v := (0 : Int32)) hC dX8_heightsFrom_17 (by decide) <| ?_
      obtain ⟨x2, h2, h⟩ := Option.bind_eq_some_iff.mp h
      refine x_callS hC hR dX8_heightsFrom_18 mK_X3_place wml_X8_83 (C_X3_place (a0 := (l3 + l6)) (a1 := (0 : Int32)) (σ := σ) h2) (by omega) rfl (Nat.le_of_ble_eq_true rfl) rfl rfl rfl <| ?_
      refine x_istore hC dX8_heightsFrom_21 (by decide) rfl <| x_iload hC dX8_heightsFrom_23 (j := 0) rfl <| ?_
      refine x_if_lt (tgt := 89) hC dX8_heightsFrom_25 (by decide) (fun c3 => ?_) (fun c3 => ?_)
      · replace h := (if_pos c3).symm.trans h
        refine x_iload hC dX8_heightsFrom_89 (j := 6) rfl <| ?_
        obtain ⟨e1, e2⟩ := xso2 h
        subst e1
        subst e2
        exact x_iret (rest := []) hC hE rfl dX8_heightsFrom_91
      · replace h := (if_neg c3).symm.trans h
        refine x_iload_n hC dX8_heightsFrom_28 rfl (j := 3) rfl <| ?_
        refine x_if_lt (tgt := 89) hC dX8_heightsFrom_29 (by decide) (fun c4 => ?_) (fun c4 => ?_)
        · replace h := (if_pos c4).symm.trans h
          refine x_iload hC dX8_heightsFrom_89 (j := 6) rfl <| ?_
          obtain ⟨e1, e2⟩ := xso2 h
          subst e1
          subst e2
          exact x_iret (rest := []) hC hE rfl dX8_heightsFrom_91
        · replace h := (if_neg c4).symm.trans h
          refine x_iload_n hC dX8_heightsFrom_32 rfl (j := 3) rfl <| x_aload_n hC dX8_heightsFrom_33 rfl (j := 2) rfl <| s_getI hC dX8_heightsFrom_34 wfl_X8_155 hl1 (by decide) (by decide) (xlo hl1 (by decide)) (by decide) <| x_iload hC dX8_heightsFrom_37 (j := 7) rfl <| x_isub hC dX8_heightsFrom_39 <| ?_
          refine x_icmp_lt (tgt := 46) hC dX8_heightsFrom_40 (by decide) (fun c5 => ?_) (fun c5 => ?_)
          · replace h := (if_pos c5).symm.trans h
            refine x_aload_n hC dX8_heightsFrom_46 rfl (j := 2) rfl <| x_iload_n hC dX8_heightsFrom_47 rfl (j := 3) rfl <| x_iload hC dX8_heightsFrom_48 (j := 7) rfl <| x_iadd hC dX8_heightsFrom_50 <| ?_
            obtain ⟨x6, h6, h⟩ := Option.bind_eq_some_iff.mp h
            refine x_callV hC hR dX8_heightsFrom_51 mK_X5_at wml_X8_158 (C_X5_at (a0 := l1) (a1 := (l2 + l6)) (σ := σ) hl1 h6) (by omega) hl1 (by decide) rfl rfl (xlo hl1 (by decide)) rfl (Nat.le_of_ble_eq_true rfl) rfl rfl rfl <| ?_
            refine x_l2i (v := (x6.toInt32)) hC dX8_heightsFrom_54 rfl <| x_istore hC dX8_heightsFrom_55 (by decide) rfl <| x_iconst (v := (0 : Int32)) hC dX8_heightsFrom_57 (by decide) <| x_iload hC dX8_heightsFrom_58 (j := 0) rfl <| ?_
            obtain ⟨x7, h7, h⟩ := Option.bind_eq_some_iff.mp h
            refine x_callS hC hR dX8_heightsFrom_60 mK_X3_mayBe wml_X8_87 (C_X3_mayBe (a0 := (0 : Int32)) (a1 := (x6.toInt32)) (σ := σ) h7) (by omega) rfl (Nat.le_of_ble_eq_true rfl) rfl rfl rfl <| ?_
            refine x_if_ne (tgt := 69) hC dX8_heightsFrom_63 (by decide) (fun c8 => ?_) (fun c8 => ?_)
            · replace h := (if_neg c8).symm.trans h
              refine x_aload_n hC dX8_heightsFrom_69 rfl (j := 2) rfl <| s_getR (q := 1) hC dX8_heightsFrom_70 wfl_X8_10 rfl (by decide) (by decide) (by decide) (by decide) (by decide) <| x_iload hC dX8_heightsFrom_73 (j := 1) rfl <| x_iload hC dX8_heightsFrom_75 (j := 0) rfl <| ?_
              obtain ⟨x9, h9, h⟩ := Option.bind_eq_some_iff.mp h
              refine x_callV hC hR dX8_heightsFrom_77 mK_X3_tell wml_X8_95 (C_X3_tell (a1 := x2) (a2 := (x6.toInt32)) (σ := σ) h9) (by omega) rfl (by decide) rfl rfl (xlt (by decide)) rfl (Nat.le_of_ble_eq_true rfl) rfl rfl rfl <| ?_
              refine x_iinc hC dX8_heightsFrom_80 (j := 7) (v := (l5 + (1 : Int32))) rfl rfl (by decide) rfl <| x_iinc hC dX8_heightsFrom_83 (j := 8) (v := (l6 + (1 : Int32))) rfl rfl (by decide) rfl <| x_goto (tgt := 6) hC dX8_heightsFrom_86 (by decide) <| ?_
              refine x_sub [4, 5, 6, 7, 8, 1, 0] rfl ?_
              exact ih l1 hl1 l2 l3 l4 (l5 + (1 : Int32)) (l6 + (1 : Int32)) x9 h
            · replace h := (if_pos c8).symm.trans h
              refine x_goto (tgt := 89) hC dX8_heightsFrom_66 (by decide) <| x_iload hC dX8_heightsFrom_89 (j := 7) rfl <| ?_
              obtain ⟨e1, e2⟩ := xso2 h
              subst e1
              subst e2
              exact x_iret (rest := []) hC hE rfl dX8_heightsFrom_91
          · replace h := (if_neg c5).symm.trans h
            refine x_goto (tgt := 89) hC dX8_heightsFrom_43 (by decide) <| x_iload hC dX8_heightsFrom_89 (j := 6) rfl <| ?_
            obtain ⟨e1, e2⟩ := xso2 h
            subst e1
            subst e2
            exact x_iret (rest := []) hC hE rfl dX8_heightsFrom_91
set_option maxRecDepth 100000 in
set_option maxHeartbeats 4000000 in
theorem C_X8_heightsFrom {G : xG} {l : Launch} {a1 : Nat} {a2 : Int32} {a3 : Int32} {a4 : Int32} {σ : xS2} {r : Int32} {τ : xS2} (ha1 : xSH a1 = (5, 5)) (h : J_X8_heightsFrom a1 a2 a3 a4 σ = some (r, τ)) : xC G l mM_X8_heightsFrom 2 [.ref (xad G 0), .ref (xad G a1), .int a2, .int a3, .int a4] (xM σ) (some (.int r)) (xM τ) := by
  refine xC_of (by decide) rfl (Nat.le_refl _) (Nat.le_of_ble_eq_true rfl) (fun K hC hE hR _ => ?_)
  refine x_iconst (v := (0 : Int32)) hC dX8_heightsFrom_0 (by decide) <| x_istore hC dX8_heightsFrom_1 (by decide) rfl <| x_iconst (v := (0 : Int32)) hC dX8_heightsFrom_3 (by decide) <| x_istore hC dX8_heightsFrom_4 (by decide) rfl <| ?_
  refine x_sub [2, 3, 4, 5, 6, 1, 0] rfl ?_
  exact B_X8_heightsFrom_6 hC hR hE xFU a1 ha1 a2 a3 a4 (0 : Int32) (0 : Int32) σ h
set_option maxRecDepth 100000 in
set_option maxHeartbeats 4000000 in
theorem C_X8_heights {G : xG} {l : Launch} {a1 : Int32} {a2 : Int32} {a3 : Int32} {σ : xS2} {r : Int32} {τ : xS2} (h : J_X8_heights a1 a2 a3 σ = some (r, τ)) : xC G l mM_X8_heights 3 [.ref (xad G 0), .int a1, .int a2, .int a3] (xM σ) (some (.int r)) (xM τ) := by
  refine xC_of (by decide) rfl (Nat.le_refl _) (Nat.le_of_ble_eq_true rfl) (fun K hC hE hR _ => ?_)
  refine x_iload_n hC dX8_heights_0 rfl (j := 1) rfl <| x_callS hC hR dX8_heights_1 mK_X8_isShelf wml_X8_141 (C_X8_isShelf (a0 := a1) (σ := σ)) (by omega) rfl (Nat.le_of_ble_eq_true rfl) rfl rfl rfl <| ?_
  refine x_if_eq (tgt := 11) hC dX8_heights_4 (by decide) (fun c2 => ?_) (fun c2 => ?_)
  · replace h := (if_pos c2).symm.trans h
    refine x_iconst (v := (-1 : Int32)) hC dX8_heights_11 (by decide) <| ?_
    obtain ⟨e1, e2⟩ := xso2 h
    subst e1
    subst e2
    exact x_iret (rest := []) hC hE rfl dX8_heights_12
  · replace h := (if_neg c2).symm.trans h
    refine x_iload_n hC dX8_heights_7 rfl (j := 3) rfl <| ?_
    refine x_if_ge (tgt := 13) hC dX8_heights_8 (by decide) (fun c3 => ?_) (fun c3 => ?_)
    · replace h := (if_pos c3).symm.trans h
      refine x_iload_n hC dX8_heights_13 rfl (j := 3) rfl <| x_bipush (v := (100 : Int32)) hC dX8_heights_14 (by decide) <| x_idiv hC dX8_heights_16 (by decide) <| x_istore hC dX8_heights_17 (by decide) rfl <| x_iload_n hC dX8_heights_19 rfl (j := 4) rfl <| x_bipush (v := (100 : Int32)) hC dX8_heights_20 (by decide) <| ?_
      refine x_irm hC dX8_heights_22 (by decide) <| x_istore hC dX8_heights_23 (by decide) rfl <| x_iload hC dX8_heights_25 (j := 1) rfl <| x_callS hC hR dX8_heights_27 mK_X3_isCell wml_X8_109 (C_X3_isCell (a0 := (a3 / (100 : Int32))) (σ := σ)) (by omega) rfl (Nat.le_of_ble_eq_true rfl) rfl rfl rfl <| ?_
      refine x_if_eq (tgt := 46) hC dX8_heights_30 (by decide) (fun c5 => ?_) (fun c5 => ?_)
      · replace h := (if_pos c5).symm.trans h
        refine x_iconst (v := (-1 : Int32)) hC dX8_heights_46 (by decide) <| ?_
        obtain ⟨e1, e2⟩ := xso2 h
        subst e1
        subst e2
        exact x_iret (rest := []) hC hE rfl dX8_heights_47
      · replace h := (if_neg c5).symm.trans h
        refine x_iload hC dX8_heights_33 (j := 0) rfl <| x_iconst (v := (1 : Int32)) hC dX8_heights_35 (by decide) <| ?_
        refine x_icmp_lt (tgt := 46) hC dX8_heights_36 (by decide) (fun c6 => ?_) (fun c6 => ?_)
        · replace h := (if_pos c6).symm.trans h
          refine x_iconst (v := (-1 : Int32)) hC dX8_heights_46 (by decide) <| ?_
          obtain ⟨e1, e2⟩ := xso2 h
          subst e1
          subst e2
          exact x_iret (rest := []) hC hE rfl dX8_heights_47
        · replace h := (if_neg c6).symm.trans h
          refine x_iload hC dX8_heights_39 (j := 0) rfl <| x_bipush (v := (36 : Int32)) hC dX8_heights_41 (by decide) <| ?_
          refine x_icmp_le (tgt := 48) hC dX8_heights_43 (by decide) (fun c7 => ?_) (fun c7 => ?_)
          · replace h := (if_pos c7).symm.trans h
            refine x_aload_n hC dX8_heights_48 rfl (j := 2) rfl <| s_getR (q := 27) hC dX8_heights_49 wfl_X8_67 rfl (by decide) (by decide) (by decide) (by decide) (by decide) <| x_iload_n hC dX8_heights_52 rfl (j := 3) rfl <| ?_
            obtain ⟨h8, h⟩ := xgd_some h
            refine s_aldq (q := (28 + 2 * a1.toNatClampNeg)) hC dX8_heights_53 rfl (by decide) h8 (xsh_rq h8) <| ?_
            refine x_callV hC hR dX8_heights_54 mK_X5_isEmpty wml_X8_144 (C_X5_isEmpty (a0 := (28 + 2 * a1.toNatClampNeg)) (σ := σ) (xsh_at h8)) (by omega) (xsh_at h8) (by decide) rfl rfl (xlo (xsh_at h8) (by decide)) rfl (Nat.le_of_ble_eq_true rfl) rfl rfl rfl <| ?_
            refine x_if_eq (tgt := 62) hC dX8_heights_57 (by decide) (fun c10 => ?_) (fun c10 => ?_)
            · replace h := (if_pos c10).symm.trans h
              refine x_aload_n hC dX8_heights_62 rfl (j := 2) rfl <| s_getR (q := 27) hC dX8_heights_63 wfl_X8_67 rfl (by decide) (by decide) (by decide) (by decide) (by decide) <| x_iload_n hC dX8_heights_66 rfl (j := 3) rfl <| ?_
              obtain ⟨h11, h⟩ := xgd_some h
              refine s_aldq (q := (28 + 2 * a1.toNatClampNeg)) hC dX8_heights_67 rfl (by decide) h11 (xsh_rq h11) <| ?_
              refine x_callV hC hR dX8_heights_68 mK_X5_isBytes wml_X8_148 (C_X5_isBytes (a0 := (28 + 2 * a1.toNatClampNeg)) (σ := σ) (xsh_at h11)) (by omega) (xsh_at h11) (by decide) rfl rfl (xlo (xsh_at h11) (by decide)) rfl (Nat.le_of_ble_eq_true rfl) rfl rfl rfl <| ?_
              refine x_if_ne (tgt := 77) hC dX8_heights_71 (by decide) (fun c13 => ?_) (fun c13 => ?_)
              · replace h := (if_neg c13).symm.trans h
                refine x_aload_n hC dX8_heights_77 rfl (j := 2) rfl <| x_aload_n hC dX8_heights_78 rfl (j := 2) rfl <| s_getR (q := 27) hC dX8_heights_79 wfl_X8_67 rfl (by decide) (by decide) (by decide) (by decide) (by decide) <| x_iload_n hC dX8_heights_82 rfl (j := 3) rfl <| ?_
                obtain ⟨h14, h⟩ := xgd_some h
                refine s_aldq (q := (28 + 2 * a1.toNatClampNeg)) hC dX8_heights_83 rfl (by decide) h14 (xsh_rq h14) <| ?_
                refine x_iload_n hC dX8_heights_84 rfl (j := 4) rfl <| x_iload hC dX8_heights_85 (j := 1) rfl <| x_iload hC dX8_heights_87 (j := 0) rfl <| ?_
                obtain ⟨x15, h15, h⟩ := Option.bind_eq_some_iff.mp h
                refine x_callV hC hR dX8_heights_89 mK_X8_heightsFrom wml_X8_151 (C_X8_heightsFrom (a1 := (28 + 2 * a1.toNatClampNeg)) (a2 := a2) (a3 := (a3 / (100 : Int32))) (a4 := (xrm a3 (100 : Int32))) (σ := σ) (xsh_at h14) h15) (by omega) rfl (by decide) rfl rfl (xlt (by decide)) rfl (Nat.le_of_ble_eq_true rfl) rfl rfl rfl <| ?_
                obtain ⟨e1, e2⟩ := xso2 h
                subst e1
                subst e2
                exact x_iret (rest := []) hC hE rfl dX8_heights_92
              · replace h := (if_pos c13).symm.trans h
                refine x_bipush (v := (-12 : Int32)) hC dX8_heights_74 (by decide) <| ?_
                obtain ⟨e1, e2⟩ := xso2 h
                subst e1
                subst e2
                exact x_iret (rest := []) hC hE rfl dX8_heights_76
            · replace h := (if_neg c10).symm.trans h
              refine x_iconst (v := (0 : Int32)) hC dX8_heights_60 (by decide) <| ?_
              obtain ⟨e1, e2⟩ := xso2 h
              subst e1
              subst e2
              exact x_iret (rest := []) hC hE rfl dX8_heights_61
          · replace h := (if_neg c7).symm.trans h
            refine x_iconst (v := (-1 : Int32)) hC dX8_heights_46 (by decide) <| ?_
            obtain ⟨e1, e2⟩ := xso2 h
            subst e1
            subst e2
            exact x_iret (rest := []) hC hE rfl dX8_heights_47
    · replace h := (if_neg c3).symm.trans h
      refine x_iconst (v := (-1 : Int32)) hC dX8_heights_11 (by decide) <| ?_
      obtain ⟨e1, e2⟩ := xso2 h
      subst e1
      subst e2
      exact x_iret (rest := []) hC hE rfl dX8_heights_12
set_option maxRecDepth 100000 in
set_option maxHeartbeats 4000000 in
theorem C_X8_image {G : xG} {l : Launch} {σ : xS2} {r : Int32} {τ : xS2} (h : J_X8_image σ = some (r, τ)) : xC G l mM_X8_image 2 [.ref (xad G 0)] (xM σ) (some (.int r)) (xM τ) := by
  refine xC_of (by decide) rfl (Nat.le_refl _) (Nat.le_of_ble_eq_true rfl) (fun K hC hE hR _ => ?_)
  refine x_aload_n hC dX8_image_0 rfl (j := 0) rfl <| s_getR (q := 5) hC dX8_image_1 wfl_X8_26 rfl (by decide) (by decide) (by decide) (by decide) (by decide) <| x_aload_n hC dX8_image_4 rfl (j := 0) rfl <| s_getR (q := 3) hC dX8_image_5 wfl_X8_19 rfl (by decide) (by decide) (by decide) (by decide) (by decide) <| ?_
  obtain ⟨x1, h1, h⟩ := Option.bind_eq_some_iff.mp h
  refine x_callV hC hR dX8_image_8 mK_X0_become wml_X8_194 (C_X0_become (a0 := 5) (a1 := 3) (σ := σ) rfl rfl h1) (by omega) rfl (by decide) rfl rfl (xlt (by decide)) rfl (Nat.le_of_ble_eq_true rfl) rfl rfl rfl <| ?_
  refine x_aload_n hC dX8_image_11 rfl (j := 0) rfl <| x_aload_n hC dX8_image_12 rfl (j := 0) rfl <| s_getI hC dX8_image_13 wfl_X8_119 rfl (by decide) (by decide) (by decide) (by decide) <| s_putI hC dX8_image_16 wfl_X8_79 rfl (by decide) (by decide) (by decide) (by decide) (by decide) <| x_aload_n hC dX8_image_19 rfl (j := 0) rfl <| s_getI hC dX8_image_20 wfl_X8_119 rfl (by decide) (by decide) (by decide) (by decide) <| ?_
  obtain ⟨e1, e2⟩ := xso2 h
  subst e1
  subst e2
  exact x_iret (rest := []) hC hE rfl dX8_image_23
set_option maxRecDepth 100000 in
set_option maxHeartbeats 4000000 in
theorem B_X8_judge_55 {G : xG} {l : Launch} {K : xK} {r : Int32} {τ : xS2} (hC : xCX G mM_X8_judge K) (hR : xRd K 5) (hE : xE G K (some (.int r)) (xM τ)) : ∀ (f : Nat) (l1 : Int32) (l3 : Int32) (l4 : Int32) (σ : xS2), J_X8_judge_55 f l1 l3 l4 σ = some (r, τ) → xV G l mM_X8_judge K 55 [(0, .ref (xad G 0)), (1, .int l1), (3, .int l3), (4, .int l4)] [] (xM σ) := by
  intro f
  induction f with
  | zero => intro l1 l3 l4 σ h; cases h
  | succ f ih =>
    intro l1 l3 l4 σ h
    refine x_iload hC dX8_judge_55 (j := 3) rfl <| x_iload_n hC dX8_judge_57 rfl (j := 2) rfl <| ?_
    refine x_icmp_ge (tgt := 113) hC dX8_judge_58 (by decide) (fun c7 => ?_) (fun c7 => ?_)
    · replace h := (if_pos c7).symm.trans h
      refine x_bipush (v := (-2 : Int32)) hC dX8_judge_113 (by decide) <| ?_
      obtain ⟨e1, e2⟩ := xso2 h
      subst e1
      subst e2
      exact x_iret (rest := []) hC hE rfl dX8_judge_115
    · replace h := (if_neg c7).symm.trans h
      refine x_aload_n hC dX8_judge_61 rfl (j := 0) rfl <| s_getR (q := 4) hC dX8_judge_62 wfl_X8_23 rfl (by decide) (by decide) (by decide) (by decide) (by decide) <| x_aload_n hC dX8_judge_65 rfl (j := 0) rfl <| s_getR (q := 1) hC dX8_judge_66 wfl_X8_10 rfl (by decide) (by decide) (by decide) (by decide) (by decide) <| x_aload_n hC dX8_judge_69 rfl (j := 0) rfl <| s_getI hC dX8_judge_70 wfl_X8_119 rfl (by decide) (by decide) (by decide) (by decide) <| ?_
      refine x_iload hC dX8_judge_73 (j := 3) rfl <| x_iadd hC dX8_judge_75 <| x_iconst (v := (0 : Int32)) hC dX8_judge_76 (by decide) <| ?_
      obtain ⟨x8, h8, h⟩ := Option.bind_eq_some_iff.mp h
      refine x_callV hC hR dX8_judge_77 mK_X0_live wml_X8_185 (C_X0_live (a0 := 4) (a2 := ((σ.1 0 12) + l4)) (a3 := (0 : Int32)) (σ := σ) rfl h8) (by omega) rfl (by decide) rfl rfl (xlt (by decide)) rfl (Nat.le_of_ble_eq_true rfl) rfl rfl rfl <| ?_
      refine x_pop hC dX8_judge_80 rfl <| x_aload_n hC dX8_judge_81 rfl (j := 0) rfl <| s_getR (q := 27) hC dX8_judge_82 wfl_X8_67 rfl (by decide) (by decide) (by decide) (by decide) (by decide) <| x_iload_n hC dX8_judge_85 rfl (j := 1) rfl <| ?_
      obtain ⟨h9, h⟩ := xgd_some h
      refine s_aldq (q := (28 + 2 * l1.toNatClampNeg)) hC dX8_judge_86 rfl (by decide) h9 (xsh_rq h9) <| ?_
      refine x_iload hC dX8_judge_87 (j := 3) rfl <| ?_
      obtain ⟨x10, h10, h⟩ := Option.bind_eq_some_iff.mp h
      refine x_callV hC hR dX8_judge_89 mK_X5_at wml_X8_158 (C_X5_at (a0 := (28 + 2 * l1.toNatClampNeg)) (a1 := l4) (σ := x8.2) (xsh_at h9) h10) (by omega) (xsh_at h9) (by decide) rfl rfl (xlo (xsh_at h9) (by decide)) rfl (Nat.le_of_ble_eq_true rfl) rfl rfl rfl <| ?_
      refine x_aload_n hC dX8_judge_92 rfl (j := 0) rfl <| s_getR (q := 4) hC dX8_judge_93 wfl_X8_23 rfl (by decide) (by decide) (by decide) (by decide) (by decide) <| s_getI hC dX8_judge_96 wfl_X8_125 rfl (by decide) (by decide) (by decide) (by decide) <| x_i2l (v := ((x8.2.1 4 1).toInt64)) hC dX8_judge_99 rfl <| x_lcmp hC dX8_judge_100 <| ?_
      refine x_if_eq (tgt := 107) hC dX8_judge_101 (by decide) (fun c11 => ?_) (fun c11 => ?_)
      · replace h := (if_pos c11).symm.trans h
        refine x_iinc hC dX8_judge_107 (j := 3) (v := (l4 + (1 : Int32))) rfl rfl (by decide) rfl <| x_goto (tgt := 55) hC dX8_judge_110 (by decide) <| ?_
        refine x_sub [1, 2, 3, 0] rfl ?_
        exact ih l1 l3 (l4 + (1 : Int32)) x8.2 h
      · replace h := (if_neg c11).symm.trans h
        refine x_iload hC dX8_judge_104 (j := 3) rfl <| ?_
        obtain ⟨e1, e2⟩ := xso2 h
        subst e1
        subst e2
        exact x_iret (rest := []) hC hE rfl dX8_judge_106
set_option maxRecDepth 100000 in
set_option maxHeartbeats 4000000 in
theorem C_X8_judge {G : xG} {l : Launch} {a1 : Int32} {σ : xS2} {r : Int32} {τ : xS2} (h : J_X8_judge a1 σ = some (r, τ)) : xC G l mM_X8_judge 5 [.ref (xad G 0), .int a1] (xM σ) (some (.int r)) (xM τ) := by
  refine xC_of (by decide) rfl (Nat.le_refl _) (Nat.le_of_ble_eq_true rfl) (fun K hC hE hR _ => ?_)
  refine x_iload_n hC dX8_judge_0 rfl (j := 1) rfl <| x_callS hC hR dX8_judge_1 mK_X8_isShelf wml_X8_141 (C_X8_isShelf (a0 := a1) (σ := σ)) (by omega) rfl (Nat.le_of_ble_eq_true rfl) rfl rfl rfl <| ?_
  refine x_if_ne (tgt := 9) hC dX8_judge_4 (by decide) (fun c2 => ?_) (fun c2 => ?_)
  · replace h := (if_neg c2).symm.trans h
    refine x_aload_n hC dX8_judge_9 rfl (j := 0) rfl <| x_iload_n hC dX8_judge_10 rfl (j := 1) rfl <| ?_
    obtain ⟨x3, h3, h⟩ := Option.bind_eq_some_iff.mp h
    refine x_callV hC hR dX8_judge_11 mK_X8_refusedBytes wml_X8_191 (C_X8_refusedBytes (a1 := a1) (σ := σ) h3) (by omega) rfl (by decide) rfl rfl (xlt (by decide)) rfl (Nat.le_of_ble_eq_true rfl) rfl rfl rfl <| ?_
    refine x_istore_n hC dX8_judge_14 rfl (by decide) rfl <| x_iload_n hC dX8_judge_15 rfl (j := 0) rfl <| ?_
    refine x_if_eq (tgt := 21) hC dX8_judge_16 (by decide) (fun c4 => ?_) (fun c4 => ?_)
    · replace h := (if_pos c4).symm.trans h
      refine x_aload_n hC dX8_judge_21 rfl (j := 1) rfl <| s_getR (q := 27) hC dX8_judge_22 wfl_X8_67 rfl (by decide) (by decide) (by decide) (by decide) (by decide) <| x_iload_n hC dX8_judge_25 rfl (j := 2) rfl <| ?_
      obtain ⟨h5, h⟩ := xgd_some h
      refine s_aldq (q := (28 + 2 * a1.toNatClampNeg)) hC dX8_judge_26 rfl (by decide) h5 (xsh_rq h5) <| ?_
      refine s_getI hC dX8_judge_27 wfl_X8_155 (xsh_at h5) (by decide) (by decide) (xlo (xsh_at h5) (by decide)) (by decide) <| x_bipush (v := (60 : Int32)) hC dX8_judge_30 (by decide) <| x_aload_n hC dX8_judge_32 rfl (j := 1) rfl <| s_getI hC dX8_judge_33 wfl_X8_119 rfl (by decide) (by decide) (by decide) (by decide) <| x_isub hC dX8_judge_36 <| x_mmin hC hR (by omega) dX8_judge_37 wml_X8_204 (Nat.le_of_ble_eq_true rfl) <| ?_
      refine x_istore_n hC dX8_judge_40 rfl (by decide) rfl <| x_aload_n hC dX8_judge_41 rfl (j := 2) rfl <| s_getR (q := 4) hC dX8_judge_42 wfl_X8_23 rfl (by decide) (by decide) (by decide) (by decide) (by decide) <| x_aload_n hC dX8_judge_45 rfl (j := 2) rfl <| s_getR (q := 3) hC dX8_judge_46 wfl_X8_19 rfl (by decide) (by decide) (by decide) (by decide) (by decide) <| ?_
      obtain ⟨x6, h6, h⟩ := Option.bind_eq_some_iff.mp h
      refine x_callV hC hR dX8_judge_49 mK_X0_become wml_X8_194 (C_X0_become (a0 := 4) (a1 := 3) (σ := σ) rfl rfl h6) (by omega) rfl (by decide) rfl rfl (xlt (by decide)) rfl (Nat.le_of_ble_eq_true rfl) rfl rfl rfl <| ?_
      refine x_iconst (v := (0 : Int32)) hC dX8_judge_52 (by decide) <| x_istore hC dX8_judge_53 (by decide) rfl <| ?_
      refine x_sub [3, 4, 1, 0] rfl ?_
      exact B_X8_judge_55 hC hR hE xFU a1 (xmin (σ.1 (28 + 2 * a1.toNatClampNeg) 4) ((60 : Int32) - (σ.1 0 12))) (0 : Int32) x6 h
    · replace h := (if_neg c4).symm.trans h
      refine x_iload_n hC dX8_judge_19 rfl (j := 0) rfl <| ?_
      obtain ⟨e1, e2⟩ := xso2 h
      subst e1
      subst e2
      exact x_iret (rest := []) hC hE rfl dX8_judge_20
  · replace h := (if_pos c2).symm.trans h
    refine x_iconst (v := (-1 : Int32)) hC dX8_judge_7 (by decide) <| ?_
    obtain ⟨e1, e2⟩ := xso2 h
    subst e1
    subst e2
    exact x_iret (rest := []) hC hE rfl dX8_judge_8
set_option maxRecDepth 100000 in
set_option maxHeartbeats 4000000 in
theorem B_X8_keep_25 {G : xG} {l : Launch} {K : xK} {r : Int32} {τ : xS2} (hC : xCX G mM_X8_keep K) (hR : xRd K 1) (hE : xE G K (some (.int r)) (xM τ)) : ∀ (l1 : Int32) (l2 : Int32) (σ : xS2), J_X8_keep_25 l1 l2 σ = some (r, τ) → xV G l mM_X8_keep K 25 [(0, .ref (xad G 0)), (1, .int l1), (2, .int l2)] [] (xM σ) := by
  intro l1 l2 σ h
  refine x_iload_n hC dX8_keep_25 rfl (j := 2) rfl <| x_iconst (v := (-1 : Int32)) hC dX8_keep_26 (by decide) <| ?_
  refine x_icmp_ne (tgt := 42) hC dX8_keep_27 (by decide) (fun c4 => ?_) (fun c4 => ?_)
  · replace h := (if_neg c4).symm.trans h
    refine x_aload_n hC dX8_keep_42 rfl (j := 0) rfl <| s_getR (q := 27) hC dX8_keep_43 wfl_X8_67 rfl (by decide) (by decide) (by decide) (by decide) (by decide) <| x_iload_n hC dX8_keep_46 rfl (j := 1) rfl <| ?_
    obtain ⟨h5, h⟩ := xgd_some h
    refine s_aldq (q := (28 + 2 * l1.toNatClampNeg)) hC dX8_keep_47 rfl (by decide) h5 (xsh_rq h5) <| ?_
    refine x_iload_n hC dX8_keep_48 rfl (j := 2) rfl <| ?_
    obtain ⟨x6, h6, h⟩ := Option.bind_eq_some_iff.mp h
    refine x_callV hC hR dX8_keep_49 mK_X5_holdBody wml_X8_304 (C_X5_holdBody (a0 := (28 + 2 * l1.toNatClampNeg)) (a1 := l2) (σ := σ) (xsh_at h5) h6) (by omega) (xsh_at h5) (by decide) rfl rfl (xlo (xsh_at h5) (by decide)) rfl (Nat.le_of_ble_eq_true rfl) rfl rfl rfl <| ?_
    refine x_iconst (v := (1 : Int32)) hC dX8_keep_52 (by decide) <| ?_
    obtain ⟨e1, e2⟩ := xso2 h
    subst e1
    subst e2
    exact x_iret (rest := []) hC hE rfl dX8_keep_53
  · replace h := (if_pos c4).symm.trans h
    refine x_aload_n hC dX8_keep_30 rfl (j := 0) rfl <| s_getR (q := 27) hC dX8_keep_31 wfl_X8_67 rfl (by decide) (by decide) (by decide) (by decide) (by decide) <| x_iload_n hC dX8_keep_34 rfl (j := 1) rfl <| ?_
    obtain ⟨h7, h⟩ := xgd_some h
    refine s_aldq (q := (28 + 2 * l1.toNatClampNeg)) hC dX8_keep_35 rfl (by decide) h7 (xsh_rq h7) <| ?_
    obtain ⟨x8, h8, h⟩ := Option.bind_eq_some_iff.mp h
    refine x_callV hC hR dX8_keep_36 mK_X5_holdNothing wml_X8_301 (C_X5_holdNothing (a0 := (28 + 2 * l1.toNatClampNeg)) (σ := σ) (xsh_at h7) h8) (by omega) (xsh_at h7) (by decide) rfl rfl (xlo (xsh_at h7) (by decide)) rfl (Nat.le_of_ble_eq_true rfl) rfl rfl rfl <| ?_
    refine x_goto (tgt := 52) hC dX8_keep_39 (by decide) <| x_iconst (v := (1 : Int32)) hC dX8_keep_52 (by decide) <| ?_
    obtain ⟨e1, e2⟩ := xso2 h
    subst e1
    subst e2
    exact x_iret (rest := []) hC hE rfl dX8_keep_53
set_option maxRecDepth 100000 in
set_option maxHeartbeats 4000000 in
theorem C_X8_keep {G : xG} {l : Launch} {a1 : Int32} {a2 : Int32} {σ : xS2} {r : Int32} {τ : xS2} (h : J_X8_keep a1 a2 σ = some (r, τ)) : xC G l mM_X8_keep 1 [.ref (xad G 0), .int a1, .int a2] (xM σ) (some (.int r)) (xM τ) := by
  refine xC_of (by decide) rfl (Nat.le_refl _) (Nat.le_of_ble_eq_true rfl) (fun K hC hE hR _ => ?_)
  refine x_iload_n hC dX8_keep_0 rfl (j := 1) rfl <| x_callS hC hR dX8_keep_1 mK_X8_isShelf wml_X8_141 (C_X8_isShelf (a0 := a1) (σ := σ)) (by omega) rfl (Nat.le_of_ble_eq_true rfl) rfl rfl rfl <| ?_
  refine x_if_eq (tgt := 23) hC dX8_keep_4 (by decide) (fun c2 => ?_) (fun c2 => ?_)
  · replace h := (if_pos c2).symm.trans h
    refine x_iconst (v := (-1 : Int32)) hC dX8_keep_23 (by decide) <| ?_
    obtain ⟨e1, e2⟩ := xso2 h
    subst e1
    subst e2
    exact x_iret (rest := []) hC hE rfl dX8_keep_24
  · replace h := (if_neg c2).symm.trans h
    refine x_iload_n hC dX8_keep_7 rfl (j := 2) rfl <| x_iconst (v := (-1 : Int32)) hC dX8_keep_8 (by decide) <| ?_
    refine x_icmp_eq (tgt := 25) hC dX8_keep_9 (by decide) (fun c3 => ?_) (fun c3 => ?_)
    · replace h := (if_pos c3).symm.trans h
      refine x_sub [0, 1, 2] rfl ?_
      exact B_X8_keep_25 hC hR hE a1 a2 σ h
    · replace h := (if_neg c3).symm.trans h
      refine x_aload_n hC dX8_keep_12 rfl (j := 0) rfl <| s_getR (q := 40) hC dX8_keep_13 wfl_X8_75 rfl (by decide) (by decide) (by decide) (by decide) (by decide) <| x_iload_n hC dX8_keep_16 rfl (j := 2) rfl <| x_callV hC hR dX8_keep_17 mK_X7_has wml_X8_298 (C_X7_has (a1 := a2) (σ := σ)) (by omega) rfl (by decide) rfl rfl (xlt (by decide)) rfl (Nat.le_of_ble_eq_true rfl) rfl rfl rfl <| ?_
      refine x_if_ne (tgt := 25) hC dX8_keep_20 (by decide) (fun c10 => ?_) (fun c10 => ?_)
      · replace h := (if_neg c10).symm.trans h
        refine x_sub [0, 1, 2] rfl ?_
        exact B_X8_keep_25 hC hR hE a1 a2 σ h
      · replace h := (if_pos c10).symm.trans h
        refine x_iconst (v := (-1 : Int32)) hC dX8_keep_23 (by decide) <| ?_
        obtain ⟨e1, e2⟩ := xso2 h
        subst e1
        subst e2
        exact x_iret (rest := []) hC hE rfl dX8_keep_24
set_option maxRecDepth 100000 in
set_option maxHeartbeats 4000000 in
theorem B_X8_lasts_28 {G : xG} {l : Launch} {K : xK} {r : Int32} {τ : xS2} (hC : xCX G mM_X8_lasts K) (hR : xRd K 4) (hE : xE G K (some (.int r)) (xM τ)) : ∀ (f : Nat) (l1 : Int32) (l2 : Int32) (σ : xS2), J_X8_lasts_28 f l1 l2 σ = some (r, τ) → xV G l mM_X8_lasts K 28 [(0, .ref (xad G 0)), (1, .int l1), (2, .int l2)] [] (xM σ) := by
  intro f
  induction f with
  | zero => intro l1 l2 σ h; cases h
  | succ f ih =>
    intro l1 l2 σ h
    refine x_iload_n hC dX8_lasts_28 rfl (j := 2) rfl <| x_bipush (v := (60 : Int32)) hC dX8_lasts_29 (by decide) <| ?_
    refine x_icmp_ge (tgt := 88) hC dX8_lasts_31 (by decide) (fun c4 => ?_) (fun c4 => ?_)
    · replace h := (if_pos c4).symm.trans h
      refine x_bipush (v := (-2 : Int32)) hC dX8_lasts_88 (by decide) <| ?_
      obtain ⟨e1, e2⟩ := xso2 h
      subst e1
      subst e2
      exact x_iret (rest := []) hC hE rfl dX8_lasts_90
    · replace h := (if_neg c4).symm.trans h
      refine x_aload_n hC dX8_lasts_34 rfl (j := 0) rfl <| s_getR (q := 4) hC dX8_lasts_35 wfl_X8_23 rfl (by decide) (by decide) (by decide) (by decide) (by decide) <| x_aload_n hC dX8_lasts_38 rfl (j := 0) rfl <| s_getR (q := 1) hC dX8_lasts_39 wfl_X8_10 rfl (by decide) (by decide) (by decide) (by decide) (by decide) <| x_iload_n hC dX8_lasts_42 rfl (j := 2) rfl <| x_iconst (v := (0 : Int32)) hC dX8_lasts_43 (by decide) <| ?_
      refine x_iconst (v := (0 : Int32)) hC dX8_lasts_44 (by decide) <| x_aload_n hC dX8_lasts_45 rfl (j := 0) rfl <| s_getR (q := 1) hC dX8_lasts_46 wfl_X8_10 rfl (by decide) (by decide) (by decide) (by decide) (by decide) <| x_iload_n hC dX8_lasts_49 rfl (j := 2) rfl <| ?_
      obtain ⟨x5, h5, h⟩ := Option.bind_eq_some_iff.mp h
      refine x_callV hC hR dX8_lasts_50 mK_X3_sun wml_X8_240 (C_X3_sun (a1 := l2) (σ := σ) h5) (by omega) rfl (by decide) rfl rfl (xlt (by decide)) rfl (Nat.le_of_ble_eq_true rfl) rfl rfl rfl <| ?_
      refine x_iload_n hC dX8_lasts_53 rfl (j := 1) rfl <| x_isub hC dX8_lasts_54 <| x_mmax hC hR (by omega) dX8_lasts_55 wml_X8_243 (Nat.le_of_ble_eq_true rfl) <| x_aload_n hC dX8_lasts_58 rfl (j := 0) rfl <| s_getR (q := 1) hC dX8_lasts_59 wfl_X8_10 rfl (by decide) (by decide) (by decide) (by decide) (by decide) <| x_iload_n hC dX8_lasts_62 rfl (j := 2) rfl <| ?_
      obtain ⟨x6, h6, h⟩ := Option.bind_eq_some_iff.mp h
      refine x_callV hC hR dX8_lasts_63 mK_X3_wind wml_X8_246 (C_X3_wind (a1 := l2) (σ := σ) h6) (by omega) rfl (by decide) rfl rfl (xlt (by decide)) rfl (Nat.le_of_ble_eq_true rfl) rfl rfl rfl <| ?_
      obtain ⟨x7, h7, h⟩ := Option.bind_eq_some_iff.mp h
      refine x_callV hC hR dX8_lasts_66 mK_X0_liveUnder wml_X8_249 (C_X0_liveUnder (a0 := 4) (a2 := l2) (a3 := (0 : Int32)) (a4 := (xmax (0 : Int32) (x5 - l1))) (a5 := x6) (σ := σ) rfl h7) (by omega) rfl (by decide) rfl rfl (xlt (by decide)) rfl (Nat.le_of_ble_eq_true rfl) rfl rfl rfl <| ?_
      refine x_pop hC dX8_lasts_69 rfl <| x_aload_n hC dX8_lasts_70 rfl (j := 0) rfl <| s_getR (q := 4) hC dX8_lasts_71 wfl_X8_23 rfl (by decide) (by decide) (by decide) (by decide) (by decide) <| s_getI hC dX8_lasts_74 wfl_X8_125 rfl (by decide) (by decide) (by decide) (by decide) <| ?_
      refine x_if_ne (tgt := 82) hC dX8_lasts_77 (by decide) (fun c8 => ?_) (fun c8 => ?_)
      · replace h := (if_neg c8).symm.trans h
        refine x_iinc hC dX8_lasts_82 (j := 2) (v := (l2 + (1 : Int32))) rfl rfl (by decide) rfl <| x_goto (tgt := 28) hC dX8_lasts_85 (by decide) <| ?_
        refine x_sub [1, 2, 0] rfl ?_
        exact ih l1 (l2 + (1 : Int32)) x7.2 h
      · replace h := (if_pos c8).symm.trans h
        refine x_iload_n hC dX8_lasts_80 rfl (j := 2) rfl <| ?_
        obtain ⟨e1, e2⟩ := xso2 h
        subst e1
        subst e2
        exact x_iret (rest := []) hC hE rfl dX8_lasts_81
set_option maxRecDepth 100000 in
set_option maxHeartbeats 4000000 in
theorem C_X8_lasts {G : xG} {l : Launch} {a1 : Int32} {σ : xS2} {r : Int32} {τ : xS2} (h : J_X8_lasts a1 σ = some (r, τ)) : xC G l mM_X8_lasts 4 [.ref (xad G 0), .int a1] (xM σ) (some (.int r)) (xM τ) := by
  refine xC_of (by decide) rfl (Nat.le_refl _) (Nat.le_of_ble_eq_true rfl) (fun K hC hE hR _ => ?_)
  refine x_iload_n hC dX8_lasts_0 rfl (j := 1) rfl <| ?_
  refine x_if_lt (tgt := 10) hC dX8_lasts_1 (by decide) (fun c1 => ?_) (fun c1 => ?_)
  · replace h := (if_pos c1).symm.trans h
    refine x_iconst (v := (-1 : Int32)) hC dX8_lasts_10 (by decide) <| ?_
    obtain ⟨e1, e2⟩ := xso2 h
    subst e1
    subst e2
    exact x_iret (rest := []) hC hE rfl dX8_lasts_11
  · replace h := (if_neg c1).symm.trans h
    refine x_iload_n hC dX8_lasts_4 rfl (j := 1) rfl <| x_bipush (v := (20 : Int32)) hC dX8_lasts_5 (by decide) <| ?_
    refine x_icmp_le (tgt := 12) hC dX8_lasts_7 (by decide) (fun c2 => ?_) (fun c2 => ?_)
    · replace h := (if_pos c2).symm.trans h
      refine x_aload_n hC dX8_lasts_12 rfl (j := 0) rfl <| s_getR (q := 4) hC dX8_lasts_13 wfl_X8_23 rfl (by decide) (by decide) (by decide) (by decide) (by decide) <| x_aload_n hC dX8_lasts_16 rfl (j := 0) rfl <| s_getR (q := 3) hC dX8_lasts_17 wfl_X8_19 rfl (by decide) (by decide) (by decide) (by decide) (by decide) <| ?_
      obtain ⟨x3, h3, h⟩ := Option.bind_eq_some_iff.mp h
      refine x_callV hC hR dX8_lasts_20 mK_X0_become wml_X8_194 (C_X0_become (a0 := 4) (a1 := 3) (σ := σ) rfl rfl h3) (by omega) rfl (by decide) rfl rfl (xlt (by decide)) rfl (Nat.le_of_ble_eq_true rfl) rfl rfl rfl <| ?_
      refine x_aload_n hC dX8_lasts_23 rfl (j := 0) rfl <| s_getI hC dX8_lasts_24 wfl_X8_119 rfl (by decide) (by decide) (by decide) (by decide) <| x_istore_n hC dX8_lasts_27 rfl (by decide) rfl <| ?_
      refine x_sub [1, 2, 0] rfl ?_
      exact B_X8_lasts_28 hC hR hE xFU a1 (x3.1 0 12) x3 h
    · replace h := (if_neg c2).symm.trans h
      refine x_iconst (v := (-1 : Int32)) hC dX8_lasts_10 (by decide) <| ?_
      obtain ⟨e1, e2⟩ := xso2 h
      subst e1
      subst e2
      exact x_iret (rest := []) hC hE rfl dX8_lasts_11
set_option maxRecDepth 100000 in
set_option maxHeartbeats 4000000 in
theorem C_X8_law {G : xG} {l : Launch} {σ : xS2} {r : Int32} {τ : xS2} (h : J_X8_law σ = some (r, τ)) : xC G l mM_X8_law 105 [.ref (xad G 0)] (xM σ) (some (.int r)) (xM τ) := by
  refine xC_of (by decide) rfl (Nat.le_refl _) (Nat.le_of_ble_eq_true rfl) (fun K hC hE hR _ => ?_)
  refine x_aload_n hC dX8_law_0 rfl (j := 0) rfl <| s_getR (q := 8) hC dX8_law_1 wfl_X8_40 rfl (by decide) (by decide) (by decide) (by decide) (by decide) <| ?_
  obtain ⟨x1, h1, h⟩ := Option.bind_eq_some_iff.mp h
  refine x_callV hC hR dX8_law_4 mK_X2_become wml_X8_168 (C_X2_become (σ := σ) h1) (by omega) rfl (by decide) rfl rfl (xlt (by decide)) rfl (Nat.le_of_ble_eq_true rfl) rfl rfl rfl <| ?_
  refine x_istore_n hC dX8_law_7 rfl (by decide) rfl <| x_iload_n hC dX8_law_8 rfl (j := 0) rfl <| ?_
  refine x_if_ge (tgt := 16) hC dX8_law_9 (by decide) (fun c2 => ?_) (fun c2 => ?_)
  · replace h := (if_pos c2).symm.trans h
    refine x_bipush (v := (-100 : Int32)) hC dX8_law_16 (by decide) <| x_iload_n hC dX8_law_18 rfl (j := 0) rfl <| x_isub hC dX8_law_19 <| ?_
    obtain ⟨e1, e2⟩ := xso2 h
    subst e1
    subst e2
    exact x_iret (rest := []) hC hE rfl dX8_law_20
  · replace h := (if_neg c2).symm.trans h
    refine x_iconst (v := (1 : Int32)) hC dX8_law_12 (by decide) <| x_goto (tgt := 20) hC dX8_law_13 (by decide) <| ?_
    obtain ⟨e1, e2⟩ := xso2 h
    subst e1
    subst e2
    exact x_iret (rest := []) hC hE rfl dX8_law_20
set_option maxRecDepth 100000 in
set_option maxHeartbeats 4000000 in
theorem C_X8_thoughtOf {G : xG} {l : Launch} {a1 : Int32} {σ : xS2} : xC G l mM_X8_thoughtOf 1 [.ref (xad G 0), .int a1] (xM σ) (some (.int (J_X8_thoughtOf a1 σ))) (xM σ) := by
  refine xC_of (by decide) rfl (Nat.le_refl _) (Nat.le_of_ble_eq_true rfl) (fun K hC hE hR _ => ?_)
  obtain ⟨r, h⟩ : ∃ r, J_X8_thoughtOf a1 σ = r := ⟨_, rfl⟩
  rw [h] at hE
  refine x_iload_n hC dX8_thoughtOf_0 rfl (j := 1) rfl <| ?_
  by_cases c1 : a1 = (0 : Int32)
  · replace h := (if_pos c1).symm.trans h
    refine x_tsw (tgt := 28) hC dX8_thoughtOf_1 (by decide) (by rw [c1]; decide) ?_
    refine x_aload_n hC dX8_thoughtOf_28 rfl (j := 0) rfl <| s_getR (q := 4) hC dX8_thoughtOf_29 wfl_X8_23 rfl (by decide) (by decide) (by decide) (by decide) (by decide) <| s_getI hC dX8_thoughtOf_32 wfl_X8_122 rfl (by decide) (by decide) (by decide) (by decide) <| ?_
    subst h
    exact x_iret (rest := []) hC hE rfl dX8_thoughtOf_35
  · replace h := (if_neg c1).symm.trans h
    by_cases c2 : a1 = (1 : Int32)
    · replace h := (if_pos c2).symm.trans h
      refine x_tsw (tgt := 36) hC dX8_thoughtOf_1 (by decide) (by rw [c2]; decide) ?_
      refine x_aload_n hC dX8_thoughtOf_36 rfl (j := 0) rfl <| s_getR (q := 4) hC dX8_thoughtOf_37 wfl_X8_23 rfl (by decide) (by decide) (by decide) (by decide) (by decide) <| s_getI hC dX8_thoughtOf_40 wfl_X8_125 rfl (by decide) (by decide) (by decide) (by decide) <| ?_
      subst h
      exact x_iret (rest := []) hC hE rfl dX8_thoughtOf_43
    · replace h := (if_neg c2).symm.trans h
      by_cases c3 : a1 = (2 : Int32)
      · replace h := (if_pos c3).symm.trans h
        refine x_tsw (tgt := 44) hC dX8_thoughtOf_1 (by decide) (by rw [c3]; decide) ?_
        refine x_aload_n hC dX8_thoughtOf_44 rfl (j := 0) rfl <| s_getR (q := 4) hC dX8_thoughtOf_45 wfl_X8_23 rfl (by decide) (by decide) (by decide) (by decide) (by decide) <| s_getI hC dX8_thoughtOf_48 wfl_X8_128 rfl (by decide) (by decide) (by decide) (by decide) <| ?_
        subst h
        exact x_iret (rest := []) hC hE rfl dX8_thoughtOf_51
      · replace h := (if_neg c3).symm.trans h
        refine x_tsw (tgt := 52) hC dX8_thoughtOf_1 (by decide) ((xTs_else [0, 1, 2] (by decide) (by decide +kernel) (List.forall_mem_cons.mpr ⟨lv_neT c1 (by decide), (List.forall_mem_cons.mpr ⟨lv_neT c2 (by decide), (List.forall_mem_cons.mpr ⟨lv_neT c3 (by decide), (fun _ z => absurd z List.not_mem_nil)⟩)⟩)⟩)).trans (by decide)) ?_
        refine x_aload_n hC dX8_thoughtOf_52 rfl (j := 0) rfl <| s_getR (q := 4) hC dX8_thoughtOf_53 wfl_X8_23 rfl (by decide) (by decide) (by decide) (by decide) (by decide) <| s_getL hC dX8_thoughtOf_56 wfl_X8_131 rfl (by decide) (by decide) (by decide) (by decide) <| x_callS hC hR dX8_thoughtOf_59 mK_J13_bitCount_95d88 wml_X8_135 (C_J13_bitCount_95d88 (a0 := (σ.2 4 3)) (σ := σ)) (by omega) rfl (Nat.le_of_ble_eq_true rfl) rfl rfl rfl <| x_aload_n hC dX8_thoughtOf_62 rfl (j := 0) rfl <| s_getR (q := 3) hC dX8_thoughtOf_63 wfl_X8_19 rfl (by decide) (by decide) (by decide) (by decide) (by decide) <| ?_
        refine s_getL hC dX8_thoughtOf_66 wfl_X8_131 rfl (by decide) (by decide) (by decide) (by decide) <| x_callS hC hR dX8_thoughtOf_69 mK_J13_bitCount_95d88 wml_X8_135 (C_J13_bitCount_95d88 (a0 := (σ.2 3 3)) (σ := σ)) (by omega) rfl (Nat.le_of_ble_eq_true rfl) rfl rfl rfl <| x_isub hC dX8_thoughtOf_72 <| ?_
        subst h
        exact x_iret (rest := []) hC hE rfl dX8_thoughtOf_73
set_option maxRecDepth 100000 in
set_option maxHeartbeats 4000000 in
theorem B_X8_lawful_47 {G : xG} {l : Launch} {K : xK} {r : Int32} {τ : xS2} (hC : xCX G mM_X8_lawful K) (hR : xRd K 6) (hE : xE G K (some (.int r)) (xM τ)) : ∀ (f : Nat) (l1 : Int32) (l2 : Int32) (l3 : Int32) (σ : xS2), J_X8_lawful_47 f l1 l2 l3 σ = some (r, τ) → xV G l mM_X8_lawful K 47 [(0, .ref (xad G 0)), (1, .int l1), (2, .int l2), (3, .int l3)] [] (xM σ) := by
  intro f
  induction f with
  | zero => intro l1 l2 l3 σ h; cases h
  | succ f ih =>
    intro l1 l2 l3 σ h
    refine x_iload_n hC dX8_lawful_47 rfl (j := 3) rfl <| x_iload_n hC dX8_lawful_48 rfl (j := 1) rfl <| ?_
    refine x_icmp_ge (tgt := 97) hC dX8_lawful_49 (by decide) (fun c7 => ?_) (fun c7 => ?_)
    · replace h := (if_pos c7).symm.trans h
      refine x_aload_n hC dX8_lawful_97 rfl (j := 0) rfl <| x_iload_n hC dX8_lawful_98 rfl (j := 2) rfl <| x_callV hC hR dX8_lawful_99 mK_X8_thoughtOf wml_X8_201 (C_X8_thoughtOf (a1 := l2) (σ := σ)) (by omega) rfl (by decide) rfl rfl (xlt (by decide)) rfl (Nat.le_of_ble_eq_true rfl) rfl rfl rfl <| ?_
      obtain ⟨e1, e2⟩ := xso2 h
      subst e1
      subst e2
      exact x_iret (rest := []) hC hE rfl dX8_lawful_102
    · replace h := (if_neg c7).symm.trans h
      refine x_aload_n hC dX8_lawful_52 rfl (j := 0) rfl <| s_getR (q := 4) hC dX8_lawful_53 wfl_X8_23 rfl (by decide) (by decide) (by decide) (by decide) (by decide) <| x_aload_n hC dX8_lawful_56 rfl (j := 0) rfl <| s_getR (q := 1) hC dX8_lawful_57 wfl_X8_10 rfl (by decide) (by decide) (by decide) (by decide) (by decide) <| x_aload_n hC dX8_lawful_60 rfl (j := 0) rfl <| s_getI hC dX8_lawful_61 wfl_X8_119 rfl (by decide) (by decide) (by decide) (by decide) <| ?_
      refine x_iload_n hC dX8_lawful_64 rfl (j := 3) rfl <| x_iadd hC dX8_lawful_65 <| x_aload_n hC dX8_lawful_66 rfl (j := 0) rfl <| s_getR (q := 8) hC dX8_lawful_67 wfl_X8_40 rfl (by decide) (by decide) (by decide) (by decide) (by decide) <| x_aload_n hC dX8_lawful_70 rfl (j := 0) rfl <| s_getR (q := 1) hC dX8_lawful_71 wfl_X8_10 rfl (by decide) (by decide) (by decide) (by decide) (by decide) <| ?_
      refine x_aload_n hC dX8_lawful_74 rfl (j := 0) rfl <| s_getR (q := 4) hC dX8_lawful_75 wfl_X8_23 rfl (by decide) (by decide) (by decide) (by decide) (by decide) <| x_aload_n hC dX8_lawful_78 rfl (j := 0) rfl <| s_getI hC dX8_lawful_79 wfl_X8_119 rfl (by decide) (by decide) (by decide) (by decide) <| x_iload_n hC dX8_lawful_82 rfl (j := 3) rfl <| x_iadd hC dX8_lawful_83 <| ?_
      obtain ⟨x9, h9, h⟩ := Option.bind_eq_some_iff.mp h
      refine x_callV hC hR dX8_lawful_84 mK_X2_orderFor wml_X8_178 (C_X2_orderFor (a2 := 4) (a3 := ((σ.1 0 12) + l3)) (σ := σ) rfl h9) (by omega) rfl (by decide) rfl rfl (xlt (by decide)) rfl (Nat.le_of_ble_eq_true rfl) rfl rfl rfl <| ?_
      obtain ⟨x10, h10, h⟩ := Option.bind_eq_some_iff.mp h
      refine x_callV hC hR dX8_lawful_87 mK_X0_live wml_X8_185 (C_X0_live (a0 := 4) (a2 := ((σ.1 0 12) + l3)) (a3 := x9.1) (σ := x9.2) rfl h10) (by omega) rfl (by decide) rfl rfl (xlt (by decide)) rfl (Nat.le_of_ble_eq_true rfl) rfl rfl rfl <| ?_
      refine x_pop hC dX8_lawful_90 rfl <| x_iinc hC dX8_lawful_91 (j := 3) (v := (l3 + (1 : Int32))) rfl rfl (by decide) rfl <| x_goto (tgt := 47) hC dX8_lawful_94 (by decide) <| ?_
      refine x_sub [1, 2, 3, 0] rfl ?_
      exact ih l1 l2 (l3 + (1 : Int32)) x10.2 h
set_option maxRecDepth 100000 in
set_option maxHeartbeats 4000000 in
theorem C_X8_lawful {G : xG} {l : Launch} {a1 : Int32} {a2 : Int32} {σ : xS2} {r : Int32} {τ : xS2} (h : J_X8_lawful a1 a2 σ = some (r, τ)) : xC G l mM_X8_lawful 6 [.ref (xad G 0), .int a1, .int a2] (xM σ) (some (.int r)) (xM τ) := by
  refine xC_of (by decide) rfl (Nat.le_refl _) (Nat.le_of_ble_eq_true rfl) (fun K hC hE hR _ => ?_)
  refine x_iload_n hC dX8_lawful_0 rfl (j := 1) rfl <| ?_
  refine x_if_lt (tgt := 18) hC dX8_lawful_1 (by decide) (fun c1 => ?_) (fun c1 => ?_)
  · replace h := (if_pos c1).symm.trans h
    refine x_iconst (v := (-1 : Int32)) hC dX8_lawful_18 (by decide) <| ?_
    obtain ⟨e1, e2⟩ := xso2 h
    subst e1
    subst e2
    exact x_iret (rest := []) hC hE rfl dX8_lawful_19
  · replace h := (if_neg c1).symm.trans h
    refine x_iload_n hC dX8_lawful_4 rfl (j := 1) rfl <| x_bipush (v := (60 : Int32)) hC dX8_lawful_5 (by decide) <| ?_
    refine x_icmp_gt (tgt := 18) hC dX8_lawful_7 (by decide) (fun c2 => ?_) (fun c2 => ?_)
    · replace h := (if_pos c2).symm.trans h
      refine x_iconst (v := (-1 : Int32)) hC dX8_lawful_18 (by decide) <| ?_
      obtain ⟨e1, e2⟩ := xso2 h
      subst e1
      subst e2
      exact x_iret (rest := []) hC hE rfl dX8_lawful_19
    · replace h := (if_neg c2).symm.trans h
      refine x_iload_n hC dX8_lawful_10 rfl (j := 2) rfl <| x_iconst (v := (4 : Int32)) hC dX8_lawful_11 (by decide) <| x_callS hC hR dX8_lawful_12 mK_X8_isOneOf wml_X8_188 (C_X8_isOneOf (a0 := a2) (a1 := (4 : Int32)) (σ := σ)) (by omega) rfl (Nat.le_of_ble_eq_true rfl) rfl rfl rfl <| ?_
      refine x_if_ne (tgt := 20) hC dX8_lawful_15 (by decide) (fun c4 => ?_) (fun c4 => ?_)
      · replace h := (if_neg c4).symm.trans h
        refine x_iload_n hC dX8_lawful_20 rfl (j := 1) rfl <| x_bipush (v := (60 : Int32)) hC dX8_lawful_21 (by decide) <| x_aload_n hC dX8_lawful_23 rfl (j := 0) rfl <| s_getI hC dX8_lawful_24 wfl_X8_119 rfl (by decide) (by decide) (by decide) (by decide) <| x_isub hC dX8_lawful_27 <| ?_
        refine x_icmp_le (tgt := 34) hC dX8_lawful_28 (by decide) (fun c5 => ?_) (fun c5 => ?_)
        · replace h := (if_pos c5).symm.trans h
          refine x_aload_n hC dX8_lawful_34 rfl (j := 0) rfl <| s_getR (q := 4) hC dX8_lawful_35 wfl_X8_23 rfl (by decide) (by decide) (by decide) (by decide) (by decide) <| x_aload_n hC dX8_lawful_38 rfl (j := 0) rfl <| s_getR (q := 3) hC dX8_lawful_39 wfl_X8_19 rfl (by decide) (by decide) (by decide) (by decide) (by decide) <| ?_
          obtain ⟨x6, h6, h⟩ := Option.bind_eq_some_iff.mp h
          refine x_callV hC hR dX8_lawful_42 mK_X0_become wml_X8_194 (C_X0_become (a0 := 4) (a1 := 3) (σ := σ) rfl rfl h6) (by omega) rfl (by decide) rfl rfl (xlt (by decide)) rfl (Nat.le_of_ble_eq_true rfl) rfl rfl rfl <| ?_
          refine x_iconst (v := (0 : Int32)) hC dX8_lawful_45 (by decide) <| x_istore_n hC dX8_lawful_46 rfl (by decide) rfl <| ?_
          refine x_sub [1, 2, 3, 0] rfl ?_
          exact B_X8_lawful_47 hC hR hE xFU a1 a2 (0 : Int32) x6 h
        · replace h := (if_neg c5).symm.trans h
          refine x_bipush (v := (-5 : Int32)) hC dX8_lawful_31 (by decide) <| ?_
          obtain ⟨e1, e2⟩ := xso2 h
          subst e1
          subst e2
          exact x_iret (rest := []) hC hE rfl dX8_lawful_33
      · replace h := (if_pos c4).symm.trans h
        refine x_iconst (v := (-1 : Int32)) hC dX8_lawful_18 (by decide) <| ?_
        obtain ⟨e1, e2⟩ := xso2 h
        subst e1
        subst e2
        exact x_iret (rest := []) hC hE rfl dX8_lawful_19
set_option maxRecDepth 100000 in
set_option maxHeartbeats 4000000 in
theorem C_X8_led {G : xG} {l : Launch} {a1 : Int32} {a2 : Int32} {σ : xS2} {r : Int32} (h : J_X8_led a1 a2 σ = some r) : xC G l mM_X8_led 1 [.ref (xad G 0), .int a1, .int a2] (xM σ) (some (.int r)) (xM σ) := by
  refine xC_of (by decide) rfl (Nat.le_refl _) (Nat.le_of_ble_eq_true rfl) (fun K hC hE hR _ => ?_)
  refine x_iload_n hC dX8_led_0 rfl (j := 1) rfl <| ?_
  refine x_if_lt (tgt := 26) hC dX8_led_1 (by decide) (fun c1 => ?_) (fun c1 => ?_)
  · replace h := (if_pos c1).symm.trans h
    refine x_iconst (v := (-1 : Int32)) hC dX8_led_26 (by decide) <| ?_
    have e1 := Option.some.inj h
    subst e1
    exact x_iret (rest := []) hC hE rfl dX8_led_27
  · replace h := (if_neg c1).symm.trans h
    refine x_iload_n hC dX8_led_4 rfl (j := 1) rfl <| x_aload_n hC dX8_led_5 rfl (j := 0) rfl <| s_getI hC dX8_led_6 wfl_X8_119 rfl (by decide) (by decide) (by decide) (by decide) <| ?_
    refine x_icmp_ge (tgt := 26) hC dX8_led_9 (by decide) (fun c2 => ?_) (fun c2 => ?_)
    · replace h := (if_pos c2).symm.trans h
      refine x_iconst (v := (-1 : Int32)) hC dX8_led_26 (by decide) <| ?_
      have e1 := Option.some.inj h
      subst e1
      exact x_iret (rest := []) hC hE rfl dX8_led_27
    · replace h := (if_neg c2).symm.trans h
      refine x_iload_n hC dX8_led_12 rfl (j := 1) rfl <| x_bipush (v := (60 : Int32)) hC dX8_led_13 (by decide) <| ?_
      refine x_icmp_ge (tgt := 26) hC dX8_led_15 (by decide) (fun c3 => ?_) (fun c3 => ?_)
      · replace h := (if_pos c3).symm.trans h
        refine x_iconst (v := (-1 : Int32)) hC dX8_led_26 (by decide) <| ?_
        have e1 := Option.some.inj h
        subst e1
        exact x_iret (rest := []) hC hE rfl dX8_led_27
      · replace h := (if_neg c3).symm.trans h
        refine x_iload_n hC dX8_led_18 rfl (j := 2) rfl <| x_iconst (v := (2 : Int32)) hC dX8_led_19 (by decide) <| x_callS hC hR dX8_led_20 mK_X8_isOneOf wml_X8_188 (C_X8_isOneOf (a0 := a2) (a1 := (2 : Int32)) (σ := σ)) (by omega) rfl (Nat.le_of_ble_eq_true rfl) rfl rfl rfl <| ?_
        refine x_if_ne (tgt := 28) hC dX8_led_23 (by decide) (fun c5 => ?_) (fun c5 => ?_)
        · replace h := (if_neg c5).symm.trans h
          refine x_iload_n hC dX8_led_28 rfl (j := 2) rfl <| ?_
          refine x_if_ne (tgt := 39) hC dX8_led_29 (by decide) (fun c6 => ?_) (fun c6 => ?_)
          · replace h := (if_neg c6).symm.trans h
            refine x_aload_n hC dX8_led_39 rfl (j := 0) rfl <| s_getR (q := 7) hC dX8_led_40 wfl_X8_33 rfl (by decide) (by decide) (by decide) (by decide) (by decide) <| x_iload_n hC dX8_led_43 rfl (j := 1) rfl <| ?_
            obtain ⟨h7, h⟩ := xgd_some h
            refine s_zald hC dX8_led_44 rfl (by decide) h7 <| ?_
            refine x_if_eq (tgt := 52) hC dX8_led_45 (by decide) (fun c8 => ?_) (fun c8 => ?_)
            · replace h := (if_pos c8).symm.trans h
              refine x_iconst (v := (0 : Int32)) hC dX8_led_52 (by decide) <| ?_
              have e1 := Option.some.inj h
              subst e1
              exact x_iret (rest := []) hC hE rfl dX8_led_53
            · replace h := (if_neg c8).symm.trans h
              refine x_iconst (v := (1 : Int32)) hC dX8_led_48 (by decide) <| x_goto (tgt := 53) hC dX8_led_49 (by decide) <| ?_
              have e1 := Option.some.inj h
              subst e1
              exact x_iret (rest := []) hC hE rfl dX8_led_53
          · replace h := (if_pos c6).symm.trans h
            refine x_aload_n hC dX8_led_32 rfl (j := 0) rfl <| s_getR (q := 6) hC dX8_led_33 wfl_X8_29 rfl (by decide) (by decide) (by decide) (by decide) (by decide) <| x_iload_n hC dX8_led_36 rfl (j := 1) rfl <| ?_
            obtain ⟨h9, h⟩ := xgd_some h
            refine s_iald hC dX8_led_37 rfl (by decide) h9 <| ?_
            have e1 := Option.some.inj h
            subst e1
            exact x_iret (rest := []) hC hE rfl dX8_led_38
        · replace h := (if_pos c5).symm.trans h
          refine x_iconst (v := (-1 : Int32)) hC dX8_led_26 (by decide) <| ?_
          have e1 := Option.some.inj h
          subst e1
          exact x_iret (rest := []) hC hE rfl dX8_led_27
set_option maxRecDepth 100000 in
set_option maxHeartbeats 4000000 in
theorem B_X8_line_80 {G : xG} {l : Launch} {K : xK} {r : Int64} {σ : xS2} (hC : xCX G mM_X8_line K) (hR : xRd K 3) (hE : xE G K (some (.long r)) (xM σ)) {k39 : Int32 → Int32 → Int64 → Int64 → Int32 → xS2 → Option Int64} (hk39 : ∀ (l1 : Int32) (l2 : Int32) (l3 : Int64) (l5 : Int64) (l7 : Int32), k39 l1 l2 l3 l5 l7 σ = some r → xV G l mM_X8_line K 39 [(0, .ref (xad G 0)), (1, .int l1), (2, .int l2), (3, .long l3), (5, .long l5), (7, .int l7)] [] (xM σ)) : ∀ (l1 : Int32) (l2 : Int32) (l3 : Int64) (l5 : Int64) (l7 : Int32), J_X8_line_80 k39 l1 l2 l3 l5 l7 σ = some r → xV G l mM_X8_line K 80 [(0, .ref (xad G 0)), (1, .int l1), (2, .int l2), (3, .long l3), (5, .long l5), (7, .int l7)] [] (xM σ) := by
  intro l1 l2 l3 l5 l7 h
  refine x_iinc hC dX8_line_80 (j := 5) (v := (l7 + (1 : Int32))) rfl rfl (by decide) rfl <| x_goto (tgt := 39) hC dX8_line_83 (by decide) <| ?_
  refine x_sub [1, 2, 3, 4, 5, 0] rfl ?_
  exact hk39 l1 l2 l3 l5 (l7 + (1 : Int32)) h
set_option maxRecDepth 100000 in
set_option maxHeartbeats 4000000 in
theorem B_X8_line_39 {G : xG} {l : Launch} {K : xK} {r : Int64} {σ : xS2} (hC : xCX G mM_X8_line K) (hR : xRd K 3) (hE : xE G K (some (.long r)) (xM σ)) : ∀ (f : Nat) (l1 : Int32) (l2 : Int32) (l3 : Int64) (l5 : Int64) (l7 : Int32), J_X8_line_39 f l1 l2 l3 l5 l7 σ = some r → xV G l mM_X8_line K 39 [(0, .ref (xad G 0)), (1, .int l1), (2, .int l2), (3, .long l3), (5, .long l5), (7, .int l7)] [] (xM σ) := by
  intro f
  induction f with
  | zero => intro l1 l2 l3 l5 l7 h; cases h
  | succ f ih =>
    intro l1 l2 l3 l5 l7 h
    refine x_iload hC dX8_line_39 (j := 5) rfl <| x_bipush (v := (36 : Int32)) hC dX8_line_41 (by decide) <| ?_
    refine x_icmp_ge (tgt := 86) hC dX8_line_43 (by decide) (fun c8 => ?_) (fun c8 => ?_)
    · replace h := (if_pos c8).symm.trans h
      refine x_iload_n hC dX8_line_86 rfl (j := 2) rfl <| ?_
      refine x_if_ne (tgt := 94) hC dX8_line_87 (by decide) (fun c9 => ?_) (fun c9 => ?_)
      · replace h := (if_neg c9).symm.trans h
        refine x_lload hC dX8_line_94 (j := 4) rfl <| ?_
        have e1 := Option.some.inj h
        subst e1
        exact x_lret (rest := []) hC hE rfl dX8_line_96
      · replace h := (if_pos c9).symm.trans h
        refine x_lload_n hC dX8_line_90 rfl (j := 3) rfl <| x_goto (tgt := 96) hC dX8_line_91 (by decide) <| ?_
        have e1 := Option.some.inj h
        subst e1
        exact x_lret (rest := []) hC hE rfl dX8_line_96
    · replace h := (if_neg c8).symm.trans h
      refine x_aload_n hC dX8_line_46 rfl (j := 0) rfl <| s_getR (q := 27) hC dX8_line_47 wfl_X8_67 rfl (by decide) (by decide) (by decide) (by decide) (by decide) <| x_iload_n hC dX8_line_50 rfl (j := 1) rfl <| ?_
      obtain ⟨h10, h⟩ := xgd_some h
      refine s_aldq (q := (28 + 2 * l1.toNatClampNeg)) hC dX8_line_51 rfl (by decide) h10 (xsh_rq h10) <| ?_
      refine x_iload hC dX8_line_52 (j := 5) rfl <| ?_
      obtain ⟨x11, h11, h⟩ := Option.bind_eq_some_iff.mp h
      refine x_callS hC hR dX8_line_54 mK_X8_endOfLine wml_X8_268 (C_X8_endOfLine (a0 := (28 + 2 * l1.toNatClampNeg)) (a1 := l7) (σ := σ) (xsh_at h10) h11) (by omega) rfl (Nat.le_of_ble_eq_true rfl) rfl rfl rfl <| ?_
      refine x_istore hC dX8_line_57 (by decide) rfl <| x_iload hC dX8_line_59 (j := 0) rfl <| ?_
      refine x_if_lt (tgt := 80) hC dX8_line_61 (by decide) (fun c12 => ?_) (fun c12 => ?_)
      · replace h := (if_pos c12).symm.trans h
        refine x_sub [1, 2, 3, 4, 5, 6] rfl ?_
        exact B_X8_line_80 hC hR hE ih l1 l2 l3 l5 l7 h
      · replace h := (if_neg c12).symm.trans h
        refine x_lload_n hC dX8_line_64 rfl (j := 4) rfl <| x_lconst (v := (1 : Int64)) hC dX8_line_65 (by decide) <| x_iload hC dX8_line_66 (j := 6) rfl <| x_lshl (v := (xls (1 : Int64) l7)) hC dX8_line_68 rfl <| x_lor hC dX8_line_69 <| x_lstore_n hC dX8_line_70 rfl (by decide) rfl <| ?_
        refine x_lload hC dX8_line_71 (j := 5) rfl <| x_lconst (v := (1 : Int64)) hC dX8_line_73 (by decide) <| x_iload hC dX8_line_74 (j := 1) rfl <| x_lshl (v := (xls (1 : Int64) x11)) hC dX8_line_76 rfl <| x_lor hC dX8_line_77 <| x_lstore hC dX8_line_78 (by decide) rfl <| ?_
        refine x_sub [3, 4, 5, 1, 0, 6] rfl ?_
        exact B_X8_line_80 hC hR hE ih l1 l2 (l3 ||| (xls (1 : Int64) l7)) (l5 ||| (xls (1 : Int64) x11)) l7 h
set_option maxRecDepth 100000 in
set_option maxHeartbeats 4000000 in
theorem C_X8_line {G : xG} {l : Launch} {a1 : Int32} {a2 : Int32} {σ : xS2} {r : Int64} (h : J_X8_line a1 a2 σ = some r) : xC G l mM_X8_line 3 [.ref (xad G 0), .int a1, .int a2] (xM σ) (some (.long r)) (xM σ) := by
  refine xC_of (by decide) rfl (Nat.le_refl _) (Nat.le_of_ble_eq_true rfl) (fun K hC hE hR _ => ?_)
  refine x_iload_n hC dX8_line_0 rfl (j := 1) rfl <| x_callS hC hR dX8_line_1 mK_X8_isShelf wml_X8_141 (C_X8_isShelf (a0 := a1) (σ := σ)) (by omega) rfl (Nat.le_of_ble_eq_true rfl) rfl rfl rfl <| ?_
  refine x_if_eq (tgt := 27) hC dX8_line_4 (by decide) (fun c2 => ?_) (fun c2 => ?_)
  · replace h := (if_pos c2).symm.trans h
    refine x_ldc2 hC dX8_line_27 wconstL_X8_253 <| ?_
    have e1 := Option.some.inj h
    subst e1
    exact x_lret (rest := []) hC hE rfl dX8_line_30
  · replace h := (if_neg c2).symm.trans h
    refine x_iload_n hC dX8_line_7 rfl (j := 2) rfl <| x_iconst (v := (2 : Int32)) hC dX8_line_8 (by decide) <| x_callS hC hR dX8_line_9 mK_X8_isOneOf wml_X8_188 (C_X8_isOneOf (a0 := a2) (a1 := (2 : Int32)) (σ := σ)) (by omega) rfl (Nat.le_of_ble_eq_true rfl) rfl rfl rfl <| ?_
    refine x_if_eq (tgt := 27) hC dX8_line_12 (by decide) (fun c4 => ?_) (fun c4 => ?_)
    · replace h := (if_pos c4).symm.trans h
      refine x_ldc2 hC dX8_line_27 wconstL_X8_253 <| ?_
      have e1 := Option.some.inj h
      subst e1
      exact x_lret (rest := []) hC hE rfl dX8_line_30
    · replace h := (if_neg c4).symm.trans h
      refine x_aload_n hC dX8_line_15 rfl (j := 0) rfl <| s_getR (q := 27) hC dX8_line_16 wfl_X8_67 rfl (by decide) (by decide) (by decide) (by decide) (by decide) <| x_iload_n hC dX8_line_19 rfl (j := 1) rfl <| ?_
      obtain ⟨h5, h⟩ := xgd_some h
      refine s_aldq (q := (28 + 2 * a1.toNatClampNeg)) hC dX8_line_20 rfl (by decide) h5 (xsh_rq h5) <| ?_
      refine x_callV hC hR dX8_line_21 mK_X5_isBytes wml_X8_148 (C_X5_isBytes (a0 := (28 + 2 * a1.toNatClampNeg)) (σ := σ) (xsh_at h5)) (by omega) (xsh_at h5) (by decide) rfl rfl (xlo (xsh_at h5) (by decide)) rfl (Nat.le_of_ble_eq_true rfl) rfl rfl rfl <| ?_
      refine x_if_ne (tgt := 31) hC dX8_line_24 (by decide) (fun c7 => ?_) (fun c7 => ?_)
      · replace h := (if_neg c7).symm.trans h
        refine x_lconst (v := (0 : Int64)) hC dX8_line_31 (by decide) <| x_lstore_n hC dX8_line_32 rfl (by decide) rfl <| x_lconst (v := (0 : Int64)) hC dX8_line_33 (by decide) <| x_lstore hC dX8_line_34 (by decide) rfl <| x_iconst (v := (0 : Int32)) hC dX8_line_36 (by decide) <| x_istore hC dX8_line_37 (by decide) rfl <| ?_
        refine x_sub [3, 4, 5, 2, 1, 0] rfl ?_
        exact B_X8_line_39 hC hR hE xFU a1 a2 (0 : Int64) (0 : Int64) (0 : Int32) h
      · replace h := (if_pos c7).symm.trans h
        refine x_ldc2 hC dX8_line_27 wconstL_X8_253 <| ?_
        have e1 := Option.some.inj h
        subst e1
        exact x_lret (rest := []) hC hE rfl dX8_line_30
set_option maxRecDepth 100000 in
set_option maxHeartbeats 4000000 in
theorem C_X8_mend {G : xG} {l : Launch} {a1 : Int32} {a2 : Int32} {a3 : Int32} {σ : xS2} {r : Int32} {τ : xS2} (h : J_X8_mend a1 a2 a3 σ = some (r, τ)) : xC G l mM_X8_mend 3 [.ref (xad G 0), .int a1, .int a2, .int a3] (xM σ) (some (.int r)) (xM τ) := by
  refine xC_of (by decide) rfl (Nat.le_refl _) (Nat.le_of_ble_eq_true rfl) (fun K hC hE hR _ => ?_)
  refine x_iload_n hC dX8_mend_0 rfl (j := 1) rfl <| x_iload_n hC dX8_mend_1 rfl (j := 2) rfl <| ?_
  obtain ⟨x1, h1, h⟩ := Option.bind_eq_some_iff.mp h
  refine x_callS hC hR dX8_mend_2 mK_X3_place wml_X8_83 (C_X3_place (a0 := a1) (a1 := a2) (σ := σ) h1) (by omega) rfl (Nat.le_of_ble_eq_true rfl) rfl rfl rfl <| ?_
  refine x_istore hC dX8_mend_5 (by decide) rfl <| x_iload hC dX8_mend_7 (j := 0) rfl <| ?_
  refine x_if_lt (tgt := 20) hC dX8_mend_9 (by decide) (fun c2 => ?_) (fun c2 => ?_)
  · replace h := (if_pos c2).symm.trans h
    refine x_iconst (v := (-1 : Int32)) hC dX8_mend_20 (by decide) <| ?_
    obtain ⟨e1, e2⟩ := xso2 h
    subst e1
    subst e2
    exact x_iret (rest := []) hC hE rfl dX8_mend_21
  · replace h := (if_neg c2).symm.trans h
    refine x_iload_n hC dX8_mend_12 rfl (j := 3) rfl <| x_iload_n hC dX8_mend_13 rfl (j := 4) rfl <| ?_
    obtain ⟨x3, h3, h⟩ := Option.bind_eq_some_iff.mp h
    refine x_callS hC hR dX8_mend_14 mK_X3_mayBe wml_X8_87 (C_X3_mayBe (a0 := a2) (a1 := a3) (σ := σ) h3) (by omega) rfl (Nat.le_of_ble_eq_true rfl) rfl rfl rfl <| ?_
    refine x_if_ne (tgt := 22) hC dX8_mend_17 (by decide) (fun c4 => ?_) (fun c4 => ?_)
    · replace h := (if_neg c4).symm.trans h
      refine x_aload_n hC dX8_mend_22 rfl (j := 1) rfl <| s_getR (q := 1) hC dX8_mend_23 wfl_X8_10 rfl (by decide) (by decide) (by decide) (by decide) (by decide) <| x_iload hC dX8_mend_26 (j := 0) rfl <| ?_
      obtain ⟨x5, h5, h⟩ := Option.bind_eq_some_iff.mp h
      refine x_callV hC hR dX8_mend_28 mK_X3_told wml_X8_91 (C_X3_told (a1 := x1) (σ := σ) h5) (by omega) rfl (by decide) rfl rfl (xlt (by decide)) rfl (Nat.le_of_ble_eq_true rfl) rfl rfl rfl <| ?_
      refine x_istore hC dX8_mend_31 (by decide) rfl <| x_iload hC dX8_mend_33 (j := 0) rfl <| x_iload_n hC dX8_mend_35 rfl (j := 5) rfl <| ?_
      refine x_icmp_eq (tgt := 61) hC dX8_mend_36 (by decide) (fun c6 => ?_) (fun c6 => ?_)
      · replace h := (if_pos c6).symm.trans h
        refine x_iload hC dX8_mend_61 (j := 0) rfl <| ?_
        obtain ⟨e1, e2⟩ := xso2 h
        subst e1
        subst e2
        exact x_iret (rest := []) hC hE rfl dX8_mend_63
      · replace h := (if_neg c6).symm.trans h
        refine x_aload_n hC dX8_mend_39 rfl (j := 2) rfl <| s_getR (q := 1) hC dX8_mend_40 wfl_X8_10 rfl (by decide) (by decide) (by decide) (by decide) (by decide) <| x_iload hC dX8_mend_43 (j := 1) rfl <| x_iload_n hC dX8_mend_45 rfl (j := 5) rfl <| ?_
        obtain ⟨x7, h7, h⟩ := Option.bind_eq_some_iff.mp h
        refine x_callV hC hR dX8_mend_46 mK_X3_tell wml_X8_95 (C_X3_tell (a1 := x1) (a2 := a3) (σ := σ) h7) (by omega) rfl (by decide) rfl rfl (xlt (by decide)) rfl (Nat.le_of_ble_eq_true rfl) rfl rfl rfl <| ?_
        refine x_aload_n hC dX8_mend_49 rfl (j := 2) rfl <| s_getR (q := 23) hC dX8_mend_50 wfl_X8_61 rfl (by decide) (by decide) (by decide) (by decide) (by decide) <| x_iload hC dX8_mend_53 (j := 1) rfl <| x_iload hC dX8_mend_55 (j := 0) rfl <| x_iload_n hC dX8_mend_57 rfl (j := 5) rfl <| ?_
        obtain ⟨x8, h8, h⟩ := Option.bind_eq_some_iff.mp h
        refine x_callV hC hR dX8_mend_58 mK_X1_note wml_X8_99 (C_X1_note (a1 := x1) (a2 := x5) (a3 := a3) (σ := x7) h8) (by omega) rfl (by decide) rfl rfl (xlt (by decide)) rfl (Nat.le_of_ble_eq_true rfl) rfl rfl rfl <| ?_
        refine x_iload hC dX8_mend_61 (j := 0) rfl <| ?_
        obtain ⟨e1, e2⟩ := xso2 h
        subst e1
        subst e2
        exact x_iret (rest := []) hC hE rfl dX8_mend_63
    · replace h := (if_pos c4).symm.trans h
      refine x_iconst (v := (-1 : Int32)) hC dX8_mend_20 (by decide) <| ?_
      obtain ⟨e1, e2⟩ := xso2 h
      subst e1
      subst e2
      exact x_iret (rest := []) hC hE rfl dX8_mend_21
set_option maxRecDepth 100000 in
set_option maxHeartbeats 4000000 in
theorem C_X8_ofCart {G : xG} {l : Launch} {a1 : Int32} {σ : xS2} : xC G l mM_X8_ofCart 1 [.ref (xad G 0), .int a1] (xM σ) (some (.int (J_X8_ofCart a1 σ))) (xM σ) := by
  refine xC_of (by decide) rfl (Nat.le_refl _) (Nat.le_of_ble_eq_true rfl) (fun K hC hE hR _ => ?_)
  obtain ⟨r, h⟩ : ∃ r, J_X8_ofCart a1 σ = r := ⟨_, rfl⟩
  rw [h] at hE
  refine x_iload_n hC dX8_ofCart_0 rfl (j := 1) rfl <| ?_
  by_cases c1 : a1 = (20 : Int32)
  · replace h := (if_pos c1).symm.trans h
    refine x_tsw (tgt := 36) hC dX8_ofCart_1 (by decide) (by rw [c1]; decide) ?_
    refine x_aload_n hC dX8_ofCart_36 rfl (j := 0) rfl <| s_getI hC dX8_ofCart_37 wfl_X8_119 rfl (by decide) (by decide) (by decide) (by decide) <| ?_
    subst h
    exact x_iret (rest := []) hC hE rfl dX8_ofCart_40
  · replace h := (if_neg c1).symm.trans h
    by_cases c2 : a1 = (21 : Int32)
    · replace h := (if_pos c2).symm.trans h
      refine x_tsw (tgt := 41) hC dX8_ofCart_1 (by decide) (by rw [c2]; decide) ?_
      refine x_aload_n hC dX8_ofCart_41 rfl (j := 0) rfl <| s_getR (q := 3) hC dX8_ofCart_42 wfl_X8_19 rfl (by decide) (by decide) (by decide) (by decide) (by decide) <| s_getI hC dX8_ofCart_45 wfl_X8_122 rfl (by decide) (by decide) (by decide) (by decide) <| ?_
      subst h
      exact x_iret (rest := []) hC hE rfl dX8_ofCart_48
    · replace h := (if_neg c2).symm.trans h
      by_cases c3 : a1 = (22 : Int32)
      · replace h := (if_pos c3).symm.trans h
        refine x_tsw (tgt := 49) hC dX8_ofCart_1 (by decide) (by rw [c3]; decide) ?_
        refine x_aload_n hC dX8_ofCart_49 rfl (j := 0) rfl <| s_getR (q := 3) hC dX8_ofCart_50 wfl_X8_19 rfl (by decide) (by decide) (by decide) (by decide) (by decide) <| s_getI hC dX8_ofCart_53 wfl_X8_125 rfl (by decide) (by decide) (by decide) (by decide) <| ?_
        subst h
        exact x_iret (rest := []) hC hE rfl dX8_ofCart_56
      · replace h := (if_neg c3).symm.trans h
        by_cases c4 : a1 = (23 : Int32)
        · replace h := (if_pos c4).symm.trans h
          refine x_tsw (tgt := 57) hC dX8_ofCart_1 (by decide) (by rw [c4]; decide) ?_
          refine x_aload_n hC dX8_ofCart_57 rfl (j := 0) rfl <| s_getR (q := 3) hC dX8_ofCart_58 wfl_X8_19 rfl (by decide) (by decide) (by decide) (by decide) (by decide) <| s_getI hC dX8_ofCart_61 wfl_X8_128 rfl (by decide) (by decide) (by decide) (by decide) <| ?_
          subst h
          exact x_iret (rest := []) hC hE rfl dX8_ofCart_64
        · replace h := (if_neg c4).symm.trans h
          by_cases c5 : a1 = (24 : Int32)
          · replace h := (if_pos c5).symm.trans h
            refine x_tsw (tgt := 65) hC dX8_ofCart_1 (by decide) (by rw [c5]; decide) ?_
            refine x_aload_n hC dX8_ofCart_65 rfl (j := 0) rfl <| s_getR (q := 3) hC dX8_ofCart_66 wfl_X8_19 rfl (by decide) (by decide) (by decide) (by decide) (by decide) <| s_getL hC dX8_ofCart_69 wfl_X8_131 rfl (by decide) (by decide) (by decide) (by decide) <| x_callS hC hR dX8_ofCart_72 mK_J13_bitCount_95d88 wml_X8_135 (C_J13_bitCount_95d88 (a0 := (σ.2 3 3)) (σ := σ)) (by omega) rfl (Nat.le_of_ble_eq_true rfl) rfl rfl rfl <| ?_
            subst h
            exact x_iret (rest := []) hC hE rfl dX8_ofCart_75
          · replace h := (if_neg c5).symm.trans h
            refine x_tsw (tgt := 76) hC dX8_ofCart_1 (by decide) ((xTs_else [20, 21, 22, 23, 24] (by decide) (by decide +kernel) (List.forall_mem_cons.mpr ⟨lv_neT c1 (by decide), (List.forall_mem_cons.mpr ⟨lv_neT c2 (by decide), (List.forall_mem_cons.mpr ⟨lv_neT c3 (by decide), (List.forall_mem_cons.mpr ⟨lv_neT c4 (by decide), (List.forall_mem_cons.mpr ⟨lv_neT c5 (by decide), (fun _ z => absurd z List.not_mem_nil)⟩)⟩)⟩)⟩)⟩)).trans (by decide)) ?_
            refine x_iconst (v := (-1 : Int32)) hC dX8_ofCart_76 (by decide) <| ?_
            subst h
            exact x_iret (rest := []) hC hE rfl dX8_ofCart_77
set_option maxRecDepth 100000 in
set_option maxHeartbeats 4000000 in
theorem B_X8_ofCell_34 {G : xG} {l : Launch} {K : xK} {r : Int32} {σ : xS2} (hC : xCX G mM_X8_ofCell K) (hR : xRd K 2) (hE : xE G K (some (.int r)) (xM σ)) : ∀ (s0 : Bool), J_X8_ofCell_34 s0 σ = some r → xV G l mM_X8_ofCell K 34 [] [.int (xb s0)] (xM σ) := by
  intro s0 h
  refine x_istore_n hC dX8_ofCell_34 rfl (by decide) rfl <| x_iload_n hC dX8_ofCell_35 rfl (j := 0) rfl <| ?_
  refine x_if_eq (tgt := 43) hC dX8_ofCell_36 (by decide) (fun c5 => ?_) (fun c5 => ?_)
  · replace h := (if_pos c5).symm.trans h
    refine x_iconst (v := (0 : Int32)) hC dX8_ofCell_43 (by decide) <| ?_
    have e1 := Option.some.inj h
    subst e1
    exact x_iret (rest := []) hC hE rfl dX8_ofCell_44
  · replace h := (if_neg c5).symm.trans h
    refine x_iconst (v := (1 : Int32)) hC dX8_ofCell_39 (by decide) <| x_goto (tgt := 44) hC dX8_ofCell_40 (by decide) <| ?_
    have e1 := Option.some.inj h
    subst e1
    exact x_iret (rest := []) hC hE rfl dX8_ofCell_44
set_option maxRecDepth 100000 in
set_option maxHeartbeats 4000000 in
theorem C_X8_ofCell {G : xG} {l : Launch} {a1 : Int32} {a2 : Int32} {σ : xS2} {r : Int32} (h : J_X8_ofCell a1 a2 σ = some r) : xC G l mM_X8_ofCell 2 [.ref (xad G 0), .int a1, .int a2] (xM σ) (some (.int r)) (xM σ) := by
  refine xC_of (by decide) rfl (Nat.le_refl _) (Nat.le_of_ble_eq_true rfl) (fun K hC hE hR _ => ?_)
  refine x_iload_n hC dX8_ofCell_0 rfl (j := 1) rfl <| x_callS hC hR dX8_ofCell_1 mK_X3_isCell wml_X8_109 (C_X3_isCell (a0 := a1) (σ := σ)) (by omega) rfl (Nat.le_of_ble_eq_true rfl) rfl rfl rfl <| ?_
  refine x_if_ne (tgt := 9) hC dX8_ofCell_4 (by decide) (fun c2 => ?_) (fun c2 => ?_)
  · replace h := (if_neg c2).symm.trans h
    refine x_iload_n hC dX8_ofCell_9 rfl (j := 2) rfl <| x_bipush (v := (10 : Int32)) hC dX8_ofCell_10 (by decide) <| ?_
    refine x_icmp_ne (tgt := 26) hC dX8_ofCell_12 (by decide) (fun c3 => ?_) (fun c3 => ?_)
    · replace h := (if_neg c3).symm.trans h
      refine x_aload_n hC dX8_ofCell_26 rfl (j := 0) rfl <| s_getR (q := 3) hC dX8_ofCell_27 wfl_X8_19 rfl (by decide) (by decide) (by decide) (by decide) (by decide) <| x_iload_n hC dX8_ofCell_30 rfl (j := 1) rfl <| x_callV hC hR dX8_ofCell_31 mK_X0_hasLookedAt wml_X8_116 (C_X0_hasLookedAt (a0 := 3) (a1 := a1) (σ := σ) rfl) (by omega) rfl (by decide) rfl rfl (xlt (by decide)) rfl (Nat.le_of_ble_eq_true rfl) rfl rfl rfl <| ?_
      refine x_sub [] rfl ?_
      exact B_X8_ofCell_34 hC hR hE (J_X0_hasLookedAt 3 a1 σ) h
    · replace h := (if_pos c3).symm.trans h
      refine x_aload_n hC dX8_ofCell_15 rfl (j := 0) rfl <| s_getR (q := 1) hC dX8_ofCell_16 wfl_X8_10 rfl (by decide) (by decide) (by decide) (by decide) (by decide) <| x_iload_n hC dX8_ofCell_19 rfl (j := 1) rfl <| ?_
      obtain ⟨x6, h6, h⟩ := Option.bind_eq_some_iff.mp h
      refine x_callV hC hR dX8_ofCell_20 mK_X3_isHollow wml_X8_113 (C_X3_isHollow (a1 := a1) (σ := σ) h6) (by omega) rfl (by decide) rfl rfl (xlt (by decide)) rfl (Nat.le_of_ble_eq_true rfl) rfl rfl rfl <| ?_
      refine x_goto (tgt := 34) hC dX8_ofCell_23 (by decide) <| ?_
      refine x_sub [] rfl ?_
      exact B_X8_ofCell_34 hC hR hE x6 h
  · replace h := (if_pos c2).symm.trans h
    refine x_iconst (v := (-1 : Int32)) hC dX8_ofCell_7 (by decide) <| ?_
    have e1 := Option.some.inj h
    subst e1
    exact x_iret (rest := []) hC hE rfl dX8_ofCell_8
set_option maxRecDepth 100000 in
set_option maxHeartbeats 4000000 in
theorem B_X8_of_31 {G : xG} {l : Launch} {K : xK} {r : Int32} {σ : xS2} (hC : xCX G mM_X8_of K) (hR : xRd K 3) (hE : xE G K (some (.int r)) (xM σ)) : ∀ (l1 : Int32) (l2 : Int32), J_X8_of_31 l1 l2 σ = some r → xV G l mM_X8_of K 31 [(0, .ref (xad G 0)), (1, .int l1), (2, .int l2)] [] (xM σ) := by
  intro l1 l2 h
  refine x_aload_n hC dX8_of_31 rfl (j := 0) rfl <| x_iload_n hC dX8_of_32 rfl (j := 1) rfl <| x_iload_n hC dX8_of_33 rfl (j := 2) rfl <| ?_
  obtain ⟨x4, h4, h⟩ := Option.bind_eq_some_iff.mp h
  refine x_callV hC hR dX8_of_34 mK_X8_ofCell wml_X8_103 (C_X8_ofCell (a1 := l1) (a2 := l2) (σ := σ) h4) (by omega) rfl (by decide) rfl rfl (xlt (by decide)) rfl (Nat.le_of_ble_eq_true rfl) rfl rfl rfl <| ?_
  have e1 := Option.some.inj h
  subst e1
  exact x_iret (rest := []) hC hE rfl dX8_of_37
set_option maxRecDepth 100000 in
set_option maxHeartbeats 4000000 in
theorem C_X8_of {G : xG} {l : Launch} {a1 : Int32} {a2 : Int32} {σ : xS2} {r : Int32} (h : J_X8_of a1 a2 σ = some r) : xC G l mM_X8_of 3 [.ref (xad G 0), .int a1, .int a2] (xM σ) (some (.int r)) (xM σ) := by
  refine xC_of (by decide) rfl (Nat.le_refl _) (Nat.le_of_ble_eq_true rfl) (fun K hC hE hR _ => ?_)
  refine x_iload_n hC dX8_of_0 rfl (j := 1) rfl <| x_iload_n hC dX8_of_1 rfl (j := 2) rfl <| ?_
  obtain ⟨x1, h1, h⟩ := Option.bind_eq_some_iff.mp h
  refine x_callS hC hR dX8_of_2 mK_X3_place wml_X8_83 (C_X3_place (a0 := a1) (a1 := a2) (σ := σ) h1) (by omega) rfl (Nat.le_of_ble_eq_true rfl) rfl rfl rfl <| ?_
  refine x_istore_n hC dX8_of_5 rfl (by decide) rfl <| x_iload_n hC dX8_of_6 rfl (j := 0) rfl <| ?_
  refine x_if_lt (tgt := 19) hC dX8_of_7 (by decide) (fun c2 => ?_) (fun c2 => ?_)
  · replace h := (if_pos c2).symm.trans h
    refine x_iload_n hC dX8_of_19 rfl (j := 3) rfl <| x_bipush (v := (10 : Int32)) hC dX8_of_20 (by decide) <| ?_
    refine x_icmp_eq (tgt := 31) hC dX8_of_22 (by decide) (fun c3 => ?_) (fun c3 => ?_)
    · replace h := (if_pos c3).symm.trans h
      refine x_sub [1, 2, 3] rfl ?_
      exact B_X8_of_31 hC hR hE a1 a2 h
    · replace h := (if_neg c3).symm.trans h
      refine x_iload_n hC dX8_of_25 rfl (j := 3) rfl <| x_bipush (v := (11 : Int32)) hC dX8_of_26 (by decide) <| ?_
      refine x_icmp_ne (tgt := 38) hC dX8_of_28 (by decide) (fun c5 => ?_) (fun c5 => ?_)
      · replace h := (if_neg c5).symm.trans h
        refine x_iload_n hC dX8_of_38 rfl (j := 2) rfl <| ?_
        refine x_if_ne (tgt := 50) hC dX8_of_39 (by decide) (fun c6 => ?_) (fun c6 => ?_)
        · replace h := (if_neg c6).symm.trans h
          refine x_iconst (v := (-1 : Int32)) hC dX8_of_50 (by decide) <| ?_
          have e1 := Option.some.inj h
          subst e1
          exact x_iret (rest := []) hC hE rfl dX8_of_51
        · replace h := (if_pos c6).symm.trans h
          refine x_aload_n hC dX8_of_42 rfl (j := 1) rfl <| x_iload_n hC dX8_of_43 rfl (j := 3) rfl <| x_callV hC hR dX8_of_44 mK_X8_ofCart wml_X8_106 (C_X8_ofCart (a1 := a2) (σ := σ)) (by omega) rfl (by decide) rfl rfl (xlt (by decide)) rfl (Nat.le_of_ble_eq_true rfl) rfl rfl rfl <| x_goto (tgt := 51) hC dX8_of_47 (by decide) <| ?_
          have e1 := Option.some.inj h
          subst e1
          exact x_iret (rest := []) hC hE rfl dX8_of_51
      · replace h := (if_pos c5).symm.trans h
        refine x_sub [1, 2, 3] rfl ?_
        exact B_X8_of_31 hC hR hE a1 a2 h
  · replace h := (if_neg c2).symm.trans h
    refine x_aload_n hC dX8_of_10 rfl (j := 1) rfl <| s_getR (q := 1) hC dX8_of_11 wfl_X8_10 rfl (by decide) (by decide) (by decide) (by decide) (by decide) <| x_iload_n hC dX8_of_14 rfl (j := 0) rfl <| ?_
    obtain ⟨x8, h8, h⟩ := Option.bind_eq_some_iff.mp h
    refine x_callV hC hR dX8_of_15 mK_X3_told wml_X8_91 (C_X3_told (a1 := x1) (σ := σ) h8) (by omega) rfl (by decide) rfl rfl (xlt (by decide)) rfl (Nat.le_of_ble_eq_true rfl) rfl rfl rfl <| ?_
    have e1 := Option.some.inj h
    subst e1
    exact x_iret (rest := []) hC hE rfl dX8_of_18
set_option maxRecDepth 100000 in
set_option maxHeartbeats 4000000 in
theorem C_X8_order {G : xG} {l : Launch} {σ : xS2} {r : Int32} {τ : xS2} (h : J_X8_order σ = some (r, τ)) : xC G l mM_X8_order 6 [.ref (xad G 0)] (xM σ) (some (.int r)) (xM τ) := by
  refine xC_of (by decide) rfl (Nat.le_refl _) (Nat.le_of_ble_eq_true rfl) (fun K hC hE hR _ => ?_)
  refine x_aload_n hC dX8_order_0 rfl (j := 0) rfl <| s_getI hC dX8_order_1 wfl_X8_119 rfl (by decide) (by decide) (by decide) (by decide) <| x_bipush (v := (60 : Int32)) hC dX8_order_4 (by decide) <| ?_
  refine x_icmp_lt (tgt := 14) hC dX8_order_6 (by decide) (fun c1 => ?_) (fun c1 => ?_)
  · replace h := (if_pos c1).symm.trans h
    refine x_aload_n hC dX8_order_14 rfl (j := 0) rfl <| s_getR (q := 8) hC dX8_order_15 wfl_X8_40 rfl (by decide) (by decide) (by decide) (by decide) (by decide) <| x_aload_n hC dX8_order_18 rfl (j := 0) rfl <| s_getR (q := 1) hC dX8_order_19 wfl_X8_10 rfl (by decide) (by decide) (by decide) (by decide) (by decide) <| x_aload_n hC dX8_order_22 rfl (j := 0) rfl <| s_getR (q := 3) hC dX8_order_23 wfl_X8_19 rfl (by decide) (by decide) (by decide) (by decide) (by decide) <| ?_
    refine x_aload_n hC dX8_order_26 rfl (j := 0) rfl <| s_getI hC dX8_order_27 wfl_X8_119 rfl (by decide) (by decide) (by decide) (by decide) <| ?_
    obtain ⟨x2, h2, h⟩ := Option.bind_eq_some_iff.mp h
    refine x_callV hC hR dX8_order_30 mK_X2_orderFor wml_X8_178 (C_X2_orderFor (a2 := 3) (a3 := (σ.1 0 12)) (σ := σ) rfl h2) (by omega) rfl (by decide) rfl rfl (xlt (by decide)) rfl (Nat.le_of_ble_eq_true rfl) rfl rfl rfl <| ?_
    obtain ⟨e1, e2⟩ := xso2 h
    subst e1
    subst e2
    exact x_iret (rest := []) hC hE rfl dX8_order_33
  · replace h := (if_neg c1).symm.trans h
    refine x_bipush (v := (-5 : Int32)) hC dX8_order_9 (by decide) <| x_goto (tgt := 33) hC dX8_order_11 (by decide) <| ?_
    obtain ⟨e1, e2⟩ := xso2 h
    subst e1
    subst e2
    exact x_iret (rest := []) hC hE rfl dX8_order_33
set_option maxRecDepth 100000 in
set_option maxHeartbeats 4000000 in
theorem C_X8_put {G : xG} {l : Launch} {a1 : Int32} {a2 : Int32} {a3 : Int64} {σ : xS2} {r : Int32} {τ : xS2} (h : J_X8_put a1 a2 a3 σ = some (r, τ)) : xC G l mM_X8_put 2 [.ref (xad G 0), .int a1, .int a2, .long a3] (xM σ) (some (.int r)) (xM τ) := by
  refine xC_of (by decide) rfl (Nat.le_refl _) (Nat.le_of_ble_eq_true rfl) (fun K hC hE hR _ => ?_)
  refine x_iload_n hC dX8_put_0 rfl (j := 1) rfl <| x_callS hC hR dX8_put_1 mK_X8_isShelf wml_X8_141 (C_X8_isShelf (a0 := a1) (σ := σ)) (by omega) rfl (Nat.le_of_ble_eq_true rfl) rfl rfl rfl <| ?_
  refine x_if_ne (tgt := 9) hC dX8_put_4 (by decide) (fun c2 => ?_) (fun c2 => ?_)
  · replace h := (if_neg c2).symm.trans h
    refine x_aload_n hC dX8_put_9 rfl (j := 0) rfl <| s_getR (q := 27) hC dX8_put_10 wfl_X8_67 rfl (by decide) (by decide) (by decide) (by decide) (by decide) <| x_iload_n hC dX8_put_13 rfl (j := 1) rfl <| ?_
    obtain ⟨h3, h⟩ := xgd_some h
    refine s_aldq (q := (28 + 2 * a1.toNatClampNeg)) hC dX8_put_14 rfl (by decide) h3 (xsh_rq h3) <| ?_
    refine x_iload_n hC dX8_put_15 rfl (j := 2) rfl <| x_callS hC hR dX8_put_16 mK_X8_refusedPlace wml_X8_311 (C_X8_refusedPlace (a0 := (28 + 2 * a1.toNatClampNeg)) (a1 := a2) (σ := σ) (xsh_at h3)) (by omega) rfl (Nat.le_of_ble_eq_true rfl) rfl rfl rfl <| x_istore hC dX8_put_19 (by decide) rfl <| x_iload hC dX8_put_21 (j := 0) rfl <| ?_
    refine x_if_eq (tgt := 29) hC dX8_put_23 (by decide) (fun c5 => ?_) (fun c5 => ?_)
    · replace h := (if_pos c5).symm.trans h
      refine x_aload_n hC dX8_put_29 rfl (j := 1) rfl <| s_getR (q := 27) hC dX8_put_30 wfl_X8_67 rfl (by decide) (by decide) (by decide) (by decide) (by decide) <| x_iload_n hC dX8_put_33 rfl (j := 2) rfl <| ?_
      obtain ⟨h6, h⟩ := xgd_some h
      refine s_aldq (q := (28 + 2 * a1.toNatClampNeg)) hC dX8_put_34 rfl (by decide) h6 (xsh_rq h6) <| ?_
      refine x_iload_n hC dX8_put_35 rfl (j := 3) rfl <| x_lload_n hC dX8_put_36 rfl (j := 4) rfl <| ?_
      obtain ⟨x7, h7, h⟩ := Option.bind_eq_some_iff.mp h
      refine x_callV hC hR dX8_put_37 mK_X5_set wml_X8_314 (C_X5_set (a0 := (28 + 2 * a1.toNatClampNeg)) (a1 := a2) (a2 := a3) (σ := σ) (xsh_at h6) h7) (by omega) (xsh_at h6) (by decide) rfl rfl (xlo (xsh_at h6) (by decide)) rfl (Nat.le_of_ble_eq_true rfl) rfl rfl rfl <| ?_
      refine x_iconst (v := (1 : Int32)) hC dX8_put_40 (by decide) <| ?_
      obtain ⟨e1, e2⟩ := xso2 h
      subst e1
      subst e2
      exact x_iret (rest := []) hC hE rfl dX8_put_41
    · replace h := (if_neg c5).symm.trans h
      refine x_iload hC dX8_put_26 (j := 0) rfl <| ?_
      obtain ⟨e1, e2⟩ := xso2 h
      subst e1
      subst e2
      exact x_iret (rest := []) hC hE rfl dX8_put_28
  · replace h := (if_pos c2).symm.trans h
    refine x_iconst (v := (-1 : Int32)) hC dX8_put_7 (by decide) <| ?_
    obtain ⟨e1, e2⟩ := xso2 h
    subst e1
    subst e2
    exact x_iret (rest := []) hC hE rfl dX8_put_8
set_option maxRecDepth 100000 in
set_option maxHeartbeats 4000000 in
theorem C_X8_redo {G : xG} {l : Launch} {σ : xS2} {r : Int32} {τ : xS2} (h : J_X8_redo σ = some (r, τ)) : xC G l mM_X8_redo 2 [.ref (xad G 0)] (xM σ) (some (.int r)) (xM τ) := by
  refine xC_of (by decide) rfl (Nat.le_refl _) (Nat.le_of_ble_eq_true rfl) (fun K hC hE hR _ => ?_)
  refine x_aload_n hC dX8_redo_0 rfl (j := 0) rfl <| s_getR (q := 23) hC dX8_redo_1 wfl_X8_61 rfl (by decide) (by decide) (by decide) (by decide) (by decide) <| x_aload_n hC dX8_redo_4 rfl (j := 0) rfl <| s_getR (q := 1) hC dX8_redo_5 wfl_X8_10 rfl (by decide) (by decide) (by decide) (by decide) (by decide) <| ?_
  obtain ⟨x1, h1, h⟩ := Option.bind_eq_some_iff.mp h
  refine x_callV hC hR dX8_redo_8 mK_X1_bringBack wml_X8_279 (C_X1_bringBack (σ := σ) h1) (by omega) rfl (by decide) rfl rfl (xlt (by decide)) rfl (Nat.le_of_ble_eq_true rfl) rfl rfl rfl <| ?_
  refine x_if_eq (tgt := 32) hC dX8_redo_11 (by decide) (fun c2 => ?_) (fun c2 => ?_)
  · replace h := (if_pos c2).symm.trans h
    refine x_bipush (v := (-5 : Int32)) hC dX8_redo_32 (by decide) <| ?_
    obtain ⟨e1, e2⟩ := xso2 h
    subst e1
    subst e2
    exact x_iret (rest := []) hC hE rfl dX8_redo_34
  · replace h := (if_neg c2).symm.trans h
    refine x_aload_n hC dX8_redo_14 rfl (j := 0) rfl <| s_getR (q := 23) hC dX8_redo_15 wfl_X8_61 rfl (by decide) (by decide) (by decide) (by decide) (by decide) <| s_getI hC dX8_redo_18 wfl_X8_282 rfl (by decide) (by decide) (by decide) (by decide) <| x_aload_n hC dX8_redo_21 rfl (j := 0) rfl <| s_getR (q := 23) hC dX8_redo_22 wfl_X8_61 rfl (by decide) (by decide) (by decide) (by decide) (by decide) <| s_getI hC dX8_redo_25 wfl_X8_276 rfl (by decide) (by decide) (by decide) (by decide) <| ?_
    refine x_isub hC dX8_redo_28 <| x_goto (tgt := 34) hC dX8_redo_29 (by decide) <| ?_
    obtain ⟨e1, e2⟩ := xso2 h
    subst e1
    subst e2
    exact x_iret (rest := []) hC hE rfl dX8_redo_34
set_option maxRecDepth 100000 in
set_option maxHeartbeats 4000000 in
theorem C_X8_round {G : xG} {l : Launch} {a1 : Int32} {σ : xS2} {r : Int32} {τ : xS2} (h : J_X8_round a1 σ = some (r, τ)) : xC G l mM_X8_round 5 [.ref (xad G 0), .int a1] (xM σ) (some (.int r)) (xM τ) := by
  refine xC_of (by decide) rfl (Nat.le_refl _) (Nat.le_of_ble_eq_true rfl) (fun K hC hE hR _ => ?_)
  refine x_iload_n hC dX8_round_0 rfl (j := 1) rfl <| x_iconst (v := (2 : Int32)) hC dX8_round_1 (by decide) <| x_callS hC hR dX8_round_2 mK_X8_isOneOf wml_X8_188 (C_X8_isOneOf (a0 := a1) (a1 := (2 : Int32)) (σ := σ)) (by omega) rfl (Nat.le_of_ble_eq_true rfl) rfl rfl rfl <| ?_
  refine x_if_ne (tgt := 10) hC dX8_round_5 (by decide) (fun c2 => ?_) (fun c2 => ?_)
  · replace h := (if_neg c2).symm.trans h
    refine x_aload_n hC dX8_round_10 rfl (j := 0) rfl <| s_getR (q := 13) hC dX8_round_11 wfl_X8_47 rfl (by decide) (by decide) (by decide) (by decide) (by decide) <| x_aload_n hC dX8_round_14 rfl (j := 0) rfl <| s_getR (q := 1) hC dX8_round_15 wfl_X8_10 rfl (by decide) (by decide) (by decide) (by decide) (by decide) <| x_aload_n hC dX8_round_18 rfl (j := 0) rfl <| s_getR (q := 3) hC dX8_round_19 wfl_X8_19 rfl (by decide) (by decide) (by decide) (by decide) (by decide) <| ?_
    obtain ⟨x3, h3, h⟩ := Option.bind_eq_some_iff.mp h
    refine x_callV hC hR dX8_round_22 mK_X6_planRound wml_X8_230 (C_X6_planRound (a2 := 3) (σ := σ) rfl h3) (by omega) rfl (by decide) rfl rfl (xlt (by decide)) rfl (Nat.le_of_ble_eq_true rfl) rfl rfl rfl <| ?_
    refine x_if_ne (tgt := 31) hC dX8_round_25 (by decide) (fun c4 => ?_) (fun c4 => ?_)
    · replace h := (if_neg c4).symm.trans h
      refine x_iload_n hC dX8_round_31 rfl (j := 1) rfl <| ?_
      refine x_if_ne (tgt := 43) hC dX8_round_32 (by decide) (fun c5 => ?_) (fun c5 => ?_)
      · replace h := (if_neg c5).symm.trans h
        refine x_aload_n hC dX8_round_43 rfl (j := 0) rfl <| s_getR (q := 13) hC dX8_round_44 wfl_X8_47 rfl (by decide) (by decide) (by decide) (by decide) (by decide) <| s_getI hC dX8_round_47 wfl_X8_237 rfl (by decide) (by decide) (by decide) (by decide) <| ?_
        refine x_if_ge (tgt := 58) hC dX8_round_50 (by decide) (fun c6 => ?_) (fun c6 => ?_)
        · replace h := (if_pos c6).symm.trans h
          refine x_aload_n hC dX8_round_58 rfl (j := 0) rfl <| s_getR (q := 13) hC dX8_round_59 wfl_X8_47 rfl (by decide) (by decide) (by decide) (by decide) (by decide) <| s_getI hC dX8_round_62 wfl_X8_237 rfl (by decide) (by decide) (by decide) (by decide) <| ?_
          obtain ⟨e1, e2⟩ := xso2 h
          subst e1
          subst e2
          exact x_iret (rest := []) hC hE rfl dX8_round_65
        · replace h := (if_neg c6).symm.trans h
          refine x_bipush (v := (-2 : Int32)) hC dX8_round_53 (by decide) <| x_goto (tgt := 65) hC dX8_round_55 (by decide) <| ?_
          obtain ⟨e1, e2⟩ := xso2 h
          subst e1
          subst e2
          exact x_iret (rest := []) hC hE rfl dX8_round_65
      · replace h := (if_pos c5).symm.trans h
        refine x_aload_n hC dX8_round_35 rfl (j := 0) rfl <| s_getR (q := 13) hC dX8_round_36 wfl_X8_47 rfl (by decide) (by decide) (by decide) (by decide) (by decide) <| s_getI hC dX8_round_39 wfl_X8_234 rfl (by decide) (by decide) (by decide) (by decide) <| ?_
        obtain ⟨e1, e2⟩ := xso2 h
        subst e1
        subst e2
        exact x_iret (rest := []) hC hE rfl dX8_round_42
    · replace h := (if_pos c4).symm.trans h
      refine x_bipush (v := (-5 : Int32)) hC dX8_round_28 (by decide) <| ?_
      obtain ⟨e1, e2⟩ := xso2 h
      subst e1
      subst e2
      exact x_iret (rest := []) hC hE rfl dX8_round_30
  · replace h := (if_pos c2).symm.trans h
    refine x_iconst (v := (-1 : Int32)) hC dX8_round_8 (by decide) <| ?_
    obtain ⟨e1, e2⟩ := xso2 h
    subst e1
    subst e2
    exact x_iret (rest := []) hC hE rfl dX8_round_9
set_option maxRecDepth 100000 in
set_option maxHeartbeats 4000000 in
theorem C_X8_row {G : xG} {l : Launch} {a1 : Int32} {a2 : Int32} {a3 : Int32} {σ : xS2} {r : Int32} {τ : xS2} (h : J_X8_row a1 a2 a3 σ = some (r, τ)) : xC G l mM_X8_row 2 [.ref (xad G 0), .int a1, .int a2, .int a3] (xM σ) (some (.int r)) (xM τ) := by
  refine xC_of (by decide) rfl (Nat.le_refl _) (Nat.le_of_ble_eq_true rfl) (fun K hC hE hR _ => ?_)
  refine x_iload_n hC dX8_row_0 rfl (j := 1) rfl <| x_callS hC hR dX8_row_1 mK_X8_isShelf wml_X8_141 (C_X8_isShelf (a0 := a1) (σ := σ)) (by omega) rfl (Nat.le_of_ble_eq_true rfl) rfl rfl rfl <| ?_
  refine x_if_eq (tgt := 21) hC dX8_row_4 (by decide) (fun c2 => ?_) (fun c2 => ?_)
  · replace h := (if_pos c2).symm.trans h
    refine x_iconst (v := (-1 : Int32)) hC dX8_row_21 (by decide) <| ?_
    obtain ⟨e1, e2⟩ := xso2 h
    subst e1
    subst e2
    exact x_iret (rest := []) hC hE rfl dX8_row_22
  · replace h := (if_neg c2).symm.trans h
    refine x_iload_n hC dX8_row_7 rfl (j := 2) rfl <| x_iconst (v := (5 : Int32)) hC dX8_row_8 (by decide) <| x_callS hC hR dX8_row_9 mK_X8_isOneOf wml_X8_188 (C_X8_isOneOf (a0 := a2) (a1 := (5 : Int32)) (σ := σ)) (by omega) rfl (Nat.le_of_ble_eq_true rfl) rfl rfl rfl <| ?_
    refine x_if_eq (tgt := 21) hC dX8_row_12 (by decide) (fun c4 => ?_) (fun c4 => ?_)
    · replace h := (if_pos c4).symm.trans h
      refine x_iconst (v := (-1 : Int32)) hC dX8_row_21 (by decide) <| ?_
      obtain ⟨e1, e2⟩ := xso2 h
      subst e1
      subst e2
      exact x_iret (rest := []) hC hE rfl dX8_row_22
    · replace h := (if_neg c4).symm.trans h
      refine x_iload_n hC dX8_row_15 rfl (j := 3) rfl <| x_bipush (v := (60 : Int32)) hC dX8_row_16 (by decide) <| ?_
      refine x_icmp_le (tgt := 23) hC dX8_row_18 (by decide) (fun c5 => ?_) (fun c5 => ?_)
      · replace h := (if_pos c5).symm.trans h
        refine x_iload_n hC dX8_row_23 rfl (j := 3) rfl <| ?_
        refine x_if_ge (tgt := 30) hC dX8_row_24 (by decide) (fun c6 => ?_) (fun c6 => ?_)
        · replace h := (if_pos c6).symm.trans h
          refine x_aload_n hC dX8_row_30 rfl (j := 0) rfl <| s_getR (q := 27) hC dX8_row_31 wfl_X8_67 rfl (by decide) (by decide) (by decide) (by decide) (by decide) <| x_iload_n hC dX8_row_34 rfl (j := 1) rfl <| ?_
          obtain ⟨h7, h⟩ := xgd_some h
          refine s_aldq (q := (28 + 2 * a1.toNatClampNeg)) hC dX8_row_35 rfl (by decide) h7 (xsh_rq h7) <| ?_
          refine x_iload_n hC dX8_row_36 rfl (j := 2) rfl <| x_iload_n hC dX8_row_37 rfl (j := 3) rfl <| ?_
          obtain ⟨x8, h8, h⟩ := Option.bind_eq_some_iff.mp h
          refine x_callV hC hR dX8_row_38 mK_X5_holdRow wml_X8_308 (C_X5_holdRow (a0 := (28 + 2 * a1.toNatClampNeg)) (a1 := a2) (a2 := a3) (σ := σ) (xsh_at h7) h8) (by omega) (xsh_at h7) (by decide) rfl rfl (xlo (xsh_at h7) (by decide)) rfl (Nat.le_of_ble_eq_true rfl) rfl rfl rfl <| ?_
          refine x_iconst (v := (1 : Int32)) hC dX8_row_41 (by decide) <| ?_
          obtain ⟨e1, e2⟩ := xso2 h
          subst e1
          subst e2
          exact x_iret (rest := []) hC hE rfl dX8_row_42
        · replace h := (if_neg c6).symm.trans h
          refine x_bipush (v := (-14 : Int32)) hC dX8_row_27 (by decide) <| ?_
          obtain ⟨e1, e2⟩ := xso2 h
          subst e1
          subst e2
          exact x_iret (rest := []) hC hE rfl dX8_row_29
      · replace h := (if_neg c5).symm.trans h
        refine x_iconst (v := (-1 : Int32)) hC dX8_row_21 (by decide) <| ?_
        obtain ⟨e1, e2⟩ := xso2 h
        subst e1
        subst e2
        exact x_iret (rest := []) hC hE rfl dX8_row_22
set_option maxRecDepth 100000 in
set_option maxHeartbeats 4000000 in
theorem B_X8_run_77 {G : xG} {l : Launch} {K : xK} {r : Int32} {τ : xS2} (hC : xCX G mM_X8_run K) (hR : xRd K 5) (hE : xE G K (some (.int r)) (xM τ)) : ∀ (f : Nat) (l1 : Int32) (l2 : Int32) (l3 : Int32) (l5 : Int32) (σ : xS2), J_X8_run_77 f l1 l2 l3 l5 σ = some (r, τ) → xV G l mM_X8_run K 77 [(0, .ref (xad G 0)), (1, .int l1), (2, .int l2), (3, .int l3), (5, .int l5)] [] (xM σ) := by
  intro f
  induction f with
  | zero => intro l1 l2 l3 l5 σ h; cases h
  | succ f ih =>
    intro l1 l2 l3 l5 σ h
    refine x_iload hC dX8_run_77 (j := 4) rfl <| x_iload_n hC dX8_run_79 rfl (j := 2) rfl <| ?_
    refine x_icmp_ge (tgt := 119) hC dX8_run_80 (by decide) (fun c12 => ?_) (fun c12 => ?_)
    · replace h := (if_pos c12).symm.trans h
      refine x_aload_n hC dX8_run_119 rfl (j := 0) rfl <| x_iload_n hC dX8_run_120 rfl (j := 3) rfl <| x_callV hC hR dX8_run_121 mK_X8_thoughtOf wml_X8_201 (C_X8_thoughtOf (a1 := l3) (σ := σ)) (by omega) rfl (by decide) rfl rfl (xlt (by decide)) rfl (Nat.le_of_ble_eq_true rfl) rfl rfl rfl <| ?_
      obtain ⟨e1, e2⟩ := xso2 h
      subst e1
      subst e2
      exact x_iret (rest := []) hC hE rfl dX8_run_124
    · replace h := (if_neg c12).symm.trans h
      refine x_aload_n hC dX8_run_83 rfl (j := 0) rfl <| s_getR (q := 4) hC dX8_run_84 wfl_X8_23 rfl (by decide) (by decide) (by decide) (by decide) (by decide) <| x_aload_n hC dX8_run_87 rfl (j := 0) rfl <| s_getR (q := 1) hC dX8_run_88 wfl_X8_10 rfl (by decide) (by decide) (by decide) (by decide) (by decide) <| x_aload_n hC dX8_run_91 rfl (j := 0) rfl <| s_getI hC dX8_run_92 wfl_X8_119 rfl (by decide) (by decide) (by decide) (by decide) <| ?_
      refine x_iload hC dX8_run_95 (j := 4) rfl <| x_iadd hC dX8_run_97 <| x_aload_n hC dX8_run_98 rfl (j := 0) rfl <| s_getR (q := 27) hC dX8_run_99 wfl_X8_67 rfl (by decide) (by decide) (by decide) (by decide) (by decide) <| x_iload_n hC dX8_run_102 rfl (j := 1) rfl <| ?_
      obtain ⟨h14, h⟩ := xgd_some h
      refine s_aldq (q := (28 + 2 * l1.toNatClampNeg)) hC dX8_run_103 rfl (by decide) h14 (xsh_rq h14) <| ?_
      refine x_iload hC dX8_run_104 (j := 4) rfl <| ?_
      obtain ⟨x15, h15, h⟩ := Option.bind_eq_some_iff.mp h
      refine x_callS hC hR dX8_run_106 mK_X8_orderOn wml_X8_197 (C_X8_orderOn (a0 := (28 + 2 * l1.toNatClampNeg)) (a1 := l5) (σ := σ) (xsh_at h14) h15) (by omega) rfl (Nat.le_of_ble_eq_true rfl) rfl rfl rfl <| ?_
      obtain ⟨x16, h16, h⟩ := Option.bind_eq_some_iff.mp h
      refine x_callV hC hR dX8_run_109 mK_X0_live wml_X8_185 (C_X0_live (a0 := 4) (a2 := ((σ.1 0 12) + l5)) (a3 := x15) (σ := σ) rfl h16) (by omega) rfl (by decide) rfl rfl (xlt (by decide)) rfl (Nat.le_of_ble_eq_true rfl) rfl rfl rfl <| ?_
      refine x_pop hC dX8_run_112 rfl <| x_iinc hC dX8_run_113 (j := 4) (v := (l5 + (1 : Int32))) rfl rfl (by decide) rfl <| x_goto (tgt := 77) hC dX8_run_116 (by decide) <| ?_
      refine x_sub [1, 2, 3, 4, 0] rfl ?_
      exact ih l1 l2 l3 (l5 + (1 : Int32)) x16.2 h
set_option maxRecDepth 100000 in
set_option maxHeartbeats 4000000 in
theorem C_X8_run {G : xG} {l : Launch} {a1 : Int32} {a2 : Int32} {a3 : Int32} {σ : xS2} {r : Int32} {τ : xS2} (h : J_X8_run a1 a2 a3 σ = some (r, τ)) : xC G l mM_X8_run 5 [.ref (xad G 0), .int a1, .int a2, .int a3] (xM σ) (some (.int r)) (xM τ) := by
  refine xC_of (by decide) rfl (Nat.le_refl _) (Nat.le_of_ble_eq_true rfl) (fun K hC hE hR _ => ?_)
  refine x_iload_n hC dX8_run_0 rfl (j := 1) rfl <| x_callS hC hR dX8_run_1 mK_X8_isShelf wml_X8_141 (C_X8_isShelf (a0 := a1) (σ := σ)) (by omega) rfl (Nat.le_of_ble_eq_true rfl) rfl rfl rfl <| ?_
  refine x_if_eq (tgt := 19) hC dX8_run_4 (by decide) (fun c2 => ?_) (fun c2 => ?_)
  · replace h := (if_pos c2).symm.trans h
    refine x_iconst (v := (-1 : Int32)) hC dX8_run_19 (by decide) <| ?_
    obtain ⟨e1, e2⟩ := xso2 h
    subst e1
    subst e2
    exact x_iret (rest := []) hC hE rfl dX8_run_20
  · replace h := (if_neg c2).symm.trans h
    refine x_iload_n hC dX8_run_7 rfl (j := 2) rfl <| ?_
    refine x_if_lt (tgt := 19) hC dX8_run_8 (by decide) (fun c3 => ?_) (fun c3 => ?_)
    · replace h := (if_pos c3).symm.trans h
      refine x_iconst (v := (-1 : Int32)) hC dX8_run_19 (by decide) <| ?_
      obtain ⟨e1, e2⟩ := xso2 h
      subst e1
      subst e2
      exact x_iret (rest := []) hC hE rfl dX8_run_20
    · replace h := (if_neg c3).symm.trans h
      refine x_iload_n hC dX8_run_11 rfl (j := 3) rfl <| x_iconst (v := (4 : Int32)) hC dX8_run_12 (by decide) <| x_callS hC hR dX8_run_13 mK_X8_isOneOf wml_X8_188 (C_X8_isOneOf (a0 := a3) (a1 := (4 : Int32)) (σ := σ)) (by omega) rfl (Nat.le_of_ble_eq_true rfl) rfl rfl rfl <| ?_
      refine x_if_ne (tgt := 21) hC dX8_run_16 (by decide) (fun c5 => ?_) (fun c5 => ?_)
      · replace h := (if_neg c5).symm.trans h
        refine x_aload_n hC dX8_run_21 rfl (j := 0) rfl <| x_iload_n hC dX8_run_22 rfl (j := 1) rfl <| ?_
        obtain ⟨x6, h6, h⟩ := Option.bind_eq_some_iff.mp h
        refine x_callV hC hR dX8_run_23 mK_X8_refusedBytes wml_X8_191 (C_X8_refusedBytes (a1 := a1) (σ := σ) h6) (by omega) rfl (by decide) rfl rfl (xlt (by decide)) rfl (Nat.le_of_ble_eq_true rfl) rfl rfl rfl <| ?_
        refine x_istore hC dX8_run_26 (by decide) rfl <| x_iload hC dX8_run_28 (j := 0) rfl <| ?_
        refine x_if_eq (tgt := 36) hC dX8_run_30 (by decide) (fun c7 => ?_) (fun c7 => ?_)
        · replace h := (if_pos c7).symm.trans h
          refine x_iload_n hC dX8_run_36 rfl (j := 3) rfl <| x_aload_n hC dX8_run_37 rfl (j := 1) rfl <| s_getR (q := 27) hC dX8_run_38 wfl_X8_67 rfl (by decide) (by decide) (by decide) (by decide) (by decide) <| x_iload_n hC dX8_run_41 rfl (j := 2) rfl <| ?_
          obtain ⟨h8, h⟩ := xgd_some h
          refine s_aldq (q := (28 + 2 * a1.toNatClampNeg)) hC dX8_run_42 rfl (by decide) h8 (xsh_rq h8) <| ?_
          refine s_getI hC dX8_run_43 wfl_X8_155 (xsh_at h8) (by decide) (by decide) (xlo (xsh_at h8) (by decide)) (by decide) <| ?_
          refine x_icmp_gt (tgt := 60) hC dX8_run_46 (by decide) (fun c9 => ?_) (fun c9 => ?_)
          · replace h := (if_pos c9).symm.trans h
            refine x_bipush (v := (-5 : Int32)) hC dX8_run_60 (by decide) <| ?_
            obtain ⟨e1, e2⟩ := xso2 h
            subst e1
            subst e2
            exact x_iret (rest := []) hC hE rfl dX8_run_62
          · replace h := (if_neg c9).symm.trans h
            refine x_iload_n hC dX8_run_49 rfl (j := 3) rfl <| x_bipush (v := (60 : Int32)) hC dX8_run_50 (by decide) <| x_aload_n hC dX8_run_52 rfl (j := 1) rfl <| s_getI hC dX8_run_53 wfl_X8_119 rfl (by decide) (by decide) (by decide) (by decide) <| x_isub hC dX8_run_56 <| ?_
            refine x_icmp_le (tgt := 63) hC dX8_run_57 (by decide) (fun c10 => ?_) (fun c10 => ?_)
            · replace h := (if_pos c10).symm.trans h
              refine x_aload_n hC dX8_run_63 rfl (j := 1) rfl <| s_getR (q := 4) hC dX8_run_64 wfl_X8_23 rfl (by decide) (by decide) (by decide) (by decide) (by decide) <| x_aload_n hC dX8_run_67 rfl (j := 1) rfl <| s_getR (q := 3) hC dX8_run_68 wfl_X8_19 rfl (by decide) (by decide) (by decide) (by decide) (by decide) <| ?_
              obtain ⟨x11, h11, h⟩ := Option.bind_eq_some_iff.mp h
              refine x_callV hC hR dX8_run_71 mK_X0_become wml_X8_194 (C_X0_become (a0 := 4) (a1 := 3) (σ := σ) rfl rfl h11) (by omega) rfl (by decide) rfl rfl (xlt (by decide)) rfl (Nat.le_of_ble_eq_true rfl) rfl rfl rfl <| ?_
              refine x_iconst (v := (0 : Int32)) hC dX8_run_74 (by decide) <| x_istore hC dX8_run_75 (by decide) rfl <| ?_
              refine x_sub [2, 3, 4, 5, 0] rfl ?_
              exact B_X8_run_77 hC hR hE xFU a1 a2 a3 (0 : Int32) x11 h
            · replace h := (if_neg c10).symm.trans h
              refine x_bipush (v := (-5 : Int32)) hC dX8_run_60 (by decide) <| ?_
              obtain ⟨e1, e2⟩ := xso2 h
              subst e1
              subst e2
              exact x_iret (rest := []) hC hE rfl dX8_run_62
        · replace h := (if_neg c7).symm.trans h
          refine x_iload hC dX8_run_33 (j := 0) rfl <| ?_
          obtain ⟨e1, e2⟩ := xso2 h
          subst e1
          subst e2
          exact x_iret (rest := []) hC hE rfl dX8_run_35
      · replace h := (if_pos c5).symm.trans h
        refine x_iconst (v := (-1 : Int32)) hC dX8_run_19 (by decide) <| ?_
        obtain ⟨e1, e2⟩ := xso2 h
        subst e1
        subst e2
        exact x_iret (rest := []) hC hE rfl dX8_run_20
set_option maxRecDepth 100000 in
set_option maxHeartbeats 4000000 in
theorem C_X8_shift {G : xG} {l : Launch} {a1 : Int32} {a2 : Int32} {a3 : Int32} {a4 : Int32} {a5 : Int32} {σ : xS2} {r : Int32} {τ : xS2} (h : J_X8_shift a1 a2 a3 a4 a5 σ = some (r, τ)) : xC G l mM_X8_shift 1 [.ref (xad G 0), .int a1, .int a2, .int a3, .int a4, .int a5] (xM σ) (some (.int r)) (xM τ) := by
  refine xC_of (by decide) rfl (Nat.le_refl _) (Nat.le_of_ble_eq_true rfl) (fun K hC hE hR _ => ?_)
  refine x_iload_n hC dX8_shift_0 rfl (j := 1) rfl <| x_callS hC hR dX8_shift_1 mK_X8_isShelf wml_X8_141 (C_X8_isShelf (a0 := a1) (σ := σ)) (by omega) rfl (Nat.le_of_ble_eq_true rfl) rfl rfl rfl <| ?_
  refine x_if_eq (tgt := 14) hC dX8_shift_4 (by decide) (fun c2 => ?_) (fun c2 => ?_)
  · replace h := (if_pos c2).symm.trans h
    refine x_iconst (v := (-1 : Int32)) hC dX8_shift_14 (by decide) <| ?_
    obtain ⟨e1, e2⟩ := xso2 h
    subst e1
    subst e2
    exact x_iret (rest := []) hC hE rfl dX8_shift_15
  · replace h := (if_neg c2).symm.trans h
    refine x_iload_n hC dX8_shift_7 rfl (j := 3) rfl <| x_callS hC hR dX8_shift_8 mK_X8_isShelf wml_X8_141 (C_X8_isShelf (a0 := a3) (σ := σ)) (by omega) rfl (Nat.le_of_ble_eq_true rfl) rfl rfl rfl <| ?_
    refine x_if_ne (tgt := 16) hC dX8_shift_11 (by decide) (fun c4 => ?_) (fun c4 => ?_)
    · replace h := (if_neg c4).symm.trans h
      refine x_aload_n hC dX8_shift_16 rfl (j := 0) rfl <| s_getR (q := 27) hC dX8_shift_17 wfl_X8_67 rfl (by decide) (by decide) (by decide) (by decide) (by decide) <| x_iload_n hC dX8_shift_20 rfl (j := 1) rfl <| ?_
      obtain ⟨h5, h⟩ := xgd_some h
      refine s_aldq (q := (28 + 2 * a1.toNatClampNeg)) hC dX8_shift_21 rfl (by decide) h5 (xsh_rq h5) <| ?_
      refine x_astore hC dX8_shift_22 (by decide) rfl <| x_aload_n hC dX8_shift_24 rfl (j := 1) rfl <| s_getR (q := 27) hC dX8_shift_25 wfl_X8_67 rfl (by decide) (by decide) (by decide) (by decide) (by decide) <| x_iload_n hC dX8_shift_28 rfl (j := 4) rfl <| ?_
      obtain ⟨h6, h⟩ := xgd_some h
      refine s_aldq (q := (28 + 2 * a3.toNatClampNeg)) hC dX8_shift_29 rfl (by decide) h6 (xsh_rq h6) <| ?_
      refine x_astore hC dX8_shift_30 (by decide) rfl <| x_aload hC dX8_shift_32 (j := 1) rfl <| x_callV hC hR dX8_shift_34 mK_X5_isEmpty wml_X8_144 (C_X5_isEmpty (a0 := (28 + 2 * a1.toNatClampNeg)) (σ := σ) (xsh_at h5)) (by omega) (xsh_at h5) (by decide) rfl rfl (xlo (xsh_at h5) (by decide)) rfl (Nat.le_of_ble_eq_true rfl) rfl rfl rfl <| ?_
      refine x_if_ne (tgt := 48) hC dX8_shift_37 (by decide) (fun c8 => ?_) (fun c8 => ?_)
      · replace h := (if_neg c8).symm.trans h
        refine x_bipush (v := (-11 : Int32)) hC dX8_shift_48 (by decide) <| ?_
        obtain ⟨e1, e2⟩ := xso2 h
        subst e1
        subst e2
        exact x_iret (rest := []) hC hE rfl dX8_shift_50
      · replace h := (if_pos c8).symm.trans h
        refine x_aload hC dX8_shift_40 (j := 0) rfl <| x_callV hC hR dX8_shift_42 mK_X5_isEmpty wml_X8_144 (C_X5_isEmpty (a0 := (28 + 2 * a3.toNatClampNeg)) (σ := σ) (xsh_at h6)) (by omega) (xsh_at h6) (by decide) rfl rfl (xlo (xsh_at h6) (by decide)) rfl (Nat.le_of_ble_eq_true rfl) rfl rfl rfl <| ?_
        refine x_if_eq (tgt := 51) hC dX8_shift_45 (by decide) (fun c10 => ?_) (fun c10 => ?_)
        · replace h := (if_pos c10).symm.trans h
          refine x_aload hC dX8_shift_51 (j := 1) rfl <| x_callV hC hR dX8_shift_53 mK_X5_isRow wml_X8_318 (C_X5_isRow (a0 := (28 + 2 * a1.toNatClampNeg)) (σ := σ) (xsh_at h5)) (by omega) (xsh_at h5) (by decide) rfl rfl (xlo (xsh_at h5) (by decide)) rfl (Nat.le_of_ble_eq_true rfl) rfl rfl rfl <| ?_
          refine x_if_eq (tgt := 80) hC dX8_shift_56 (by decide) (fun c12 => ?_) (fun c12 => ?_)
          · replace h := (if_pos c12).symm.trans h
            refine x_bipush (v := (-12 : Int32)) hC dX8_shift_80 (by decide) <| ?_
            obtain ⟨e1, e2⟩ := xso2 h
            subst e1
            subst e2
            exact x_iret (rest := []) hC hE rfl dX8_shift_82
          · replace h := (if_neg c12).symm.trans h
            refine x_aload hC dX8_shift_59 (j := 0) rfl <| x_callV hC hR dX8_shift_61 mK_X5_isRow wml_X8_318 (C_X5_isRow (a0 := (28 + 2 * a3.toNatClampNeg)) (σ := σ) (xsh_at h6)) (by omega) (xsh_at h6) (by decide) rfl rfl (xlo (xsh_at h6) (by decide)) rfl (Nat.le_of_ble_eq_true rfl) rfl rfl rfl <| ?_
            refine x_if_eq (tgt := 80) hC dX8_shift_64 (by decide) (fun c14 => ?_) (fun c14 => ?_)
            · replace h := (if_pos c14).symm.trans h
              refine x_bipush (v := (-12 : Int32)) hC dX8_shift_80 (by decide) <| ?_
              obtain ⟨e1, e2⟩ := xso2 h
              subst e1
              subst e2
              exact x_iret (rest := []) hC hE rfl dX8_shift_82
            · replace h := (if_neg c14).symm.trans h
              refine x_aload hC dX8_shift_67 (j := 1) rfl <| s_getI hC dX8_shift_69 wfl_X8_324 (xsh_at h5) (by decide) (by decide) (xlo (xsh_at h5) (by decide)) (by decide) <| x_aload hC dX8_shift_72 (j := 0) rfl <| s_getI hC dX8_shift_74 wfl_X8_324 (xsh_at h6) (by decide) (by decide) (xlo (xsh_at h6) (by decide)) (by decide) <| ?_
              refine x_icmp_eq (tgt := 83) hC dX8_shift_77 (by decide) (fun c15 => ?_) (fun c15 => ?_)
              · replace h := (if_pos c15).symm.trans h
                refine x_aload hC dX8_shift_83 (j := 1) rfl <| x_iload_n hC dX8_shift_85 rfl (j := 4) rfl <| x_iload hC dX8_shift_86 (j := 7) rfl <| x_callV hC hR dX8_shift_88 mK_X5_hasPlaces wml_X8_321 (C_X5_hasPlaces (a0 := (28 + 2 * a1.toNatClampNeg)) (a1 := a2) (a2 := a5) (σ := σ) (xsh_at h5)) (by omega) (xsh_at h5) (by decide) rfl rfl (xlo (xsh_at h5) (by decide)) rfl (Nat.le_of_ble_eq_true rfl) rfl rfl rfl <| ?_
                refine x_if_eq (tgt := 106) hC dX8_shift_91 (by decide) (fun c17 => ?_) (fun c17 => ?_)
                · replace h := (if_pos c17).symm.trans h
                  refine x_bipush (v := (-13 : Int32)) hC dX8_shift_106 (by decide) <| ?_
                  obtain ⟨e1, e2⟩ := xso2 h
                  subst e1
                  subst e2
                  exact x_iret (rest := []) hC hE rfl dX8_shift_108
                · replace h := (if_neg c17).symm.trans h
                  refine x_aload hC dX8_shift_94 (j := 0) rfl <| x_iload hC dX8_shift_96 (j := 6) rfl <| x_iload hC dX8_shift_98 (j := 7) rfl <| x_callV hC hR dX8_shift_100 mK_X5_hasPlaces wml_X8_321 (C_X5_hasPlaces (a0 := (28 + 2 * a3.toNatClampNeg)) (a1 := a4) (a2 := a5) (σ := σ) (xsh_at h6)) (by omega) (xsh_at h6) (by decide) rfl rfl (xlo (xsh_at h6) (by decide)) rfl (Nat.le_of_ble_eq_true rfl) rfl rfl rfl <| ?_
                  refine x_if_ne (tgt := 109) hC dX8_shift_103 (by decide) (fun c19 => ?_) (fun c19 => ?_)
                  · replace h := (if_neg c19).symm.trans h
                    refine x_aload hC dX8_shift_109 (j := 1) rfl <| s_getR (q := ((28 + 2 * a1.toNatClampNeg) + 1)) hC dX8_shift_111 wfl_X8_327 (xsh_at h5) (by decide) (by decide) (xlo (xsh_at h5) (by decide)) (by decide) (xsh_rc (xsh_at h5)) <| x_iload_n hC dX8_shift_114 rfl (j := 4) rfl <| x_aload hC dX8_shift_115 (j := 0) rfl <| s_getR (q := ((28 + 2 * a3.toNatClampNeg) + 1)) hC dX8_shift_117 wfl_X8_327 (xsh_at h6) (by decide) (by decide) (xlo (xsh_at h6) (by decide)) (by decide) (xsh_rc (xsh_at h6)) <| x_iload hC dX8_shift_120 (j := 6) rfl <| ?_
                    refine x_iload hC dX8_shift_122 (j := 7) rfl <| ?_
                    obtain ⟨h20, h⟩ := xgd_some h
                    obtain ⟨h20a, h20b, h20c, h20d, h20e⟩ := xcg_some h20
                    refine s_copyl hC hR (by omega) dX8_shift_124 wml_X8_331 (xsh_el (xsh_at h5)) (xsh_el (xsh_at h6)) (xlo (xsh_el (xsh_at h5)) (by decide)) (xlo (xsh_el (xsh_at h6)) (by decide)) h20a h20b h20c h20d h20e (Nat.le_of_ble_eq_true rfl) <| ?_
                    refine x_iload hC dX8_shift_127 (j := 7) rfl <| ?_
                    obtain ⟨e1, e2⟩ := xso2 h
                    subst e1
                    subst e2
                    exact x_iret (rest := []) hC hE rfl dX8_shift_129
                  · replace h := (if_pos c19).symm.trans h
                    refine x_bipush (v := (-13 : Int32)) hC dX8_shift_106 (by decide) <| ?_
                    obtain ⟨e1, e2⟩ := xso2 h
                    subst e1
                    subst e2
                    exact x_iret (rest := []) hC hE rfl dX8_shift_108
              · replace h := (if_neg c15).symm.trans h
                refine x_bipush (v := (-12 : Int32)) hC dX8_shift_80 (by decide) <| ?_
                obtain ⟨e1, e2⟩ := xso2 h
                subst e1
                subst e2
                exact x_iret (rest := []) hC hE rfl dX8_shift_82
        · replace h := (if_neg c10).symm.trans h
          refine x_bipush (v := (-11 : Int32)) hC dX8_shift_48 (by decide) <| ?_
          obtain ⟨e1, e2⟩ := xso2 h
          subst e1
          subst e2
          exact x_iret (rest := []) hC hE rfl dX8_shift_50
    · replace h := (if_pos c4).symm.trans h
      refine x_iconst (v := (-1 : Int32)) hC dX8_shift_14 (by decide) <| ?_
      obtain ⟨e1, e2⟩ := xso2 h
      subst e1
      subst e2
      exact x_iret (rest := []) hC hE rfl dX8_shift_15
set_option maxRecDepth 100000 in
set_option maxHeartbeats 4000000 in
theorem C_X8_soonest {G : xG} {l : Launch} {a1 : Int32} {a2 : Int32} {σ : xS2} {r : Int32} {τ : xS2} (h : J_X8_soonest a1 a2 σ = some (r, τ)) : xC G l mM_X8_soonest 6 [.ref (xad G 0), .int a1, .int a2] (xM σ) (some (.int r)) (xM τ) := by
  refine xC_of (by decide) rfl (Nat.le_refl _) (Nat.le_of_ble_eq_true rfl) (fun K hC hE hR _ => ?_)
  refine x_iload_n hC dX8_soonest_0 rfl (j := 1) rfl <| x_callS hC hR dX8_soonest_1 mK_X3_isCell wml_X8_109 (C_X3_isCell (a0 := a1) (σ := σ)) (by omega) rfl (Nat.le_of_ble_eq_true rfl) rfl rfl rfl <| ?_
  refine x_if_eq (tgt := 15) hC dX8_soonest_4 (by decide) (fun c2 => ?_) (fun c2 => ?_)
  · replace h := (if_pos c2).symm.trans h
    refine x_iconst (v := (-1 : Int32)) hC dX8_soonest_15 (by decide) <| ?_
    obtain ⟨e1, e2⟩ := xso2 h
    subst e1
    subst e2
    exact x_iret (rest := []) hC hE rfl dX8_soonest_16
  · replace h := (if_neg c2).symm.trans h
    refine x_iload_n hC dX8_soonest_7 rfl (j := 2) rfl <| x_iconst (v := (2 : Int32)) hC dX8_soonest_8 (by decide) <| x_callS hC hR dX8_soonest_9 mK_X8_isOneOf wml_X8_188 (C_X8_isOneOf (a0 := a2) (a1 := (2 : Int32)) (σ := σ)) (by omega) rfl (Nat.le_of_ble_eq_true rfl) rfl rfl rfl <| ?_
    refine x_if_ne (tgt := 17) hC dX8_soonest_12 (by decide) (fun c4 => ?_) (fun c4 => ?_)
    · replace h := (if_neg c4).symm.trans h
      refine x_aload_n hC dX8_soonest_17 rfl (j := 0) rfl <| s_getR (q := 19) hC dX8_soonest_18 wfl_X8_54 rfl (by decide) (by decide) (by decide) (by decide) (by decide) <| x_aload_n hC dX8_soonest_21 rfl (j := 0) rfl <| s_getR (q := 1) hC dX8_soonest_22 wfl_X8_10 rfl (by decide) (by decide) (by decide) (by decide) (by decide) <| x_aload_n hC dX8_soonest_25 rfl (j := 0) rfl <| s_getR (q := 3) hC dX8_soonest_26 wfl_X8_19 rfl (by decide) (by decide) (by decide) (by decide) (by decide) <| ?_
      refine x_aload_n hC dX8_soonest_29 rfl (j := 0) rfl <| s_getI hC dX8_soonest_30 wfl_X8_119 rfl (by decide) (by decide) (by decide) (by decide) <| x_iload_n hC dX8_soonest_33 rfl (j := 1) rfl <| ?_
      obtain ⟨x5, h5, h⟩ := Option.bind_eq_some_iff.mp h
      refine x_callV hC hR dX8_soonest_34 mK_X4_find wml_X8_220 (C_X4_find (a2 := 3) (a3 := (σ.1 0 12)) (a4 := a1) (σ := σ) rfl h5) (by omega) rfl (by decide) rfl rfl (xlt (by decide)) rfl (Nat.le_of_ble_eq_true rfl) rfl rfl rfl <| ?_
      refine x_if_ne (tgt := 43) hC dX8_soonest_37 (by decide) (fun c6 => ?_) (fun c6 => ?_)
      · replace h := (if_neg c6).symm.trans h
        refine x_iload_n hC dX8_soonest_43 rfl (j := 2) rfl <| ?_
        refine x_if_ne (tgt := 57) hC dX8_soonest_44 (by decide) (fun c7 => ?_) (fun c7 => ?_)
        · replace h := (if_neg c7).symm.trans h
          refine x_aload_n hC dX8_soonest_57 rfl (j := 0) rfl <| s_getR (q := 19) hC dX8_soonest_58 wfl_X8_54 rfl (by decide) (by decide) (by decide) (by decide) (by decide) <| s_getI hC dX8_soonest_61 wfl_X8_227 rfl (by decide) (by decide) (by decide) (by decide) <| ?_
          obtain ⟨e1, e2⟩ := xso2 h
          subst e1
          subst e2
          exact x_iret (rest := []) hC hE rfl dX8_soonest_64
        · replace h := (if_pos c7).symm.trans h
          refine x_aload_n hC dX8_soonest_47 rfl (j := 0) rfl <| s_getR (q := 19) hC dX8_soonest_48 wfl_X8_54 rfl (by decide) (by decide) (by decide) (by decide) (by decide) <| s_getI hC dX8_soonest_51 wfl_X8_224 rfl (by decide) (by decide) (by decide) (by decide) <| x_goto (tgt := 64) hC dX8_soonest_54 (by decide) <| ?_
          obtain ⟨e1, e2⟩ := xso2 h
          subst e1
          subst e2
          exact x_iret (rest := []) hC hE rfl dX8_soonest_64
      · replace h := (if_pos c6).symm.trans h
        refine x_bipush (v := (-2 : Int32)) hC dX8_soonest_40 (by decide) <| ?_
        obtain ⟨e1, e2⟩ := xso2 h
        subst e1
        subst e2
        exact x_iret (rest := []) hC hE rfl dX8_soonest_42
    · replace h := (if_pos c4).symm.trans h
      refine x_iconst (v := (-1 : Int32)) hC dX8_soonest_15 (by decide) <| ?_
      obtain ⟨e1, e2⟩ := xso2 h
      subst e1
      subst e2
      exact x_iret (rest := []) hC hE rfl dX8_soonest_16
set_option maxRecDepth 100000 in
set_option maxHeartbeats 4000000 in
theorem C_X8_taken {G : xG} {l : Launch} {a1 : Int32} {a2 : Int32} {σ : xS2} {r : Int32} (h : J_X8_taken a1 a2 σ = some r) : xC G l mM_X8_taken 2 [.ref (xad G 0), .int a1, .int a2] (xM σ) (some (.int r)) (xM σ) := by
  refine xC_of (by decide) rfl (Nat.le_refl _) (Nat.le_of_ble_eq_true rfl) (fun K hC hE hR _ => ?_)
  refine x_iload_n hC dX8_taken_0 rfl (j := 1) rfl <| x_callS hC hR dX8_taken_1 mK_X8_isShelf wml_X8_141 (C_X8_isShelf (a0 := a1) (σ := σ)) (by omega) rfl (Nat.le_of_ble_eq_true rfl) rfl rfl rfl <| ?_
  refine x_if_eq (tgt := 14) hC dX8_taken_4 (by decide) (fun c2 => ?_) (fun c2 => ?_)
  · replace h := (if_pos c2).symm.trans h
    refine x_iconst (v := (-1 : Int32)) hC dX8_taken_14 (by decide) <| ?_
    have e1 := Option.some.inj h
    subst e1
    exact x_iret (rest := []) hC hE rfl dX8_taken_15
  · replace h := (if_neg c2).symm.trans h
    refine x_iload_n hC dX8_taken_7 rfl (j := 2) rfl <| x_callS hC hR dX8_taken_8 mK_X7_isKind wml_X8_285 (C_X7_isKind (a0 := a2) (σ := σ)) (by omega) rfl (Nat.le_of_ble_eq_true rfl) rfl rfl rfl <| ?_
    refine x_if_ne (tgt := 16) hC dX8_taken_11 (by decide) (fun c4 => ?_) (fun c4 => ?_)
    · replace h := (if_neg c4).symm.trans h
      refine x_aload_n hC dX8_taken_16 rfl (j := 0) rfl <| s_getR (q := 27) hC dX8_taken_17 wfl_X8_67 rfl (by decide) (by decide) (by decide) (by decide) (by decide) <| x_iload_n hC dX8_taken_20 rfl (j := 1) rfl <| ?_
      obtain ⟨h5, h⟩ := xgd_some h
      refine s_aldq (q := (28 + 2 * a1.toNatClampNeg)) hC dX8_taken_21 rfl (by decide) h5 (xsh_rq h5) <| ?_
      refine x_callV hC hR dX8_taken_22 mK_X5_isEmpty wml_X8_144 (C_X5_isEmpty (a0 := (28 + 2 * a1.toNatClampNeg)) (σ := σ) (xsh_at h5)) (by omega) (xsh_at h5) (by decide) rfl rfl (xlo (xsh_at h5) (by decide)) rfl (Nat.le_of_ble_eq_true rfl) rfl rfl rfl <| ?_
      refine x_if_eq (tgt := 31) hC dX8_taken_25 (by decide) (fun c7 => ?_) (fun c7 => ?_)
      · replace h := (if_pos c7).symm.trans h
        refine x_aload_n hC dX8_taken_31 rfl (j := 0) rfl <| s_getR (q := 27) hC dX8_taken_32 wfl_X8_67 rfl (by decide) (by decide) (by decide) (by decide) (by decide) <| x_iload_n hC dX8_taken_35 rfl (j := 1) rfl <| ?_
        obtain ⟨h8, h⟩ := xgd_some h
        refine s_aldq (q := (28 + 2 * a1.toNatClampNeg)) hC dX8_taken_36 rfl (by decide) h8 (xsh_rq h8) <| ?_
        refine x_callV hC hR dX8_taken_37 mK_X5_isRow wml_X8_318 (C_X5_isRow (a0 := (28 + 2 * a1.toNatClampNeg)) (σ := σ) (xsh_at h8)) (by omega) (xsh_at h8) (by decide) rfl rfl (xlo (xsh_at h8) (by decide)) rfl (Nat.le_of_ble_eq_true rfl) rfl rfl rfl <| ?_
        refine x_if_eq (tgt := 46) hC dX8_taken_40 (by decide) (fun c10 => ?_) (fun c10 => ?_)
        · replace h := (if_pos c10).symm.trans h
          refine x_aload_n hC dX8_taken_46 rfl (j := 0) rfl <| s_getR (q := 40) hC dX8_taken_47 wfl_X8_75 rfl (by decide) (by decide) (by decide) (by decide) (by decide) <| x_aload_n hC dX8_taken_50 rfl (j := 0) rfl <| s_getR (q := 27) hC dX8_taken_51 wfl_X8_67 rfl (by decide) (by decide) (by decide) (by decide) (by decide) <| x_iload_n hC dX8_taken_54 rfl (j := 1) rfl <| ?_
          obtain ⟨h11, h⟩ := xgd_some h
          refine s_aldq (q := (28 + 2 * a1.toNatClampNeg)) hC dX8_taken_55 rfl (by decide) h11 (xsh_rq h11) <| ?_
          refine s_getI hC dX8_taken_56 wfl_X8_337 (xsh_at h11) (by decide) (by decide) (xlo (xsh_at h11) (by decide)) (by decide) <| ?_
          obtain ⟨x12, h12, h⟩ := Option.bind_eq_some_iff.mp h
          refine x_callV hC hR dX8_taken_59 mK_X7_kindOf wml_X8_340 (C_X7_kindOf (a1 := (σ.1 (28 + 2 * a1.toNatClampNeg) 2)) (σ := σ) h12) (by omega) rfl (by decide) rfl rfl (xlt (by decide)) rfl (Nat.le_of_ble_eq_true rfl) rfl rfl rfl <| ?_
          refine x_istore_n hC dX8_taken_62 rfl (by decide) rfl <| x_iload_n hC dX8_taken_63 rfl (j := 0) rfl <| x_iload_n hC dX8_taken_64 rfl (j := 3) rfl <| ?_
          obtain ⟨x13, h13, h⟩ := Option.bind_eq_some_iff.mp h
          refine x_callS hC hR dX8_taken_65 mK_X7_isUnder wml_X8_343 (C_X7_isUnder (a0 := x12) (a1 := a2) (σ := σ) h13) (by omega) rfl (Nat.le_of_ble_eq_true rfl) rfl rfl rfl <| ?_
          refine x_if_eq (tgt := 75) hC dX8_taken_68 (by decide) (fun c14 => ?_) (fun c14 => ?_)
          · replace h := (if_pos c14).symm.trans h
            refine x_bipush (v := (-12 : Int32)) hC dX8_taken_75 (by decide) <| ?_
            have e1 := Option.some.inj h
            subst e1
            exact x_iret (rest := []) hC hE rfl dX8_taken_77
          · replace h := (if_neg c14).symm.trans h
            refine x_iload_n hC dX8_taken_71 rfl (j := 0) rfl <| x_goto (tgt := 77) hC dX8_taken_72 (by decide) <| ?_
            have e1 := Option.some.inj h
            subst e1
            exact x_iret (rest := []) hC hE rfl dX8_taken_77
        · replace h := (if_neg c10).symm.trans h
          refine x_bipush (v := (-12 : Int32)) hC dX8_taken_43 (by decide) <| ?_
          have e1 := Option.some.inj h
          subst e1
          exact x_iret (rest := []) hC hE rfl dX8_taken_45
      · replace h := (if_neg c7).symm.trans h
        refine x_bipush (v := (-11 : Int32)) hC dX8_taken_28 (by decide) <| ?_
        have e1 := Option.some.inj h
        subst e1
        exact x_iret (rest := []) hC hE rfl dX8_taken_30
    · replace h := (if_pos c4).symm.trans h
      refine x_iconst (v := (-1 : Int32)) hC dX8_taken_14 (by decide) <| ?_
      have e1 := Option.some.inj h
      subst e1
      exact x_iret (rest := []) hC hE rfl dX8_taken_15
set_option maxRecDepth 100000 in
set_option maxHeartbeats 4000000 in
theorem C_X8_trace {G : xG} {l : Launch} {a1 : Int32} {σ : xS2} {r : Int32} (h : J_X8_trace a1 σ = some r) : xC G l mM_X8_trace 1 [.ref (xad G 0), .int a1] (xM σ) (some (.int r)) (xM σ) := by
  refine xC_of (by decide) rfl (Nat.le_refl _) (Nat.le_of_ble_eq_true rfl) (fun K hC hE hR _ => ?_)
  refine x_aload_n hC dX8_trace_0 rfl (j := 0) rfl <| s_getR (q := 40) hC dX8_trace_1 wfl_X8_75 rfl (by decide) (by decide) (by decide) (by decide) (by decide) <| x_iload_n hC dX8_trace_4 rfl (j := 1) rfl <| ?_
  obtain ⟨x1, h1, h⟩ := Option.bind_eq_some_iff.mp h
  refine x_callV hC hR dX8_trace_5 mK_X7_ranAt wml_X8_295 (C_X7_ranAt (a1 := a1) (σ := σ) h1) (by omega) rfl (by decide) rfl rfl (xlt (by decide)) rfl (Nat.le_of_ble_eq_true rfl) rfl rfl rfl <| ?_
  refine x_istore_n hC dX8_trace_8 rfl (by decide) rfl <| x_iload_n hC dX8_trace_9 rfl (j := 0) rfl <| ?_
  refine x_if_ge (tgt := 17) hC dX8_trace_10 (by decide) (fun c2 => ?_) (fun c2 => ?_)
  · replace h := (if_pos c2).symm.trans h
    refine x_iload_n hC dX8_trace_17 rfl (j := 0) rfl <| ?_
    have e1 := Option.some.inj h
    subst e1
    exact x_iret (rest := []) hC hE rfl dX8_trace_18
  · replace h := (if_neg c2).symm.trans h
    refine x_iconst (v := (-1 : Int32)) hC dX8_trace_13 (by decide) <| x_goto (tgt := 18) hC dX8_trace_14 (by decide) <| ?_
    have e1 := Option.some.inj h
    subst e1
    exact x_iret (rest := []) hC hE rfl dX8_trace_18
set_option maxRecDepth 100000 in
set_option maxHeartbeats 4000000 in
theorem C_X8_undo {G : xG} {l : Launch} {σ : xS2} {r : Int32} {τ : xS2} (h : J_X8_undo σ = some (r, τ)) : xC G l mM_X8_undo 2 [.ref (xad G 0)] (xM σ) (some (.int r)) (xM τ) := by
  refine xC_of (by decide) rfl (Nat.le_refl _) (Nat.le_of_ble_eq_true rfl) (fun K hC hE hR _ => ?_)
  refine x_aload_n hC dX8_undo_0 rfl (j := 0) rfl <| s_getR (q := 23) hC dX8_undo_1 wfl_X8_61 rfl (by decide) (by decide) (by decide) (by decide) (by decide) <| x_aload_n hC dX8_undo_4 rfl (j := 0) rfl <| s_getR (q := 1) hC dX8_undo_5 wfl_X8_10 rfl (by decide) (by decide) (by decide) (by decide) (by decide) <| ?_
  obtain ⟨x1, h1, h⟩ := Option.bind_eq_some_iff.mp h
  refine x_callV hC hR dX8_undo_8 mK_X1_takeBack wml_X8_272 (C_X1_takeBack (σ := σ) h1) (by omega) rfl (by decide) rfl rfl (xlt (by decide)) rfl (Nat.le_of_ble_eq_true rfl) rfl rfl rfl <| ?_
  refine x_if_eq (tgt := 24) hC dX8_undo_11 (by decide) (fun c2 => ?_) (fun c2 => ?_)
  · replace h := (if_pos c2).symm.trans h
    refine x_bipush (v := (-5 : Int32)) hC dX8_undo_24 (by decide) <| ?_
    obtain ⟨e1, e2⟩ := xso2 h
    subst e1
    subst e2
    exact x_iret (rest := []) hC hE rfl dX8_undo_26
  · replace h := (if_neg c2).symm.trans h
    refine x_aload_n hC dX8_undo_14 rfl (j := 0) rfl <| s_getR (q := 23) hC dX8_undo_15 wfl_X8_61 rfl (by decide) (by decide) (by decide) (by decide) (by decide) <| s_getI hC dX8_undo_18 wfl_X8_276 rfl (by decide) (by decide) (by decide) (by decide) <| x_goto (tgt := 26) hC dX8_undo_21 (by decide) <| ?_
    obtain ⟨e1, e2⟩ := xso2 h
    subst e1
    subst e2
    exact x_iret (rest := []) hC hE rfl dX8_undo_26
set_option maxRecDepth 100000 in
set_option maxHeartbeats 4000000 in
theorem C_X9_in {G : xG} {l : Launch} {a0 : Int32} {a1 : Int32} {a2 : Int32} {σ : xS2} : xC G l mM_X9_in 0 [.int a0, .int a1, .int a2] (xM σ) (some (.int (xb (J_X9_in a0 a1 a2)))) (xM σ) := by
  refine xC_of (by decide) rfl (Nat.le_refl _) (Nat.le_of_ble_eq_true rfl) (fun K hC hE hR _ => ?_)
  obtain ⟨r, h⟩ : ∃ r, J_X9_in a0 a1 a2 = r := ⟨_, rfl⟩
  rw [h] at hE
  refine x_iload_n hC dX9_in_0 rfl (j := 0) rfl <| x_iload_n hC dX9_in_1 rfl (j := 1) rfl <| ?_
  refine x_icmp_lt (tgt := 14) hC dX9_in_2 (by decide) (fun c1 => ?_) (fun c1 => ?_)
  · replace h := (if_pos c1).symm.trans h
    refine x_iconst (v := (0 : Int32)) hC dX9_in_14 (by decide) <| ?_
    subst h
    exact x_zret (rest := []) hC hE rfl (by decide) dX9_in_15
  · replace h := (if_neg c1).symm.trans h
    refine x_iload_n hC dX9_in_5 rfl (j := 0) rfl <| x_iload_n hC dX9_in_6 rfl (j := 2) rfl <| ?_
    refine x_icmp_gt (tgt := 14) hC dX9_in_7 (by decide) (fun c2 => ?_) (fun c2 => ?_)
    · replace h := (if_pos c2).symm.trans h
      refine x_iconst (v := (0 : Int32)) hC dX9_in_14 (by decide) <| ?_
      subst h
      exact x_zret (rest := []) hC hE rfl (by decide) dX9_in_15
    · replace h := (if_neg c2).symm.trans h
      refine x_iconst (v := (1 : Int32)) hC dX9_in_10 (by decide) <| x_goto (tgt := 15) hC dX9_in_11 (by decide) <| ?_
      subst h
      exact x_zret (rest := []) hC hE rfl (by decide) dX9_in_15
set_option maxRecDepth 100000 in
set_option maxHeartbeats 4000000 in
theorem C_X9_isBody {G : xG} {l : Launch} {a1 : Int32} {σ : xS2} : xC G l mM_X9_isBody 1 [.ref (xad G 43), .int a1] (xM σ) (some (.int (xb (J_X9_isBody a1 σ)))) (xM σ) := by
  refine xC_of (by decide) rfl (Nat.le_refl _) (Nat.le_of_ble_eq_true rfl) (fun K hC hE hR _ => ?_)
  obtain ⟨r, h⟩ : ∃ r, J_X9_isBody a1 σ = r := ⟨_, rfl⟩
  rw [h] at hE
  refine x_iload_n hC dX9_isBody_0 rfl (j := 1) rfl <| x_iconst (v := (0 : Int32)) hC dX9_isBody_1 (by decide) <| x_aload_n hC dX9_isBody_2 rfl (j := 0) rfl <| s_getI hC dX9_isBody_3 wfl_X9_373 rfl (by decide) (by decide) (by decide) (by decide) <| x_iconst (v := (1 : Int32)) hC dX9_isBody_6 (by decide) <| x_isub hC dX9_isBody_7 <| ?_
  refine x_callS hC hR dX9_isBody_8 mK_X9_in wml_X9_116 (C_X9_in (a0 := a1) (a1 := (0 : Int32)) (a2 := ((σ.1 43 52) - (1 : Int32))) (σ := σ)) (by omega) rfl (Nat.le_of_ble_eq_true rfl) rfl rfl rfl <| ?_
  subst h
  exact x_zret (rest := []) hC hE rfl (rfl) dX9_isBody_11
set_option maxRecDepth 100000 in
set_option maxHeartbeats 4000000 in
theorem B_X9_ran_19 {G : xG} {l : Launch} {K : xK} {τ : xS2} (hC : xCX G mM_X9_ran K) (hR : xRd K 0) (hE : xE G K none (xM τ)) : ∀ (σ : xS2), J_X9_ran_19 σ = some τ → xV G l mM_X9_ran K 19 [(0, .ref (xad G 43))] [] (xM σ) := by
  intro σ h
  refine x_aload_n hC dX9_ran_19 rfl (j := 0) rfl <| x_dup hC dX9_ran_20 rfl <| s_getI hC dX9_ran_21 wfl_X9_376 rfl (by decide) (by decide) (by decide) (by decide) <| x_iconst (v := (1 : Int32)) hC dX9_ran_24 (by decide) <| x_iadd hC dX9_ran_25 <| s_putI hC dX9_ran_26 wfl_X9_376 rfl (by decide) (by decide) (by decide) (by decide) (by decide) <| ?_
  have e1 := Option.some.inj h
  subst e1
  exact x_vret (rest := []) hC hE rfl dX9_ran_29
set_option maxRecDepth 100000 in
set_option maxHeartbeats 4000000 in
theorem C_X9_ran {G : xG} {l : Launch} {a1 : Int32} {σ : xS2} {τ : xS2} (h : J_X9_ran a1 σ = some τ) : xC G l mM_X9_ran 0 [.ref (xad G 43), .int a1] (xM σ) none (xM τ) := by
  refine xC_of (by decide) rfl (Nat.le_refl _) (Nat.le_of_ble_eq_true rfl) (fun K hC hE hR _ => ?_)
  refine x_aload_n hC dX9_ran_0 rfl (j := 0) rfl <| s_getI hC dX9_ran_1 wfl_X9_376 rfl (by decide) (by decide) (by decide) (by decide) <| x_bipush (v := (24 : Int32)) hC dX9_ran_4 (by decide) <| ?_
  refine x_icmp_ge (tgt := 19) hC dX9_ran_6 (by decide) (fun c1 => ?_) (fun c1 => ?_)
  · replace h := (if_pos c1).symm.trans h
    refine x_sub [0] rfl ?_
    exact B_X9_ran_19 hC hR hE σ h
  · replace h := (if_neg c1).symm.trans h
    refine x_aload_n hC dX9_ran_9 rfl (j := 0) rfl <| s_getR (q := 69) hC dX9_ran_10 wfl_X9_97 rfl (by decide) (by decide) (by decide) (by decide) (by decide) <| x_aload_n hC dX9_ran_13 rfl (j := 0) rfl <| s_getI hC dX9_ran_14 wfl_X9_376 rfl (by decide) (by decide) (by decide) (by decide) <| x_iload_n hC dX9_ran_17 rfl (j := 1) rfl <| ?_
    obtain ⟨h2, h⟩ := xgd_some h
    refine s_iast hC dX9_ran_18 rfl (by decide) h2 <| ?_
    refine x_sub [0] rfl ?_
    exact B_X9_ran_19 hC hR hE (yI σ 69 (σ.1 43 54).toNatClampNeg a1) h
set_option maxRecDepth 100000 in
set_option maxHeartbeats 4000000 in
theorem C_X9_plainLooks {G : xG} {l : Launch} {a1 : Int32} {a2 : Int32} {σ : xS2} {r : Int32} {τ : xS2} (h : J_X9_plainLooks a1 a2 σ = some (r, τ)) : xC G l mM_X9_plainLooks 1 [.ref (xad G 43), .int a1, .int a2] (xM σ) (some (.int r)) (xM τ) := by
  refine xC_of (by decide) rfl (Nat.le_refl _) (Nat.le_of_ble_eq_true rfl) (fun K hC hE hR _ => ?_)
  refine x_aload_n hC dX9_plainLooks_0 rfl (j := 0) rfl <| x_bipush (v := (11 : Int32)) hC dX9_plainLooks_1 (by decide) <| ?_
  obtain ⟨x1, h1, h⟩ := Option.bind_eq_some_iff.mp h
  refine x_callV hC hR dX9_plainLooks_3 mK_X9_ran wml_X9_379 (C_X9_ran (a1 := (11 : Int32)) (σ := σ) h1) (by omega) rfl (by decide) rfl rfl (xlt (by decide)) rfl (Nat.le_of_ble_eq_true rfl) rfl rfl rfl <| ?_
  refine x_iload_n hC dX9_plainLooks_6 rfl (j := 2) rfl <| x_iload_n hC dX9_plainLooks_7 rfl (j := 1) rfl <| x_ixor hC dX9_plainLooks_8 <| ?_
  obtain ⟨e1, e2⟩ := xso2 h
  subst e1
  subst e2
  exact x_iret (rest := []) hC hE rfl dX9_plainLooks_9
set_option maxRecDepth 100000 in
set_option maxHeartbeats 4000000 in
theorem C_X9_cleanLooks {G : xG} {l : Launch} {a1 : Int32} {a2 : Int32} {σ : xS2} {r : Int32} {τ : xS2} (h : J_X9_cleanLooks a1 a2 σ = some (r, τ)) : xC G l mM_X9_cleanLooks 2 [.ref (xad G 43), .int a1, .int a2] (xM σ) (some (.int r)) (xM τ) := by
  refine xC_of (by decide) rfl (Nat.le_refl _) (Nat.le_of_ble_eq_true rfl) (fun K hC hE hR _ => ?_)
  refine x_aload_n hC dX9_cleanLooks_0 rfl (j := 0) rfl <| x_bipush (v := (40 : Int32)) hC dX9_cleanLooks_1 (by decide) <| ?_
  obtain ⟨x1, h1, h⟩ := Option.bind_eq_some_iff.mp h
  refine x_callV hC hR dX9_cleanLooks_3 mK_X9_ran wml_X9_379 (C_X9_ran (a1 := (40 : Int32)) (σ := σ) h1) (by omega) rfl (by decide) rfl rfl (xlt (by decide)) rfl (Nat.le_of_ble_eq_true rfl) rfl rfl rfl <| ?_
  refine x_aload_n hC dX9_cleanLooks_6 rfl (j := 0) rfl <| x_iload_n hC dX9_cleanLooks_7 rfl (j := 1) rfl <| x_iload_n hC dX9_cleanLooks_8 rfl (j := 2) rfl <| ?_
  obtain ⟨x2, h2, h⟩ := Option.bind_eq_some_iff.mp h
  refine x_callV hC hR dX9_cleanLooks_9 mK_X9_plainLooks wml_X9_403 (C_X9_plainLooks (a1 := a1) (a2 := a2) (σ := x1) h2) (by omega) rfl (by decide) rfl rfl (xlt (by decide)) rfl (Nat.le_of_ble_eq_true rfl) rfl rfl rfl <| ?_
  refine x_iconst (v := (3 : Int32)) hC dX9_cleanLooks_12 (by decide) <| x_imul hC dX9_cleanLooks_13 <| ?_
  obtain ⟨e1, e2⟩ := xso2 h
  subst e1
  subst e2
  exact x_iret (rest := []) hC hE rfl dX9_cleanLooks_14
set_option maxRecDepth 100000 in
set_option maxHeartbeats 4000000 in
theorem B_X9_isUnder_56 {G : xG} {l : Launch} {K : xK} {r : Bool} {σ : xS2} (hC : xCX G mM_X9_isUnder K) (hR : xRd K 0) (hE : xE G K (some (.int (xb r))) (xM σ)) : J_X9_isUnder_56 = r → xV G l mM_X9_isUnder K 56 [] [] (xM σ) := by
  intro  h
  refine x_iconst (v := (1 : Int32)) hC dX9_isUnder_56 (by decide) <| x_goto (tgt := 61) hC dX9_isUnder_57 (by decide) <| ?_
  subst h
  exact x_zret (rest := []) hC hE rfl (by decide) dX9_isUnder_61
set_option maxRecDepth 100000 in
set_option maxHeartbeats 4000000 in
theorem B_X9_isUnder_44 {G : xG} {l : Launch} {K : xK} {r : Bool} {σ : xS2} (hC : xCX G mM_X9_isUnder K) (hR : xRd K 0) (hE : xE G K (some (.int (xb r))) (xM σ)) : ∀ (l0 : Int32) (l1 : Int32), J_X9_isUnder_44 l0 l1 = r → xV G l mM_X9_isUnder K 44 [(0, .int l0), (1, .int l1)] [] (xM σ) := by
  intro l0 l1 h
  refine x_iload_n hC dX9_isUnder_44 rfl (j := 1) rfl <| x_bipush (v := (6 : Int32)) hC dX9_isUnder_45 (by decide) <| ?_
  refine x_icmp_ne (tgt := 60) hC dX9_isUnder_47 (by decide) (fun c6 => ?_) (fun c6 => ?_)
  · replace h := (if_neg c6).symm.trans h
    refine x_iconst (v := (0 : Int32)) hC dX9_isUnder_60 (by decide) <| ?_
    subst h
    exact x_zret (rest := []) hC hE rfl (by decide) dX9_isUnder_61
  · replace h := (if_pos c6).symm.trans h
    refine x_iload_n hC dX9_isUnder_50 rfl (j := 0) rfl <| x_bipush (v := (7 : Int32)) hC dX9_isUnder_51 (by decide) <| ?_
    refine x_icmp_ne (tgt := 60) hC dX9_isUnder_53 (by decide) (fun c7 => ?_) (fun c7 => ?_)
    · replace h := (if_neg c7).symm.trans h
      refine x_iconst (v := (0 : Int32)) hC dX9_isUnder_60 (by decide) <| ?_
      subst h
      exact x_zret (rest := []) hC hE rfl (by decide) dX9_isUnder_61
    · replace h := (if_pos c7).symm.trans h
      refine x_sub [] rfl ?_
      exact B_X9_isUnder_56 hC hR hE  h
set_option maxRecDepth 100000 in
set_option maxHeartbeats 4000000 in
theorem B_X9_isUnder_34 {G : xG} {l : Launch} {K : xK} {r : Bool} {σ : xS2} (hC : xCX G mM_X9_isUnder K) (hR : xRd K 0) (hE : xE G K (some (.int (xb r))) (xM σ)) : ∀ (l0 : Int32) (l1 : Int32), J_X9_isUnder_34 l0 l1 = r → xV G l mM_X9_isUnder K 34 [(0, .int l0), (1, .int l1)] [] (xM σ) := by
  intro l0 l1 h
  refine x_iload_n hC dX9_isUnder_34 rfl (j := 1) rfl <| x_iconst (v := (3 : Int32)) hC dX9_isUnder_35 (by decide) <| ?_
  refine x_icmp_ne (tgt := 44) hC dX9_isUnder_36 (by decide) (fun c5 => ?_) (fun c5 => ?_)
  · replace h := (if_neg c5).symm.trans h
    refine x_sub [0, 1] rfl ?_
    exact B_X9_isUnder_44 hC hR hE l0 l1 h
  · replace h := (if_pos c5).symm.trans h
    refine x_iload_n hC dX9_isUnder_39 rfl (j := 0) rfl <| x_iconst (v := (5 : Int32)) hC dX9_isUnder_40 (by decide) <| ?_
    refine x_icmp_eq (tgt := 56) hC dX9_isUnder_41 (by decide) (fun c8 => ?_) (fun c8 => ?_)
    · replace h := (if_pos c8).symm.trans h
      refine x_sub [] rfl ?_
      exact B_X9_isUnder_56 hC hR hE  h
    · replace h := (if_neg c8).symm.trans h
      refine x_sub [0, 1] rfl ?_
      exact B_X9_isUnder_44 hC hR hE l0 l1 h
set_option maxRecDepth 100000 in
set_option maxHeartbeats 4000000 in
theorem B_X9_isUnder_19 {G : xG} {l : Launch} {K : xK} {r : Bool} {σ : xS2} (hC : xCX G mM_X9_isUnder K) (hR : xRd K 0) (hE : xE G K (some (.int (xb r))) (xM σ)) : ∀ (l0 : Int32) (l1 : Int32), J_X9_isUnder_19 l0 l1 = r → xV G l mM_X9_isUnder K 19 [(0, .int l0), (1, .int l1)] [] (xM σ) := by
  intro l0 l1 h
  refine x_iload_n hC dX9_isUnder_19 rfl (j := 1) rfl <| x_iconst (v := (2 : Int32)) hC dX9_isUnder_20 (by decide) <| ?_
  refine x_icmp_ne (tgt := 34) hC dX9_isUnder_21 (by decide) (fun c4 => ?_) (fun c4 => ?_)
  · replace h := (if_neg c4).symm.trans h
    refine x_sub [0, 1] rfl ?_
    exact B_X9_isUnder_34 hC hR hE l0 l1 h
  · replace h := (if_pos c4).symm.trans h
    refine x_iload_n hC dX9_isUnder_24 rfl (j := 0) rfl <| x_iconst (v := (3 : Int32)) hC dX9_isUnder_25 (by decide) <| ?_
    refine x_icmp_eq (tgt := 56) hC dX9_isUnder_26 (by decide) (fun c9 => ?_) (fun c9 => ?_)
    · replace h := (if_pos c9).symm.trans h
      refine x_sub [] rfl ?_
      exact B_X9_isUnder_56 hC hR hE  h
    · replace h := (if_neg c9).symm.trans h
      refine x_iload_n hC dX9_isUnder_29 rfl (j := 0) rfl <| x_iconst (v := (5 : Int32)) hC dX9_isUnder_30 (by decide) <| ?_
      refine x_icmp_eq (tgt := 56) hC dX9_isUnder_31 (by decide) (fun c10 => ?_) (fun c10 => ?_)
      · replace h := (if_pos c10).symm.trans h
        refine x_sub [] rfl ?_
        exact B_X9_isUnder_56 hC hR hE  h
      · replace h := (if_neg c10).symm.trans h
        refine x_sub [0, 1] rfl ?_
        exact B_X9_isUnder_34 hC hR hE l0 l1 h
set_option maxRecDepth 100000 in
set_option maxHeartbeats 4000000 in
theorem C_X9_isUnder {G : xG} {l : Launch} {a0 : Int32} {a1 : Int32} {σ : xS2} : xC G l mM_X9_isUnder 0 [.int a0, .int a1] (xM σ) (some (.int (xb (J_X9_isUnder a0 a1)))) (xM σ) := by
  refine xC_of (by decide) rfl (Nat.le_refl _) (Nat.le_of_ble_eq_true rfl) (fun K hC hE hR _ => ?_)
  obtain ⟨r, h⟩ : ∃ r, J_X9_isUnder a0 a1 = r := ⟨_, rfl⟩
  rw [h] at hE
  refine x_iload_n hC dX9_isUnder_0 rfl (j := 1) rfl <| ?_
  refine x_if_eq (tgt := 56) hC dX9_isUnder_1 (by decide) (fun c1 => ?_) (fun c1 => ?_)
  · replace h := (if_pos c1).symm.trans h
    refine x_sub [] rfl ?_
    exact B_X9_isUnder_56 hC hR hE  h
  · replace h := (if_neg c1).symm.trans h
    refine x_iload_n hC dX9_isUnder_4 rfl (j := 0) rfl <| x_iload_n hC dX9_isUnder_5 rfl (j := 1) rfl <| ?_
    refine x_icmp_eq (tgt := 56) hC dX9_isUnder_6 (by decide) (fun c2 => ?_) (fun c2 => ?_)
    · replace h := (if_pos c2).symm.trans h
      refine x_sub [] rfl ?_
      exact B_X9_isUnder_56 hC hR hE  h
    · replace h := (if_neg c2).symm.trans h
      refine x_iload_n hC dX9_isUnder_9 rfl (j := 1) rfl <| x_iconst (v := (1 : Int32)) hC dX9_isUnder_10 (by decide) <| ?_
      refine x_icmp_ne (tgt := 19) hC dX9_isUnder_11 (by decide) (fun c3 => ?_) (fun c3 => ?_)
      · replace h := (if_neg c3).symm.trans h
        refine x_sub [0, 1] rfl ?_
        exact B_X9_isUnder_19 hC hR hE a0 a1 h
      · replace h := (if_pos c3).symm.trans h
        refine x_iload_n hC dX9_isUnder_14 rfl (j := 0) rfl <| x_iconst (v := (4 : Int32)) hC dX9_isUnder_15 (by decide) <| ?_
        refine x_icmp_eq (tgt := 56) hC dX9_isUnder_16 (by decide) (fun c11 => ?_) (fun c11 => ?_)
        · replace h := (if_pos c11).symm.trans h
          refine x_sub [] rfl ?_
          exact B_X9_isUnder_56 hC hR hE  h
        · replace h := (if_neg c11).symm.trans h
          refine x_sub [0, 1] rfl ?_
          exact B_X9_isUnder_19 hC hR hE a0 a1 h
set_option maxRecDepth 100000 in
set_option maxHeartbeats 4000000 in
theorem C_X9_plainTurns {G : xG} {l : Launch} {a1 : Int32} {a2 : Int32} {σ : xS2} {r : Int32} {τ : xS2} (h : J_X9_plainTurns a1 a2 σ = some (r, τ)) : xC G l mM_X9_plainTurns 1 [.ref (xad G 43), .int a1, .int a2] (xM σ) (some (.int r)) (xM τ) := by
  refine xC_of (by decide) rfl (Nat.le_refl _) (Nat.le_of_ble_eq_true rfl) (fun K hC hE hR _ => ?_)
  refine x_aload_n hC dX9_plainTurns_0 rfl (j := 0) rfl <| x_iconst (v := (1 : Int32)) hC dX9_plainTurns_1 (by decide) <| ?_
  obtain ⟨x1, h1, h⟩ := Option.bind_eq_some_iff.mp h
  refine x_callV hC hR dX9_plainTurns_2 mK_X9_ran wml_X9_379 (C_X9_ran (a1 := (1 : Int32)) (σ := σ) h1) (by omega) rfl (by decide) rfl rfl (xlt (by decide)) rfl (Nat.le_of_ble_eq_true rfl) rfl rfl rfl <| ?_
  refine x_iload_n hC dX9_plainTurns_5 rfl (j := 2) rfl <| x_iload_n hC dX9_plainTurns_6 rfl (j := 1) rfl <| x_iadd hC dX9_plainTurns_7 <| ?_
  obtain ⟨e1, e2⟩ := xso2 h
  subst e1
  subst e2
  exact x_iret (rest := []) hC hE rfl dX9_plainTurns_8
set_option maxRecDepth 100000 in
set_option maxHeartbeats 4000000 in
theorem C_X9_northTurns {G : xG} {l : Launch} {a1 : Int32} {a2 : Int32} {σ : xS2} {r : Int32} {τ : xS2} (h : J_X9_northTurns a1 a2 σ = some (r, τ)) : xC G l mM_X9_northTurns 2 [.ref (xad G 43), .int a1, .int a2] (xM σ) (some (.int r)) (xM τ) := by
  refine xC_of (by decide) rfl (Nat.le_refl _) (Nat.le_of_ble_eq_true rfl) (fun K hC hE hR _ => ?_)
  refine x_aload_n hC dX9_northTurns_0 rfl (j := 0) rfl <| x_bipush (v := (70 : Int32)) hC dX9_northTurns_1 (by decide) <| ?_
  obtain ⟨x1, h1, h⟩ := Option.bind_eq_some_iff.mp h
  refine x_callV hC hR dX9_northTurns_3 mK_X9_ran wml_X9_379 (C_X9_ran (a1 := (70 : Int32)) (σ := σ) h1) (by omega) rfl (by decide) rfl rfl (xlt (by decide)) rfl (Nat.le_of_ble_eq_true rfl) rfl rfl rfl <| ?_
  refine x_aload_n hC dX9_northTurns_6 rfl (j := 0) rfl <| x_iload_n hC dX9_northTurns_7 rfl (j := 1) rfl <| x_iload_n hC dX9_northTurns_8 rfl (j := 2) rfl <| ?_
  obtain ⟨x2, h2, h⟩ := Option.bind_eq_some_iff.mp h
  refine x_callV hC hR dX9_northTurns_9 mK_X9_plainTurns wml_X9_382 (C_X9_plainTurns (a1 := a1) (a2 := a2) (σ := x1) h2) (by omega) rfl (by decide) rfl rfl (xlt (by decide)) rfl (Nat.le_of_ble_eq_true rfl) rfl rfl rfl <| ?_
  refine x_iconst (v := (2 : Int32)) hC dX9_northTurns_12 (by decide) <| x_imul hC dX9_northTurns_13 <| ?_
  obtain ⟨e1, e2⟩ := xso2 h
  subst e1
  subst e2
  exact x_iret (rest := []) hC hE rfl dX9_northTurns_14
set_option maxRecDepth 100000 in
set_option maxHeartbeats 4000000 in
theorem C_X9_turning {G : xG} {l : Launch} {a1 : Int32} {a2 : Int32} {σ : xS2} {r : Int32} {τ : xS2} (h : J_X9_turning a1 a2 σ = some (r, τ)) : xC G l mM_X9_turning 3 [.ref (xad G 43), .int a1, .int a2] (xM σ) (some (.int r)) (xM τ) := by
  refine xC_of (by decide) rfl (Nat.le_refl _) (Nat.le_of_ble_eq_true rfl) (fun K hC hE hR _ => ?_)
  refine x_aload_n hC dX9_turning_0 rfl (j := 0) rfl <| s_getR (q := 68) hC dX9_turning_1 wfl_X9_94 rfl (by decide) (by decide) (by decide) (by decide) (by decide) <| x_iload_n hC dX9_turning_4 rfl (j := 1) rfl <| ?_
  obtain ⟨h1, h⟩ := xgd_some h
  refine s_iald hC dX9_turning_5 rfl (by decide) h1 <| ?_
  refine x_iconst (v := (1 : Int32)) hC dX9_turning_6 (by decide) <| x_callS hC hR dX9_turning_7 mK_X9_isUnder wml_X9_385 (C_X9_isUnder (a0 := (σ.1 68 a1.toNatClampNeg)) (a1 := (1 : Int32)) (σ := σ)) (by omega) rfl (Nat.le_of_ble_eq_true rfl) rfl rfl rfl <| ?_
  refine x_if_eq (tgt := 28) hC dX9_turning_10 (by decide) (fun c3 => ?_) (fun c3 => ?_)
  · replace h := (if_pos c3).symm.trans h
    refine x_aload_n hC dX9_turning_28 rfl (j := 0) rfl <| s_getR (q := 68) hC dX9_turning_29 wfl_X9_94 rfl (by decide) (by decide) (by decide) (by decide) (by decide) <| x_iload_n hC dX9_turning_32 rfl (j := 1) rfl <| ?_
    obtain ⟨h4, h⟩ := xgd_some h
    refine s_iald hC dX9_turning_33 rfl (by decide) h4 <| ?_
    refine x_bipush (v := (7 : Int32)) hC dX9_turning_34 (by decide) <| ?_
    refine x_icmp_ne (tgt := 54) hC dX9_turning_36 (by decide) (fun c5 => ?_) (fun c5 => ?_)
    · replace h := (if_neg c5).symm.trans h
      refine x_aload_n hC dX9_turning_54 rfl (j := 0) rfl <| s_getR (q := 68) hC dX9_turning_55 wfl_X9_94 rfl (by decide) (by decide) (by decide) (by decide) (by decide) <| x_iload_n hC dX9_turning_58 rfl (j := 1) rfl <| ?_
      obtain ⟨h6, h⟩ := xgd_some h
      refine s_iald hC dX9_turning_59 rfl (by decide) h6 <| ?_
      refine x_bipush (v := (6 : Int32)) hC dX9_turning_60 (by decide) <| ?_
      refine x_icmp_ne (tgt := 74) hC dX9_turning_62 (by decide) (fun c7 => ?_) (fun c7 => ?_)
      · replace h := (if_neg c7).symm.trans h
        refine x_aload_n hC dX9_turning_74 rfl (j := 0) rfl <| x_iload_n hC dX9_turning_75 rfl (j := 1) rfl <| x_iload_n hC dX9_turning_76 rfl (j := 2) rfl <| ?_
        obtain ⟨x8, h8, h⟩ := Option.bind_eq_some_iff.mp h
        refine x_callV hC hR dX9_turning_77 mK_X9_plainTurns wml_X9_382 (C_X9_plainTurns (a1 := a1) (a2 := a2) (σ := σ) h8) (by omega) rfl (by decide) rfl rfl (xlt (by decide)) rfl (Nat.le_of_ble_eq_true rfl) rfl rfl rfl <| ?_
        obtain ⟨e1, e2⟩ := xso2 h
        subst e1
        subst e2
        exact x_iret (rest := []) hC hE rfl dX9_turning_80
      · replace h := (if_pos c7).symm.trans h
        refine x_aload_n hC dX9_turning_65 rfl (j := 0) rfl <| x_iload_n hC dX9_turning_66 rfl (j := 1) rfl <| x_iload_n hC dX9_turning_67 rfl (j := 2) rfl <| ?_
        obtain ⟨x9, h9, h⟩ := Option.bind_eq_some_iff.mp h
        refine x_callV hC hR dX9_turning_68 mK_X9_northTurns wml_X9_388 (C_X9_northTurns (a1 := a1) (a2 := a2) (σ := σ) h9) (by omega) rfl (by decide) rfl rfl (xlt (by decide)) rfl (Nat.le_of_ble_eq_true rfl) rfl rfl rfl <| ?_
        refine x_goto (tgt := 80) hC dX9_turning_71 (by decide) <| ?_
        obtain ⟨e1, e2⟩ := xso2 h
        subst e1
        subst e2
        exact x_iret (rest := []) hC hE rfl dX9_turning_80
    · replace h := (if_pos c5).symm.trans h
      refine x_aload_n hC dX9_turning_39 rfl (j := 0) rfl <| x_bipush (v := (81 : Int32)) hC dX9_turning_40 (by decide) <| ?_
      obtain ⟨x10, h10, h⟩ := Option.bind_eq_some_iff.mp h
      refine x_callV hC hR dX9_turning_42 mK_X9_ran wml_X9_379 (C_X9_ran (a1 := (81 : Int32)) (σ := σ) h10) (by omega) rfl (by decide) rfl rfl (xlt (by decide)) rfl (Nat.le_of_ble_eq_true rfl) rfl rfl rfl <| ?_
      refine x_aload_n hC dX9_turning_45 rfl (j := 0) rfl <| x_iload_n hC dX9_turning_46 rfl (j := 1) rfl <| x_iload_n hC dX9_turning_47 rfl (j := 2) rfl <| ?_
      obtain ⟨x11, h11, h⟩ := Option.bind_eq_some_iff.mp h
      refine x_callV hC hR dX9_turning_48 mK_X9_northTurns wml_X9_388 (C_X9_northTurns (a1 := a1) (a2 := a2) (σ := x10) h11) (by omega) rfl (by decide) rfl rfl (xlt (by decide)) rfl (Nat.le_of_ble_eq_true rfl) rfl rfl rfl <| ?_
      refine x_iconst (v := (1 : Int32)) hC dX9_turning_51 (by decide) <| x_isub hC dX9_turning_52 <| ?_
      obtain ⟨e1, e2⟩ := xso2 h
      subst e1
      subst e2
      exact x_iret (rest := []) hC hE rfl dX9_turning_53
  · replace h := (if_neg c3).symm.trans h
    refine x_aload_n hC dX9_turning_13 rfl (j := 0) rfl <| x_bipush (v := (20 : Int32)) hC dX9_turning_14 (by decide) <| ?_
    obtain ⟨x12, h12, h⟩ := Option.bind_eq_some_iff.mp h
    refine x_callV hC hR dX9_turning_16 mK_X9_ran wml_X9_379 (C_X9_ran (a1 := (20 : Int32)) (σ := σ) h12) (by omega) rfl (by decide) rfl rfl (xlt (by decide)) rfl (Nat.le_of_ble_eq_true rfl) rfl rfl rfl <| ?_
    refine x_aload_n hC dX9_turning_19 rfl (j := 0) rfl <| x_iload_n hC dX9_turning_20 rfl (j := 1) rfl <| x_iload_n hC dX9_turning_21 rfl (j := 2) rfl <| ?_
    obtain ⟨x13, h13, h⟩ := Option.bind_eq_some_iff.mp h
    refine x_callV hC hR dX9_turning_22 mK_X9_plainTurns wml_X9_382 (C_X9_plainTurns (a1 := a1) (a2 := a2) (σ := x12) h13) (by omega) rfl (by decide) rfl rfl (xlt (by decide)) rfl (Nat.le_of_ble_eq_true rfl) rfl rfl rfl <| ?_
    refine x_iconst (v := (3 : Int32)) hC dX9_turning_25 (by decide) <| x_iadd hC dX9_turning_26 <| ?_
    obtain ⟨e1, e2⟩ := xso2 h
    subst e1
    subst e2
    exact x_iret (rest := []) hC hE rfl dX9_turning_27
set_option maxRecDepth 100000 in
set_option maxHeartbeats 4000000 in
theorem C_X9_looking {G : xG} {l : Launch} {a1 : Int32} {a2 : Int32} {σ : xS2} {r : Int32} {τ : xS2} (h : J_X9_looking a1 a2 σ = some (r, τ)) : xC G l mM_X9_looking 4 [.ref (xad G 43), .int a1, .int a2] (xM σ) (some (.int r)) (xM τ) := by
  refine xC_of (by decide) rfl (Nat.le_refl _) (Nat.le_of_ble_eq_true rfl) (fun K hC hE hR _ => ?_)
  refine x_aload_n hC dX9_looking_0 rfl (j := 0) rfl <| s_getR (q := 68) hC dX9_looking_1 wfl_X9_94 rfl (by decide) (by decide) (by decide) (by decide) (by decide) <| x_iload_n hC dX9_looking_4 rfl (j := 1) rfl <| ?_
  obtain ⟨h1, h⟩ := xgd_some h
  refine s_iald hC dX9_looking_5 rfl (by decide) h1 <| ?_
  refine x_iconst (v := (5 : Int32)) hC dX9_looking_6 (by decide) <| ?_
  refine x_icmp_ne (tgt := 32) hC dX9_looking_7 (by decide) (fun c2 => ?_) (fun c2 => ?_)
  · replace h := (if_neg c2).symm.trans h
    refine x_aload_n hC dX9_looking_32 rfl (j := 0) rfl <| s_getR (q := 68) hC dX9_looking_33 wfl_X9_94 rfl (by decide) (by decide) (by decide) (by decide) (by decide) <| x_iload_n hC dX9_looking_36 rfl (j := 1) rfl <| ?_
    obtain ⟨h3, h⟩ := xgd_some h
    refine s_iald hC dX9_looking_37 rfl (by decide) h3 <| ?_
    refine x_iconst (v := (3 : Int32)) hC dX9_looking_38 (by decide) <| ?_
    refine x_icmp_ne (tgt := 51) hC dX9_looking_39 (by decide) (fun c4 => ?_) (fun c4 => ?_)
    · replace h := (if_neg c4).symm.trans h
      refine x_aload_n hC dX9_looking_51 rfl (j := 0) rfl <| x_iload_n hC dX9_looking_52 rfl (j := 1) rfl <| x_iload_n hC dX9_looking_53 rfl (j := 2) rfl <| ?_
      obtain ⟨x5, h5, h⟩ := Option.bind_eq_some_iff.mp h
      refine x_callV hC hR dX9_looking_54 mK_X9_plainLooks wml_X9_403 (C_X9_plainLooks (a1 := a1) (a2 := a2) (σ := σ) h5) (by omega) rfl (by decide) rfl rfl (xlt (by decide)) rfl (Nat.le_of_ble_eq_true rfl) rfl rfl rfl <| ?_
      obtain ⟨e1, e2⟩ := xso2 h
      subst e1
      subst e2
      exact x_iret (rest := []) hC hE rfl dX9_looking_57
    · replace h := (if_pos c4).symm.trans h
      refine x_aload_n hC dX9_looking_42 rfl (j := 0) rfl <| x_iload_n hC dX9_looking_43 rfl (j := 1) rfl <| x_iload_n hC dX9_looking_44 rfl (j := 2) rfl <| ?_
      obtain ⟨x6, h6, h⟩ := Option.bind_eq_some_iff.mp h
      refine x_callV hC hR dX9_looking_45 mK_X9_cleanLooks wml_X9_406 (C_X9_cleanLooks (a1 := a1) (a2 := a2) (σ := σ) h6) (by omega) rfl (by decide) rfl rfl (xlt (by decide)) rfl (Nat.le_of_ble_eq_true rfl) rfl rfl rfl <| ?_
      refine x_goto (tgt := 57) hC dX9_looking_48 (by decide) <| ?_
      obtain ⟨e1, e2⟩ := xso2 h
      subst e1
      subst e2
      exact x_iret (rest := []) hC hE rfl dX9_looking_57
  · replace h := (if_pos c2).symm.trans h
    refine x_aload_n hC dX9_looking_10 rfl (j := 0) rfl <| x_bipush (v := (60 : Int32)) hC dX9_looking_11 (by decide) <| ?_
    obtain ⟨x7, h7, h⟩ := Option.bind_eq_some_iff.mp h
    refine x_callV hC hR dX9_looking_13 mK_X9_ran wml_X9_379 (C_X9_ran (a1 := (60 : Int32)) (σ := σ) h7) (by omega) rfl (by decide) rfl rfl (xlt (by decide)) rfl (Nat.le_of_ble_eq_true rfl) rfl rfl rfl <| ?_
    refine x_aload_n hC dX9_looking_16 rfl (j := 0) rfl <| x_iload_n hC dX9_looking_17 rfl (j := 1) rfl <| x_iload_n hC dX9_looking_18 rfl (j := 2) rfl <| ?_
    obtain ⟨x8, h8, h⟩ := Option.bind_eq_some_iff.mp h
    refine x_callV hC hR dX9_looking_19 mK_X9_cleanLooks wml_X9_406 (C_X9_cleanLooks (a1 := a1) (a2 := a2) (σ := x7) h8) (by omega) rfl (by decide) rfl rfl (xlt (by decide)) rfl (Nat.le_of_ble_eq_true rfl) rfl rfl rfl <| ?_
    refine x_istore_n hC dX9_looking_22 rfl (by decide) rfl <| x_iload_n hC dX9_looking_23 rfl (j := 0) rfl <| x_aload_n hC dX9_looking_24 rfl (j := 1) rfl <| x_iload_n hC dX9_looking_25 rfl (j := 2) rfl <| x_iconst (v := (2 : Int32)) hC dX9_looking_26 (by decide) <| ?_
    obtain ⟨x9, h9, h⟩ := Option.bind_eq_some_iff.mp h
    refine x_callV hC hR dX9_looking_27 mK_X9_turning wml_X9_391 (C_X9_turning (a1 := a1) (a2 := (2 : Int32)) (σ := x8.2) h9) (by omega) rfl (by decide) rfl rfl (xlt (by decide)) rfl (Nat.le_of_ble_eq_true rfl) rfl rfl rfl <| ?_
    refine x_isub hC dX9_looking_30 <| ?_
    obtain ⟨e1, e2⟩ := xso2 h
    subst e1
    subst e2
    exact x_iret (rest := []) hC hE rfl dX9_looking_31
set_option maxRecDepth 100000 in
set_option maxHeartbeats 4000000 in
theorem C_X9_plainMoves {G : xG} {l : Launch} {a1 : Int32} {a2 : Int32} {σ : xS2} {r : Int32} {τ : xS2} (h : J_X9_plainMoves a1 a2 σ = some (r, τ)) : xC G l mM_X9_plainMoves 4 [.ref (xad G 43), .int a1, .int a2] (xM σ) (some (.int r)) (xM τ) := by
  refine xC_of (by decide) rfl (Nat.le_refl _) (Nat.le_of_ble_eq_true rfl) (fun K hC hE hR _ => ?_)
  refine x_aload_n hC dX9_plainMoves_0 rfl (j := 0) rfl <| x_bipush (v := (10 : Int32)) hC dX9_plainMoves_1 (by decide) <| ?_
  obtain ⟨x1, h1, h⟩ := Option.bind_eq_some_iff.mp h
  refine x_callV hC hR dX9_plainMoves_3 mK_X9_ran wml_X9_379 (C_X9_ran (a1 := (10 : Int32)) (σ := σ) h1) (by omega) rfl (by decide) rfl rfl (xlt (by decide)) rfl (Nat.le_of_ble_eq_true rfl) rfl rfl rfl <| ?_
  refine x_aload_n hC dX9_plainMoves_6 rfl (j := 0) rfl <| x_iload_n hC dX9_plainMoves_7 rfl (j := 1) rfl <| x_iload_n hC dX9_plainMoves_8 rfl (j := 2) rfl <| ?_
  obtain ⟨x2, h2, h⟩ := Option.bind_eq_some_iff.mp h
  refine x_callV hC hR dX9_plainMoves_9 mK_X9_turning wml_X9_391 (C_X9_turning (a1 := a1) (a2 := a2) (σ := x1) h2) (by omega) rfl (by decide) rfl rfl (xlt (by decide)) rfl (Nat.le_of_ble_eq_true rfl) rfl rfl rfl <| ?_
  refine x_iconst (v := (2 : Int32)) hC dX9_plainMoves_12 (by decide) <| x_imul hC dX9_plainMoves_13 <| ?_
  obtain ⟨e1, e2⟩ := xso2 h
  subst e1
  subst e2
  exact x_iret (rest := []) hC hE rfl dX9_plainMoves_14
set_option maxRecDepth 100000 in
set_option maxHeartbeats 4000000 in
theorem C_X9_dustyMoves {G : xG} {l : Launch} {a1 : Int32} {a2 : Int32} {σ : xS2} {r : Int32} {τ : xS2} (h : J_X9_dustyMoves a1 a2 σ = some (r, τ)) : xC G l mM_X9_dustyMoves 5 [.ref (xad G 43), .int a1, .int a2] (xM σ) (some (.int r)) (xM τ) := by
  refine xC_of (by decide) rfl (Nat.le_refl _) (Nat.le_of_ble_eq_true rfl) (fun K hC hE hR _ => ?_)
  refine x_aload_n hC dX9_dustyMoves_0 rfl (j := 0) rfl <| x_bipush (v := (30 : Int32)) hC dX9_dustyMoves_1 (by decide) <| ?_
  obtain ⟨x1, h1, h⟩ := Option.bind_eq_some_iff.mp h
  refine x_callV hC hR dX9_dustyMoves_3 mK_X9_ran wml_X9_379 (C_X9_ran (a1 := (30 : Int32)) (σ := σ) h1) (by omega) rfl (by decide) rfl rfl (xlt (by decide)) rfl (Nat.le_of_ble_eq_true rfl) rfl rfl rfl <| ?_
  refine x_aload_n hC dX9_dustyMoves_6 rfl (j := 0) rfl <| x_iload_n hC dX9_dustyMoves_7 rfl (j := 1) rfl <| x_iload_n hC dX9_dustyMoves_8 rfl (j := 2) rfl <| ?_
  obtain ⟨x2, h2, h⟩ := Option.bind_eq_some_iff.mp h
  refine x_callV hC hR dX9_dustyMoves_9 mK_X9_plainMoves wml_X9_394 (C_X9_plainMoves (a1 := a1) (a2 := a2) (σ := x1) h2) (by omega) rfl (by decide) rfl rfl (xlt (by decide)) rfl (Nat.le_of_ble_eq_true rfl) rfl rfl rfl <| ?_
  refine x_ineg hC dX9_dustyMoves_12 <| ?_
  obtain ⟨e1, e2⟩ := xso2 h
  subst e1
  subst e2
  exact x_iret (rest := []) hC hE rfl dX9_dustyMoves_13
set_option maxRecDepth 100000 in
set_option maxHeartbeats 4000000 in
theorem C_X9_moving {G : xG} {l : Launch} {a1 : Int32} {a2 : Int32} {σ : xS2} {r : Int32} {τ : xS2} (h : J_X9_moving a1 a2 σ = some (r, τ)) : xC G l mM_X9_moving 6 [.ref (xad G 43), .int a1, .int a2] (xM σ) (some (.int r)) (xM τ) := by
  refine xC_of (by decide) rfl (Nat.le_refl _) (Nat.le_of_ble_eq_true rfl) (fun K hC hE hR _ => ?_)
  refine x_aload_n hC dX9_moving_0 rfl (j := 0) rfl <| s_getR (q := 68) hC dX9_moving_1 wfl_X9_94 rfl (by decide) (by decide) (by decide) (by decide) (by decide) <| x_iload_n hC dX9_moving_4 rfl (j := 1) rfl <| ?_
  obtain ⟨h1, h⟩ := xgd_some h
  refine s_iald hC dX9_moving_5 rfl (by decide) h1 <| ?_
  refine x_iconst (v := (3 : Int32)) hC dX9_moving_6 (by decide) <| x_callS hC hR dX9_moving_7 mK_X9_isUnder wml_X9_385 (C_X9_isUnder (a0 := (σ.1 68 a1.toNatClampNeg)) (a1 := (3 : Int32)) (σ := σ)) (by omega) rfl (Nat.le_of_ble_eq_true rfl) rfl rfl rfl <| ?_
  refine x_if_eq (tgt := 28) hC dX9_moving_10 (by decide) (fun c3 => ?_) (fun c3 => ?_)
  · replace h := (if_pos c3).symm.trans h
    refine x_aload_n hC dX9_moving_28 rfl (j := 0) rfl <| s_getR (q := 68) hC dX9_moving_29 wfl_X9_94 rfl (by decide) (by decide) (by decide) (by decide) (by decide) <| x_iload_n hC dX9_moving_32 rfl (j := 1) rfl <| ?_
    obtain ⟨h4, h⟩ := xgd_some h
    refine s_iald hC dX9_moving_33 rfl (by decide) h4 <| ?_
    refine x_bipush (v := (7 : Int32)) hC dX9_moving_34 (by decide) <| ?_
    refine x_icmp_ne (tgt := 61) hC dX9_moving_36 (by decide) (fun c5 => ?_) (fun c5 => ?_)
    · replace h := (if_neg c5).symm.trans h
      refine x_aload_n hC dX9_moving_61 rfl (j := 0) rfl <| s_getR (q := 68) hC dX9_moving_62 wfl_X9_94 rfl (by decide) (by decide) (by decide) (by decide) (by decide) <| x_iload_n hC dX9_moving_65 rfl (j := 1) rfl <| ?_
      obtain ⟨h6, h⟩ := xgd_some h
      refine s_iald hC dX9_moving_66 rfl (by decide) h6 <| ?_
      refine x_iconst (v := (2 : Int32)) hC dX9_moving_67 (by decide) <| ?_
      refine x_icmp_ne (tgt := 80) hC dX9_moving_68 (by decide) (fun c7 => ?_) (fun c7 => ?_)
      · replace h := (if_neg c7).symm.trans h
        refine x_aload_n hC dX9_moving_80 rfl (j := 0) rfl <| x_iload_n hC dX9_moving_81 rfl (j := 1) rfl <| x_iload_n hC dX9_moving_82 rfl (j := 2) rfl <| ?_
        obtain ⟨x8, h8, h⟩ := Option.bind_eq_some_iff.mp h
        refine x_callV hC hR dX9_moving_83 mK_X9_plainMoves wml_X9_394 (C_X9_plainMoves (a1 := a1) (a2 := a2) (σ := σ) h8) (by omega) rfl (by decide) rfl rfl (xlt (by decide)) rfl (Nat.le_of_ble_eq_true rfl) rfl rfl rfl <| ?_
        obtain ⟨e1, e2⟩ := xso2 h
        subst e1
        subst e2
        exact x_iret (rest := []) hC hE rfl dX9_moving_86
      · replace h := (if_pos c7).symm.trans h
        refine x_aload_n hC dX9_moving_71 rfl (j := 0) rfl <| x_iload_n hC dX9_moving_72 rfl (j := 1) rfl <| x_iload_n hC dX9_moving_73 rfl (j := 2) rfl <| ?_
        obtain ⟨x9, h9, h⟩ := Option.bind_eq_some_iff.mp h
        refine x_callV hC hR dX9_moving_74 mK_X9_dustyMoves wml_X9_397 (C_X9_dustyMoves (a1 := a1) (a2 := a2) (σ := σ) h9) (by omega) rfl (by decide) rfl rfl (xlt (by decide)) rfl (Nat.le_of_ble_eq_true rfl) rfl rfl rfl <| ?_
        refine x_goto (tgt := 86) hC dX9_moving_77 (by decide) <| ?_
        obtain ⟨e1, e2⟩ := xso2 h
        subst e1
        subst e2
        exact x_iret (rest := []) hC hE rfl dX9_moving_86
    · replace h := (if_pos c5).symm.trans h
      refine x_aload_n hC dX9_moving_39 rfl (j := 0) rfl <| x_bipush (v := (80 : Int32)) hC dX9_moving_40 (by decide) <| ?_
      obtain ⟨x10, h10, h⟩ := Option.bind_eq_some_iff.mp h
      refine x_callV hC hR dX9_moving_42 mK_X9_ran wml_X9_379 (C_X9_ran (a1 := (80 : Int32)) (σ := σ) h10) (by omega) rfl (by decide) rfl rfl (xlt (by decide)) rfl (Nat.le_of_ble_eq_true rfl) rfl rfl rfl <| ?_
      refine x_aload_n hC dX9_moving_45 rfl (j := 0) rfl <| x_iload_n hC dX9_moving_46 rfl (j := 1) rfl <| x_iload_n hC dX9_moving_47 rfl (j := 2) rfl <| ?_
      obtain ⟨x11, h11, h⟩ := Option.bind_eq_some_iff.mp h
      refine x_callV hC hR dX9_moving_48 mK_X9_plainMoves wml_X9_394 (C_X9_plainMoves (a1 := a1) (a2 := a2) (σ := x10) h11) (by omega) rfl (by decide) rfl rfl (xlt (by decide)) rfl (Nat.le_of_ble_eq_true rfl) rfl rfl rfl <| ?_
      refine x_istore_n hC dX9_moving_51 rfl (by decide) rfl <| x_iload_n hC dX9_moving_52 rfl (j := 0) rfl <| x_aload_n hC dX9_moving_53 rfl (j := 1) rfl <| x_iload_n hC dX9_moving_54 rfl (j := 2) rfl <| x_iconst (v := (2 : Int32)) hC dX9_moving_55 (by decide) <| ?_
      obtain ⟨x12, h12, h⟩ := Option.bind_eq_some_iff.mp h
      refine x_callV hC hR dX9_moving_56 mK_X9_looking wml_X9_400 (C_X9_looking (a1 := a1) (a2 := (2 : Int32)) (σ := x11.2) h12) (by omega) rfl (by decide) rfl rfl (xlt (by decide)) rfl (Nat.le_of_ble_eq_true rfl) rfl rfl rfl <| ?_
      refine x_iadd hC dX9_moving_59 <| ?_
      obtain ⟨e1, e2⟩ := xso2 h
      subst e1
      subst e2
      exact x_iret (rest := []) hC hE rfl dX9_moving_60
  · replace h := (if_neg c3).symm.trans h
    refine x_aload_n hC dX9_moving_13 rfl (j := 0) rfl <| x_bipush (v := (41 : Int32)) hC dX9_moving_14 (by decide) <| ?_
    obtain ⟨x13, h13, h⟩ := Option.bind_eq_some_iff.mp h
    refine x_callV hC hR dX9_moving_16 mK_X9_ran wml_X9_379 (C_X9_ran (a1 := (41 : Int32)) (σ := σ) h13) (by omega) rfl (by decide) rfl rfl (xlt (by decide)) rfl (Nat.le_of_ble_eq_true rfl) rfl rfl rfl <| ?_
    refine x_aload_n hC dX9_moving_19 rfl (j := 0) rfl <| x_iload_n hC dX9_moving_20 rfl (j := 1) rfl <| x_iload_n hC dX9_moving_21 rfl (j := 2) rfl <| x_iconst (v := (1 : Int32)) hC dX9_moving_22 (by decide) <| x_iadd hC dX9_moving_23 <| ?_
    obtain ⟨x14, h14, h⟩ := Option.bind_eq_some_iff.mp h
    refine x_callV hC hR dX9_moving_24 mK_X9_dustyMoves wml_X9_397 (C_X9_dustyMoves (a1 := a1) (a2 := (a2 + (1 : Int32))) (σ := x13) h14) (by omega) rfl (by decide) rfl rfl (xlt (by decide)) rfl (Nat.le_of_ble_eq_true rfl) rfl rfl rfl <| ?_
    obtain ⟨e1, e2⟩ := xso2 h
    subst e1
    subst e2
    exact x_iret (rest := []) hC hE rfl dX9_moving_27
set_option maxRecDepth 100000 in
set_option maxHeartbeats 4000000 in
theorem C_X9_plainTells {G : xG} {l : Launch} {a1 : Int32} {a2 : Int32} {σ : xS2} {r : Int32} {τ : xS2} (h : J_X9_plainTells a1 a2 σ = some (r, τ)) : xC G l mM_X9_plainTells 7 [.ref (xad G 43), .int a1, .int a2] (xM σ) (some (.int r)) (xM τ) := by
  refine xC_of (by decide) rfl (Nat.le_refl _) (Nat.le_of_ble_eq_true rfl) (fun K hC hE hR _ => ?_)
  refine x_aload_n hC dX9_plainTells_0 rfl (j := 0) rfl <| x_iconst (v := (2 : Int32)) hC dX9_plainTells_1 (by decide) <| ?_
  obtain ⟨x1, h1, h⟩ := Option.bind_eq_some_iff.mp h
  refine x_callV hC hR dX9_plainTells_2 mK_X9_ran wml_X9_379 (C_X9_ran (a1 := (2 : Int32)) (σ := σ) h1) (by omega) rfl (by decide) rfl rfl (xlt (by decide)) rfl (Nat.le_of_ble_eq_true rfl) rfl rfl rfl <| ?_
  refine x_aload_n hC dX9_plainTells_5 rfl (j := 0) rfl <| x_iload_n hC dX9_plainTells_6 rfl (j := 1) rfl <| x_iload_n hC dX9_plainTells_7 rfl (j := 2) rfl <| ?_
  obtain ⟨x2, h2, h⟩ := Option.bind_eq_some_iff.mp h
  refine x_callV hC hR dX9_plainTells_8 mK_X9_moving wml_X9_409 (C_X9_moving (a1 := a1) (a2 := a2) (σ := x1) h2) (by omega) rfl (by decide) rfl rfl (xlt (by decide)) rfl (Nat.le_of_ble_eq_true rfl) rfl rfl rfl <| ?_
  refine x_istore_n hC dX9_plainTells_11 rfl (by decide) rfl <| x_iload_n hC dX9_plainTells_12 rfl (j := 0) rfl <| x_aload_n hC dX9_plainTells_13 rfl (j := 1) rfl <| x_iload_n hC dX9_plainTells_14 rfl (j := 2) rfl <| x_iconst (v := (1 : Int32)) hC dX9_plainTells_15 (by decide) <| ?_
  obtain ⟨x3, h3, h⟩ := Option.bind_eq_some_iff.mp h
  refine x_callV hC hR dX9_plainTells_16 mK_X9_looking wml_X9_400 (C_X9_looking (a1 := a1) (a2 := (1 : Int32)) (σ := x2.2) h3) (by omega) rfl (by decide) rfl rfl (xlt (by decide)) rfl (Nat.le_of_ble_eq_true rfl) rfl rfl rfl <| ?_
  refine x_isub hC dX9_plainTells_19 <| ?_
  obtain ⟨e1, e2⟩ := xso2 h
  subst e1
  subst e2
  exact x_iret (rest := []) hC hE rfl dX9_plainTells_20
set_option maxRecDepth 100000 in
set_option maxHeartbeats 4000000 in
theorem C_X9_telling {G : xG} {l : Launch} {a1 : Int32} {a2 : Int32} {σ : xS2} {r : Int32} {τ : xS2} (h : J_X9_telling a1 a2 σ = some (r, τ)) : xC G l mM_X9_telling 8 [.ref (xad G 43), .int a1, .int a2] (xM σ) (some (.int r)) (xM τ) := by
  refine xC_of (by decide) rfl (Nat.le_refl _) (Nat.le_of_ble_eq_true rfl) (fun K hC hE hR _ => ?_)
  refine x_aload_n hC dX9_telling_0 rfl (j := 0) rfl <| s_getR (q := 68) hC dX9_telling_1 wfl_X9_94 rfl (by decide) (by decide) (by decide) (by decide) (by decide) <| x_iload_n hC dX9_telling_4 rfl (j := 1) rfl <| ?_
  obtain ⟨h1, h⟩ := xgd_some h
  refine s_iald hC dX9_telling_5 rfl (by decide) h1 <| ?_
  refine x_iconst (v := (4 : Int32)) hC dX9_telling_6 (by decide) <| ?_
  refine x_icmp_ne (tgt := 25) hC dX9_telling_7 (by decide) (fun c2 => ?_) (fun c2 => ?_)
  · replace h := (if_neg c2).symm.trans h
    refine x_aload_n hC dX9_telling_25 rfl (j := 0) rfl <| s_getR (q := 68) hC dX9_telling_26 wfl_X9_94 rfl (by decide) (by decide) (by decide) (by decide) (by decide) <| x_iload_n hC dX9_telling_29 rfl (j := 1) rfl <| ?_
    obtain ⟨h3, h⟩ := xgd_some h
    refine s_iald hC dX9_telling_30 rfl (by decide) h3 <| ?_
    refine x_iconst (v := (5 : Int32)) hC dX9_telling_31 (by decide) <| ?_
    refine x_icmp_ne (tgt := 50) hC dX9_telling_32 (by decide) (fun c4 => ?_) (fun c4 => ?_)
    · replace h := (if_neg c4).symm.trans h
      refine x_aload_n hC dX9_telling_50 rfl (j := 0) rfl <| x_iload_n hC dX9_telling_51 rfl (j := 1) rfl <| x_iload_n hC dX9_telling_52 rfl (j := 2) rfl <| ?_
      obtain ⟨x5, h5, h⟩ := Option.bind_eq_some_iff.mp h
      refine x_callV hC hR dX9_telling_53 mK_X9_plainTells wml_X9_412 (C_X9_plainTells (a1 := a1) (a2 := a2) (σ := σ) h5) (by omega) rfl (by decide) rfl rfl (xlt (by decide)) rfl (Nat.le_of_ble_eq_true rfl) rfl rfl rfl <| ?_
      obtain ⟨e1, e2⟩ := xso2 h
      subst e1
      subst e2
      exact x_iret (rest := []) hC hE rfl dX9_telling_56
    · replace h := (if_pos c4).symm.trans h
      refine x_aload_n hC dX9_telling_35 rfl (j := 0) rfl <| x_bipush (v := (61 : Int32)) hC dX9_telling_36 (by decide) <| ?_
      obtain ⟨x6, h6, h⟩ := Option.bind_eq_some_iff.mp h
      refine x_callV hC hR dX9_telling_38 mK_X9_ran wml_X9_379 (C_X9_ran (a1 := (61 : Int32)) (σ := σ) h6) (by omega) rfl (by decide) rfl rfl (xlt (by decide)) rfl (Nat.le_of_ble_eq_true rfl) rfl rfl rfl <| ?_
      refine x_aload_n hC dX9_telling_41 rfl (j := 0) rfl <| x_iload_n hC dX9_telling_42 rfl (j := 1) rfl <| x_iload_n hC dX9_telling_43 rfl (j := 2) rfl <| ?_
      obtain ⟨x7, h7, h⟩ := Option.bind_eq_some_iff.mp h
      refine x_callV hC hR dX9_telling_44 mK_X9_plainTells wml_X9_412 (C_X9_plainTells (a1 := a1) (a2 := a2) (σ := x6) h7) (by omega) rfl (by decide) rfl rfl (xlt (by decide)) rfl (Nat.le_of_ble_eq_true rfl) rfl rfl rfl <| ?_
      refine x_iconst (v := (1 : Int32)) hC dX9_telling_47 (by decide) <| x_iadd hC dX9_telling_48 <| ?_
      obtain ⟨e1, e2⟩ := xso2 h
      subst e1
      subst e2
      exact x_iret (rest := []) hC hE rfl dX9_telling_49
  · replace h := (if_pos c2).symm.trans h
    refine x_aload_n hC dX9_telling_10 rfl (j := 0) rfl <| x_bipush (v := (50 : Int32)) hC dX9_telling_11 (by decide) <| ?_
    obtain ⟨x8, h8, h⟩ := Option.bind_eq_some_iff.mp h
    refine x_callV hC hR dX9_telling_13 mK_X9_ran wml_X9_379 (C_X9_ran (a1 := (50 : Int32)) (σ := σ) h8) (by omega) rfl (by decide) rfl rfl (xlt (by decide)) rfl (Nat.le_of_ble_eq_true rfl) rfl rfl rfl <| ?_
    refine x_aload_n hC dX9_telling_16 rfl (j := 0) rfl <| x_iload_n hC dX9_telling_17 rfl (j := 1) rfl <| x_iload_n hC dX9_telling_18 rfl (j := 2) rfl <| ?_
    obtain ⟨x9, h9, h⟩ := Option.bind_eq_some_iff.mp h
    refine x_callV hC hR dX9_telling_19 mK_X9_plainTells wml_X9_412 (C_X9_plainTells (a1 := a1) (a2 := a2) (σ := x8) h9) (by omega) rfl (by decide) rfl rfl (xlt (by decide)) rfl (Nat.le_of_ble_eq_true rfl) rfl rfl rfl <| ?_
    refine x_iconst (v := (5 : Int32)) hC dX9_telling_22 (by decide) <| x_ixor hC dX9_telling_23 <| ?_
    obtain ⟨e1, e2⟩ := xso2 h
    subst e1
    subst e2
    exact x_iret (rest := []) hC hE rfl dX9_telling_24
set_option maxRecDepth 100000 in
set_option maxHeartbeats 4000000 in
theorem C_X9_act {G : xG} {l : Launch} {a1 : Int32} {a2 : Int32} {a3 : Int32} {σ : xS2} {r : Int32} {τ : xS2} (h : J_X9_act a1 a2 a3 σ = some (r, τ)) : xC G l mM_X9_act 9 [.ref (xad G 43), .int a1, .int a2, .int a3] (xM σ) (some (.int r)) (xM τ) := by
  refine xC_of (by decide) rfl (Nat.le_refl _) (Nat.le_of_ble_eq_true rfl) (fun K hC hE hR _ => ?_)
  refine x_aload_n hC dX9_act_0 rfl (j := 0) rfl <| x_iconst (v := (0 : Int32)) hC dX9_act_1 (by decide) <| s_putI hC dX9_act_2 wfl_X9_376 rfl (by decide) (by decide) (by decide) (by decide) (by decide) <| x_aload_n hC dX9_act_5 rfl (j := 0) rfl <| x_iload_n hC dX9_act_6 rfl (j := 1) rfl <| x_callV hC hR dX9_act_7 mK_X9_isBody wml_X9_415 (C_X9_isBody (a1 := a1) (σ := (yI σ 43 54 (0 : Int32)))) (by omega) rfl (by decide) rfl rfl (xlt (by decide)) rfl (Nat.le_of_ble_eq_true rfl) rfl rfl rfl <| ?_
  refine x_if_eq (tgt := 22) hC dX9_act_10 (by decide) (fun c2 => ?_) (fun c2 => ?_)
  · replace h := (if_pos c2).symm.trans h
    refine x_iconst (v := (0 : Int32)) hC dX9_act_22 (by decide) <| ?_
    obtain ⟨e1, e2⟩ := xso2 h
    subst e1
    subst e2
    exact x_iret (rest := []) hC hE rfl dX9_act_23
  · replace h := (if_neg c2).symm.trans h
    refine x_iload_n hC dX9_act_13 rfl (j := 2) rfl <| x_iconst (v := (0 : Int32)) hC dX9_act_14 (by decide) <| x_iconst (v := (3 : Int32)) hC dX9_act_15 (by decide) <| x_callS hC hR dX9_act_16 mK_X9_in wml_X9_116 (C_X9_in (a0 := a2) (a1 := (0 : Int32)) (a2 := (3 : Int32)) (σ := (yI σ 43 54 (0 : Int32)))) (by omega) rfl (Nat.le_of_ble_eq_true rfl) rfl rfl rfl <| ?_
    refine x_if_ne (tgt := 24) hC dX9_act_19 (by decide) (fun c4 => ?_) (fun c4 => ?_)
    · replace h := (if_neg c4).symm.trans h
      refine x_iload_n hC dX9_act_24 rfl (j := 2) rfl <| ?_
      refine x_if_ne (tgt := 37) hC dX9_act_25 (by decide) (fun c5 => ?_) (fun c5 => ?_)
      · replace h := (if_neg c5).symm.trans h
        refine x_iload_n hC dX9_act_37 rfl (j := 2) rfl <| x_iconst (v := (1 : Int32)) hC dX9_act_38 (by decide) <| ?_
        refine x_icmp_ne (tgt := 51) hC dX9_act_39 (by decide) (fun c6 => ?_) (fun c6 => ?_)
        · replace h := (if_neg c6).symm.trans h
          refine x_iload_n hC dX9_act_51 rfl (j := 2) rfl <| x_iconst (v := (2 : Int32)) hC dX9_act_52 (by decide) <| ?_
          refine x_icmp_ne (tgt := 65) hC dX9_act_53 (by decide) (fun c7 => ?_) (fun c7 => ?_)
          · replace h := (if_neg c7).symm.trans h
            refine x_aload_n hC dX9_act_65 rfl (j := 0) rfl <| x_iload_n hC dX9_act_66 rfl (j := 1) rfl <| x_iload_n hC dX9_act_67 rfl (j := 3) rfl <| ?_
            obtain ⟨x8, h8, h⟩ := Option.bind_eq_some_iff.mp h
            refine x_callV hC hR dX9_act_68 mK_X9_telling wml_X9_418 (C_X9_telling (a1 := a1) (a2 := a3) (σ := (yI σ 43 54 (0 : Int32))) h8) (by omega) rfl (by decide) rfl rfl (xlt (by decide)) rfl (Nat.le_of_ble_eq_true rfl) rfl rfl rfl <| ?_
            obtain ⟨e1, e2⟩ := xso2 h
            subst e1
            subst e2
            exact x_iret (rest := []) hC hE rfl dX9_act_71
          · replace h := (if_pos c7).symm.trans h
            refine x_aload_n hC dX9_act_56 rfl (j := 0) rfl <| x_iload_n hC dX9_act_57 rfl (j := 1) rfl <| x_iload_n hC dX9_act_58 rfl (j := 3) rfl <| ?_
            obtain ⟨x9, h9, h⟩ := Option.bind_eq_some_iff.mp h
            refine x_callV hC hR dX9_act_59 mK_X9_looking wml_X9_400 (C_X9_looking (a1 := a1) (a2 := a3) (σ := (yI σ 43 54 (0 : Int32))) h9) (by omega) rfl (by decide) rfl rfl (xlt (by decide)) rfl (Nat.le_of_ble_eq_true rfl) rfl rfl rfl <| ?_
            refine x_goto (tgt := 71) hC dX9_act_62 (by decide) <| ?_
            obtain ⟨e1, e2⟩ := xso2 h
            subst e1
            subst e2
            exact x_iret (rest := []) hC hE rfl dX9_act_71
        · replace h := (if_pos c6).symm.trans h
          refine x_aload_n hC dX9_act_42 rfl (j := 0) rfl <| x_iload_n hC dX9_act_43 rfl (j := 1) rfl <| x_iload_n hC dX9_act_44 rfl (j := 3) rfl <| ?_
          obtain ⟨x10, h10, h⟩ := Option.bind_eq_some_iff.mp h
          refine x_callV hC hR dX9_act_45 mK_X9_moving wml_X9_409 (C_X9_moving (a1 := a1) (a2 := a3) (σ := (yI σ 43 54 (0 : Int32))) h10) (by omega) rfl (by decide) rfl rfl (xlt (by decide)) rfl (Nat.le_of_ble_eq_true rfl) rfl rfl rfl <| ?_
          refine x_goto (tgt := 71) hC dX9_act_48 (by decide) <| ?_
          obtain ⟨e1, e2⟩ := xso2 h
          subst e1
          subst e2
          exact x_iret (rest := []) hC hE rfl dX9_act_71
      · replace h := (if_pos c5).symm.trans h
        refine x_aload_n hC dX9_act_28 rfl (j := 0) rfl <| x_iload_n hC dX9_act_29 rfl (j := 1) rfl <| x_iload_n hC dX9_act_30 rfl (j := 3) rfl <| ?_
        obtain ⟨x11, h11, h⟩ := Option.bind_eq_some_iff.mp h
        refine x_callV hC hR dX9_act_31 mK_X9_turning wml_X9_391 (C_X9_turning (a1 := a1) (a2 := a3) (σ := (yI σ 43 54 (0 : Int32))) h11) (by omega) rfl (by decide) rfl rfl (xlt (by decide)) rfl (Nat.le_of_ble_eq_true rfl) rfl rfl rfl <| ?_
        refine x_goto (tgt := 71) hC dX9_act_34 (by decide) <| ?_
        obtain ⟨e1, e2⟩ := xso2 h
        subst e1
        subst e2
        exact x_iret (rest := []) hC hE rfl dX9_act_71
    · replace h := (if_pos c4).symm.trans h
      refine x_iconst (v := (0 : Int32)) hC dX9_act_22 (by decide) <| ?_
      obtain ⟨e1, e2⟩ := xso2 h
      subst e1
      subst e2
      exact x_iret (rest := []) hC hE rfl dX9_act_23
set_option maxRecDepth 100000 in
set_option maxHeartbeats 4000000 in
theorem C_X9_addStep {G : xG} {l : Launch} {a1 : Int32} {a2 : Int32} {σ : xS2} {τ : xS2} (h : J_X9_addStep a1 a2 σ = some τ) : xC G l mM_X9_addStep 0 [.ref (xad G 43), .int a1, .int a2] (xM σ) none (xM τ) := by
  refine xC_of (by decide) rfl (Nat.le_refl _) (Nat.le_of_ble_eq_true rfl) (fun K hC hE hR _ => ?_)
  refine x_aload_n hC dX9_addStep_0 rfl (j := 0) rfl <| s_getR (q := 55) hC dX9_addStep_1 wfl_X9_54 rfl (by decide) (by decide) (by decide) (by decide) (by decide) <| x_sipush (v := (130 : Int32)) hC dX9_addStep_4 (by decide) <| x_aload_n hC dX9_addStep_7 rfl (j := 0) rfl <| s_getI hC dX9_addStep_8 wfl_X9_191 rfl (by decide) (by decide) (by decide) (by decide) <| x_iadd hC dX9_addStep_11 <| ?_
  refine x_iload_n hC dX9_addStep_12 rfl (j := 1) rfl <| x_i2b (v := (a1.toInt8.toInt32)) hC dX9_addStep_13 rfl <| ?_
  obtain ⟨h1, h⟩ := xgd_some h
  refine s_bast hC dX9_addStep_14 rfl (by decide) h1 <| ?_
  refine x_aload_n hC dX9_addStep_15 rfl (j := 0) rfl <| s_getR (q := 56) hC dX9_addStep_16 wfl_X9_57 rfl (by decide) (by decide) (by decide) (by decide) (by decide) <| x_sipush (v := (130 : Int32)) hC dX9_addStep_19 (by decide) <| x_aload_n hC dX9_addStep_22 rfl (j := 0) rfl <| s_getI hC dX9_addStep_23 wfl_X9_191 rfl (by decide) (by decide) (by decide) (by decide) <| x_iadd hC dX9_addStep_26 <| ?_
  refine x_iload_n hC dX9_addStep_27 rfl (j := 2) rfl <| ?_
  obtain ⟨h2, h⟩ := xgd_some h
  refine s_iast hC dX9_addStep_28 rfl (by decide) h2 <| ?_
  refine x_aload_n hC dX9_addStep_29 rfl (j := 0) rfl <| x_dup hC dX9_addStep_30 rfl <| s_getI hC dX9_addStep_31 wfl_X9_191 rfl (by decide) (by decide) (by decide) (by decide) <| x_iconst (v := (1 : Int32)) hC dX9_addStep_34 (by decide) <| x_iadd hC dX9_addStep_35 <| s_putI hC dX9_addStep_36 wfl_X9_191 rfl (by decide) (by decide) (by decide) (by decide) (by decide) <| ?_
  have e1 := Option.some.inj h
  subst e1
  exact x_vret (rest := []) hC hE rfl dX9_addStep_39
set_option maxRecDepth 100000 in
set_option maxHeartbeats 4000000 in
theorem C_X9_back {G : xG} {l : Launch} {σ : xS2} {r : Int32} {τ : xS2} (h : J_X9_back σ = some (r, τ)) : xC G l mM_X9_back 0 [.ref (xad G 43)] (xM σ) (some (.int r)) (xM τ) := by
  refine xC_of (by decide) rfl (Nat.le_refl _) (Nat.le_of_ble_eq_true rfl) (fun K hC hE hR _ => ?_)
  refine x_aload_n hC dX9_back_0 rfl (j := 0) rfl <| s_getI hC dX9_back_1 wfl_X9_355 rfl (by decide) (by decide) (by decide) (by decide) <| ?_
  refine x_if_ne (tgt := 10) hC dX9_back_4 (by decide) (fun c1 => ?_) (fun c1 => ?_)
  · replace h := (if_neg c1).symm.trans h
    refine x_aload_n hC dX9_back_10 rfl (j := 0) rfl <| x_aload_n hC dX9_back_11 rfl (j := 0) rfl <| s_getI hC dX9_back_12 wfl_X9_358 rfl (by decide) (by decide) (by decide) (by decide) <| s_putI hC dX9_back_15 wfl_X9_166 rfl (by decide) (by decide) (by decide) (by decide) (by decide) <| x_aload_n hC dX9_back_18 rfl (j := 0) rfl <| x_aload_n hC dX9_back_19 rfl (j := 0) rfl <| ?_
    refine s_getI hC dX9_back_20 wfl_X9_361 rfl (by decide) (by decide) (by decide) (by decide) <| s_putI hC dX9_back_23 wfl_X9_169 rfl (by decide) (by decide) (by decide) (by decide) (by decide) <| x_aload_n hC dX9_back_26 rfl (j := 0) rfl <| x_aload_n hC dX9_back_27 rfl (j := 0) rfl <| s_getI hC dX9_back_28 wfl_X9_364 rfl (by decide) (by decide) (by decide) (by decide) <| s_putI hC dX9_back_31 wfl_X9_29 rfl (by decide) (by decide) (by decide) (by decide) (by decide) <| ?_
    refine x_aload_n hC dX9_back_34 rfl (j := 0) rfl <| x_aload_n hC dX9_back_35 rfl (j := 0) rfl <| s_getI hC dX9_back_36 wfl_X9_367 rfl (by decide) (by decide) (by decide) (by decide) <| s_putI hC dX9_back_39 wfl_X9_172 rfl (by decide) (by decide) (by decide) (by decide) (by decide) <| x_aload_n hC dX9_back_42 rfl (j := 0) rfl <| x_aload_n hC dX9_back_43 rfl (j := 0) rfl <| ?_
    refine s_getL hC dX9_back_44 wfl_X9_370 rfl (by decide) (by decide) (by decide) (by decide) <| s_putL hC dX9_back_47 wfl_X9_124 rfl (by decide) (by decide) (by decide) (by decide) (by decide) <| x_aload_n hC dX9_back_50 rfl (j := 0) rfl <| s_getI hC dX9_back_51 wfl_X9_166 rfl (by decide) (by decide) (by decide) (by decide) <| ?_
    obtain ⟨e1, e2⟩ := xso2 h
    subst e1
    subst e2
    exact x_iret (rest := []) hC hE rfl dX9_back_54
  · replace h := (if_pos c1).symm.trans h
    refine x_bipush (v := (-5 : Int32)) hC dX9_back_7 (by decide) <| ?_
    obtain ⟨e1, e2⟩ := xso2 h
    subst e1
    subst e2
    exact x_iret (rest := []) hC hE rfl dX9_back_9
set_option maxRecDepth 100000 in
set_option maxHeartbeats 4000000 in
theorem C_X9_beside {G : xG} {l : Launch} {a0 : Int32} {a1 : Int32} {σ : xS2} : xC G l mM_X9_beside 0 [.int a0, .int a1] (xM σ) (some (.int (J_X9_beside a0 a1))) (xM σ) := by
  refine xC_of (by decide) rfl (Nat.le_refl _) (Nat.le_of_ble_eq_true rfl) (fun K hC hE hR _ => ?_)
  obtain ⟨r, h⟩ : ∃ r, J_X9_beside a0 a1 = r := ⟨_, rfl⟩
  rw [h] at hE
  refine x_iload_n hC dX9_beside_0 rfl (j := 1) rfl <| x_iconst (v := (1 : Int32)) hC dX9_beside_1 (by decide) <| ?_
  refine x_icmp_ne (tgt := 20) hC dX9_beside_2 (by decide) (fun c1 => ?_) (fun c1 => ?_)
  · replace h := (if_neg c1).symm.trans h
    refine x_iload_n hC dX9_beside_20 rfl (j := 1) rfl <| x_iconst (v := (2 : Int32)) hC dX9_beside_21 (by decide) <| ?_
    refine x_icmp_ne (tgt := 41) hC dX9_beside_22 (by decide) (fun c2 => ?_) (fun c2 => ?_)
    · replace h := (if_neg c2).symm.trans h
      refine x_iload_n hC dX9_beside_41 rfl (j := 1) rfl <| x_iconst (v := (3 : Int32)) hC dX9_beside_42 (by decide) <| ?_
      refine x_icmp_ne (tgt := 64) hC dX9_beside_43 (by decide) (fun c3 => ?_) (fun c3 => ?_)
      · replace h := (if_neg c3).symm.trans h
        refine x_iload_n hC dX9_beside_64 rfl (j := 0) rfl <| x_bipush (v := (6 : Int32)) hC dX9_beside_65 (by decide) <| x_irm hC dX9_beside_67 (by decide) <| ?_
        refine x_if_ne (tgt := 75) hC dX9_beside_68 (by decide) (fun c4 => ?_) (fun c4 => ?_)
        · replace h := (if_neg c4).symm.trans h
          refine x_iload_n hC dX9_beside_75 rfl (j := 0) rfl <| x_iconst (v := (1 : Int32)) hC dX9_beside_76 (by decide) <| x_isub hC dX9_beside_77 <| ?_
          subst h
          exact x_iret (rest := []) hC hE rfl dX9_beside_78
        · replace h := (if_pos c4).symm.trans h
          refine x_iconst (v := (-1 : Int32)) hC dX9_beside_71 (by decide) <| x_goto (tgt := 78) hC dX9_beside_72 (by decide) <| ?_
          subst h
          exact x_iret (rest := []) hC hE rfl dX9_beside_78
      · replace h := (if_pos c3).symm.trans h
        refine x_iload_n hC dX9_beside_46 rfl (j := 0) rfl <| x_bipush (v := (6 : Int32)) hC dX9_beside_47 (by decide) <| x_iadd hC dX9_beside_49 <| x_bipush (v := (36 : Int32)) hC dX9_beside_50 (by decide) <| ?_
        refine x_icmp_ge (tgt := 62) hC dX9_beside_52 (by decide) (fun c5 => ?_) (fun c5 => ?_)
        · replace h := (if_pos c5).symm.trans h
          refine x_iconst (v := (-1 : Int32)) hC dX9_beside_62 (by decide) <| ?_
          subst h
          exact x_iret (rest := []) hC hE rfl dX9_beside_63
        · replace h := (if_neg c5).symm.trans h
          refine x_iload_n hC dX9_beside_55 rfl (j := 0) rfl <| x_bipush (v := (6 : Int32)) hC dX9_beside_56 (by decide) <| x_iadd hC dX9_beside_58 <| x_goto (tgt := 63) hC dX9_beside_59 (by decide) <| ?_
          subst h
          exact x_iret (rest := []) hC hE rfl dX9_beside_63
    · replace h := (if_pos c2).symm.trans h
      refine x_iload_n hC dX9_beside_25 rfl (j := 0) rfl <| x_bipush (v := (6 : Int32)) hC dX9_beside_26 (by decide) <| x_irm hC dX9_beside_28 (by decide) <| x_iconst (v := (5 : Int32)) hC dX9_beside_29 (by decide) <| ?_
      refine x_icmp_ne (tgt := 37) hC dX9_beside_30 (by decide) (fun c6 => ?_) (fun c6 => ?_)
      · replace h := (if_neg c6).symm.trans h
        refine x_iload_n hC dX9_beside_37 rfl (j := 0) rfl <| x_iconst (v := (1 : Int32)) hC dX9_beside_38 (by decide) <| x_iadd hC dX9_beside_39 <| ?_
        subst h
        exact x_iret (rest := []) hC hE rfl dX9_beside_40
      · replace h := (if_pos c6).symm.trans h
        refine x_iconst (v := (-1 : Int32)) hC dX9_beside_33 (by decide) <| x_goto (tgt := 40) hC dX9_beside_34 (by decide) <| ?_
        subst h
        exact x_iret (rest := []) hC hE rfl dX9_beside_40
  · replace h := (if_pos c1).symm.trans h
    refine x_iload_n hC dX9_beside_5 rfl (j := 0) rfl <| x_bipush (v := (6 : Int32)) hC dX9_beside_6 (by decide) <| ?_
    refine x_icmp_ge (tgt := 15) hC dX9_beside_8 (by decide) (fun c7 => ?_) (fun c7 => ?_)
    · replace h := (if_pos c7).symm.trans h
      refine x_iload_n hC dX9_beside_15 rfl (j := 0) rfl <| x_bipush (v := (6 : Int32)) hC dX9_beside_16 (by decide) <| x_isub hC dX9_beside_18 <| ?_
      subst h
      exact x_iret (rest := []) hC hE rfl dX9_beside_19
    · replace h := (if_neg c7).symm.trans h
      refine x_iconst (v := (-1 : Int32)) hC dX9_beside_11 (by decide) <| x_goto (tgt := 19) hC dX9_beside_12 (by decide) <| ?_
      subst h
      exact x_iret (rest := []) hC hE rfl dX9_beside_19
set_option maxRecDepth 100000 in
set_option maxHeartbeats 4000000 in
theorem B_X9_bitsIn_4 {G : xG} {l : Launch} {K : xK} {r : Int32} {σ : xS2} (hC : xCX G mM_X9_bitsIn K) (hR : xRd K 0) (hE : xE G K (some (.int r)) (xM σ)) : ∀ (f : Nat) (l2 : Int32) (l3 : Int64), J_X9_bitsIn_4 f l2 l3 = some r → xV G l mM_X9_bitsIn K 4 [(2, .int l2), (3, .long l3)] [] (xM σ) := by
  intro f
  induction f with
  | zero => intro l2 l3 h; cases h
  | succ f ih =>
    intro l2 l3 h
    refine x_lload_n hC dX9_bitsIn_4 rfl (j := 1) rfl <| x_lconst (v := (0 : Int64)) hC dX9_bitsIn_5 (by decide) <| x_lcmp hC dX9_bitsIn_6 <| ?_
    refine x_if_eq (tgt := 22) hC dX9_bitsIn_7 (by decide) (fun c1 => ?_) (fun c1 => ?_)
    · replace h := (if_pos c1).symm.trans h
      refine x_iload_n hC dX9_bitsIn_22 rfl (j := 0) rfl <| ?_
      have e1 := Option.some.inj h
      subst e1
      exact x_iret (rest := []) hC hE rfl dX9_bitsIn_23
    · replace h := (if_neg c1).symm.trans h
      refine x_iinc hC dX9_bitsIn_10 (j := 0) (v := (l2 + (1 : Int32))) rfl rfl (by decide) rfl <| x_lload_n hC dX9_bitsIn_13 rfl (j := 1) rfl <| x_lload_n hC dX9_bitsIn_14 rfl (j := 1) rfl <| x_lconst (v := (1 : Int64)) hC dX9_bitsIn_15 (by decide) <| x_lsub hC dX9_bitsIn_16 <| x_land hC dX9_bitsIn_17 <| ?_
      refine x_lstore_n hC dX9_bitsIn_18 rfl (by decide) rfl <| x_goto (tgt := 4) hC dX9_bitsIn_19 (by decide) <| ?_
      refine x_sub [1, 0] rfl ?_
      exact ih (l2 + (1 : Int32)) (l3 &&& (l3 - (1 : Int64))) h
set_option maxRecDepth 100000 in
set_option maxHeartbeats 4000000 in
theorem C_X9_bitsIn {G : xG} {l : Launch} {a0 : Int64} {σ : xS2} {r : Int32} (h : J_X9_bitsIn a0 = some r) : xC G l mM_X9_bitsIn 0 [.long a0] (xM σ) (some (.int r)) (xM σ) := by
  refine xC_of (by decide) rfl (Nat.le_refl _) (Nat.le_of_ble_eq_true rfl) (fun K hC hE hR _ => ?_)
  refine x_iconst (v := (0 : Int32)) hC dX9_bitsIn_0 (by decide) <| x_istore_n hC dX9_bitsIn_1 rfl (by decide) rfl <| x_lload_n hC dX9_bitsIn_2 rfl (j := 1) rfl <| x_lstore_n hC dX9_bitsIn_3 rfl (by decide) rfl <| ?_
  refine x_sub [1, 0] rfl ?_
  exact B_X9_bitsIn_4 hC hR hE xFU (0 : Int32) a0 h
set_option maxRecDepth 100000 in
set_option maxHeartbeats 4000000 in
theorem C_X9_body {G : xG} {l : Launch} {a1 : Int32} {σ : xS2} {r : Int32} {τ : xS2} (h : J_X9_body a1 σ = some (r, τ)) : xC G l mM_X9_body 1 [.ref (xad G 43), .int a1] (xM σ) (some (.int r)) (xM τ) := by
  refine xC_of (by decide) rfl (Nat.le_refl _) (Nat.le_of_ble_eq_true rfl) (fun K hC hE hR _ => ?_)
  refine x_iload_n hC dX9_body_0 rfl (j := 1) rfl <| x_iconst (v := (0 : Int32)) hC dX9_body_1 (by decide) <| x_bipush (v := (7 : Int32)) hC dX9_body_2 (by decide) <| x_callS hC hR dX9_body_4 mK_X9_in wml_X9_116 (C_X9_in (a0 := a1) (a1 := (0 : Int32)) (a2 := (7 : Int32)) (σ := σ)) (by omega) rfl (Nat.le_of_ble_eq_true rfl) rfl rfl rfl <| ?_
  refine x_if_ne (tgt := 12) hC dX9_body_7 (by decide) (fun c2 => ?_) (fun c2 => ?_)
  · replace h := (if_neg c2).symm.trans h
    refine x_aload_n hC dX9_body_12 rfl (j := 0) rfl <| s_getI hC dX9_body_13 wfl_X9_373 rfl (by decide) (by decide) (by decide) (by decide) <| x_bipush (v := (50 : Int32)) hC dX9_body_16 (by decide) <| ?_
    refine x_icmp_ne (tgt := 24) hC dX9_body_18 (by decide) (fun c3 => ?_) (fun c3 => ?_)
    · replace h := (if_neg c3).symm.trans h
      refine x_aload_n hC dX9_body_24 rfl (j := 0) rfl <| s_getR (q := 68) hC dX9_body_25 wfl_X9_94 rfl (by decide) (by decide) (by decide) (by decide) (by decide) <| x_aload_n hC dX9_body_28 rfl (j := 0) rfl <| s_getI hC dX9_body_29 wfl_X9_373 rfl (by decide) (by decide) (by decide) (by decide) <| x_iload_n hC dX9_body_32 rfl (j := 1) rfl <| ?_
      obtain ⟨h4, h⟩ := xgd_some h
      refine s_iast hC dX9_body_33 rfl (by decide) h4 <| ?_
      refine x_aload_n hC dX9_body_34 rfl (j := 0) rfl <| x_dup hC dX9_body_35 rfl <| s_getI hC dX9_body_36 wfl_X9_373 rfl (by decide) (by decide) (by decide) (by decide) <| x_iconst (v := (1 : Int32)) hC dX9_body_39 (by decide) <| x_iadd hC dX9_body_40 <| s_putI hC dX9_body_41 wfl_X9_373 rfl (by decide) (by decide) (by decide) (by decide) (by decide) <| ?_
      refine x_aload_n hC dX9_body_44 rfl (j := 0) rfl <| s_getI hC dX9_body_45 wfl_X9_373 rfl (by decide) (by decide) (by decide) (by decide) <| x_iconst (v := (1 : Int32)) hC dX9_body_48 (by decide) <| x_isub hC dX9_body_49 <| ?_
      obtain ⟨e1, e2⟩ := xso2 h
      subst e1
      subst e2
      exact x_iret (rest := []) hC hE rfl dX9_body_50
    · replace h := (if_pos c3).symm.trans h
      refine x_bipush (v := (-3 : Int32)) hC dX9_body_21 (by decide) <| ?_
      obtain ⟨e1, e2⟩ := xso2 h
      subst e1
      subst e2
      exact x_iret (rest := []) hC hE rfl dX9_body_23
  · replace h := (if_pos c2).symm.trans h
    refine x_iconst (v := (-1 : Int32)) hC dX9_body_10 (by decide) <| ?_
    obtain ⟨e1, e2⟩ := xso2 h
    subst e1
    subst e2
    exact x_iret (rest := []) hC hE rfl dX9_body_11
set_option maxRecDepth 100000 in
set_option maxHeartbeats 4000000 in
theorem C_X9_look {G : xG} {l : Launch} {σ : xS2} {r : Int32} (h : J_X9_look σ = some r) : xC G l mM_X9_look 0 [.ref (xad G 43)] (xM σ) (some (.int r)) (xM σ) := by
  refine xC_of (by decide) rfl (Nat.le_refl _) (Nat.le_of_ble_eq_true rfl) (fun K hC hE hR _ => ?_)
  refine x_aload_n hC dX9_look_0 rfl (j := 0) rfl <| s_getI hC dX9_look_1 wfl_X9_185 rfl (by decide) (by decide) (by decide) (by decide) <| x_aload_n hC dX9_look_4 rfl (j := 0) rfl <| s_getI hC dX9_look_5 wfl_X9_182 rfl (by decide) (by decide) (by decide) (by decide) <| ?_
  refine x_icmp_ge (tgt := 23) hC dX9_look_8 (by decide) (fun c1 => ?_) (fun c1 => ?_)
  · replace h := (if_pos c1).symm.trans h
    refine x_iconst (v := (-1 : Int32)) hC dX9_look_23 (by decide) <| ?_
    have e1 := Option.some.inj h
    subst e1
    exact x_iret (rest := []) hC hE rfl dX9_look_24
  · replace h := (if_neg c1).symm.trans h
    refine x_aload_n hC dX9_look_11 rfl (j := 0) rfl <| s_getR (q := 54) hC dX9_look_12 wfl_X9_50 rfl (by decide) (by decide) (by decide) (by decide) (by decide) <| x_aload_n hC dX9_look_15 rfl (j := 0) rfl <| s_getI hC dX9_look_16 wfl_X9_185 rfl (by decide) (by decide) (by decide) (by decide) <| ?_
    obtain ⟨h2, h⟩ := xgd_some h
    refine s_bald hC dX9_look_19 rfl (by decide) h2 <| ?_
    refine x_goto (tgt := 24) hC dX9_look_20 (by decide) <| ?_
    have e1 := Option.some.inj h
    subst e1
    exact x_iret (rest := []) hC hE rfl dX9_look_24
set_option maxRecDepth 100000 in
set_option maxHeartbeats 4000000 in
theorem C_X9_faulty {G : xG} {l : Launch} {σ : xS2} {τ : xS2} (h : J_X9_faulty σ = some τ) : xC G l mM_X9_faulty 0 [.ref (xad G 43)] (xM σ) none (xM τ) := by
  refine xC_of (by decide) rfl (Nat.le_refl _) (Nat.le_of_ble_eq_true rfl) (fun K hC hE hR _ => ?_)
  refine x_aload_n hC dX9_faulty_0 rfl (j := 0) rfl <| s_getI hC dX9_faulty_1 wfl_X9_188 rfl (by decide) (by decide) (by decide) (by decide) <| ?_
  refine x_if_ge (tgt := 15) hC dX9_faulty_4 (by decide) (fun c1 => ?_) (fun c1 => ?_)
  · replace h := (if_pos c1).symm.trans h
    have e1 := Option.some.inj h
    subst e1
    exact x_vret (rest := []) hC hE rfl dX9_faulty_15
  · replace h := (if_neg c1).symm.trans h
    refine x_aload_n hC dX9_faulty_7 rfl (j := 0) rfl <| x_aload_n hC dX9_faulty_8 rfl (j := 0) rfl <| s_getI hC dX9_faulty_9 wfl_X9_185 rfl (by decide) (by decide) (by decide) (by decide) <| s_putI hC dX9_faulty_12 wfl_X9_188 rfl (by decide) (by decide) (by decide) (by decide) (by decide) <| ?_
    have e1 := Option.some.inj h
    subst e1
    exact x_vret (rest := []) hC hE rfl dX9_faulty_15
set_option maxRecDepth 100000 in
set_option maxHeartbeats 4000000 in
theorem B_X9_figure_74 {G : xG} {l : Launch} {K : xK} {τ : xS2} (hC : xCX G mM_X9_figure K) (hR : xRd K 1) (hE : xE G K none (xM τ)) : ∀ (l1 : Int32) (σ : xS2), J_X9_figure_74 l1 σ = some τ → xV G l mM_X9_figure K 74 [(0, .ref (xad G 43)), (1, .int l1)] [] (xM σ) := by
  intro l1 σ h
  refine x_aload_n hC dX9_figure_74 rfl (j := 0) rfl <| x_iconst (v := (1 : Int32)) hC dX9_figure_75 (by decide) <| x_iload_n hC dX9_figure_76 rfl (j := 1) rfl <| ?_
  obtain ⟨x4, h4, h⟩ := Option.bind_eq_some_iff.mp h
  refine x_callV hC hR dX9_figure_77 mK_X9_addStep wml_X9_204 (C_X9_addStep (a1 := (1 : Int32)) (a2 := l1) (σ := σ) h4) (by omega) rfl (by decide) rfl rfl (xlt (by decide)) rfl (Nat.le_of_ble_eq_true rfl) rfl rfl rfl <| ?_
  have e1 := Option.some.inj h
  subst e1
  exact x_vret (rest := []) hC hE rfl dX9_figure_80
set_option maxRecDepth 100000 in
set_option maxHeartbeats 4000000 in
theorem B_X9_figure_70 {G : xG} {l : Launch} {K : xK} {τ : xS2} (hC : xCX G mM_X9_figure K) (hR : xRd K 1) (hE : xE G K none (xM τ)) : ∀ (l1 : Int32) (σ : xS2), J_X9_figure_70 l1 σ = some τ → xV G l mM_X9_figure K 70 [(0, .ref (xad G 43)), (1, .int l1)] [] (xM σ) := by
  intro l1 σ h
  refine x_aload_n hC dX9_figure_70 rfl (j := 0) rfl <| ?_
  obtain ⟨x3, h3, h⟩ := Option.bind_eq_some_iff.mp h
  refine x_callV hC hR dX9_figure_71 mK_X9_faulty wml_X9_197 (C_X9_faulty (σ := σ) h3) (by omega) rfl (by decide) rfl rfl (xlt (by decide)) rfl (Nat.le_of_ble_eq_true rfl) rfl rfl rfl <| ?_
  refine x_sub [0, 1] rfl ?_
  exact B_X9_figure_74 hC hR hE l1 x3 h
set_option maxRecDepth 100000 in
set_option maxHeartbeats 4000000 in
theorem B_X9_figure_52 {G : xG} {l : Launch} {K : xK} {τ : xS2} (hC : xCX G mM_X9_figure K) (hR : xRd K 1) (hE : xE G K none (xM τ)) : ∀ (l1 : Int32) (l2 : Int32) (σ : xS2), J_X9_figure_52 l1 l2 σ = some τ → xV G l mM_X9_figure K 52 [(0, .ref (xad G 43)), (1, .int l1), (2, .int l2)] [] (xM σ) := by
  intro l1 l2 σ h
  refine x_iload_n hC dX9_figure_52 rfl (j := 2) rfl <| ?_
  refine x_if_eq (tgt := 70) hC dX9_figure_53 (by decide) (fun c2 => ?_) (fun c2 => ?_)
  · replace h := (if_pos c2).symm.trans h
    refine x_sub [0, 1] rfl ?_
    exact B_X9_figure_70 hC hR hE l1 σ h
  · replace h := (if_neg c2).symm.trans h
    refine x_aload_n hC dX9_figure_56 rfl (j := 0) rfl <| ?_
    obtain ⟨x5, h5, h⟩ := Option.bind_eq_some_iff.mp h
    refine x_callV hC hR dX9_figure_57 mK_X9_look wml_X9_200 (C_X9_look (σ := σ) h5) (by omega) rfl (by decide) rfl rfl (xlt (by decide)) rfl (Nat.le_of_ble_eq_true rfl) rfl rfl rfl <| ?_
    refine x_bipush (v := (48 : Int32)) hC dX9_figure_60 (by decide) <| x_bipush (v := (57 : Int32)) hC dX9_figure_62 (by decide) <| x_callS hC hR dX9_figure_64 mK_X9_in wml_X9_116 (C_X9_in (a0 := x5) (a1 := (48 : Int32)) (a2 := (57 : Int32)) (σ := σ)) (by omega) rfl (Nat.le_of_ble_eq_true rfl) rfl rfl rfl <| ?_
    refine x_if_eq (tgt := 74) hC dX9_figure_67 (by decide) (fun c7 => ?_) (fun c7 => ?_)
    · replace h := (if_pos c7).symm.trans h
      refine x_sub [0, 1] rfl ?_
      exact B_X9_figure_74 hC hR hE l1 σ h
    · replace h := (if_neg c7).symm.trans h
      refine x_sub [0, 1] rfl ?_
      exact B_X9_figure_70 hC hR hE l1 σ h
set_option maxRecDepth 100000 in
set_option maxHeartbeats 4000000 in
theorem B_X9_figure_4 {G : xG} {l : Launch} {K : xK} {τ : xS2} (hC : xCX G mM_X9_figure K) (hR : xRd K 1) (hE : xE G K none (xM τ)) : ∀ (f : Nat) (l1 : Int32) (l2 : Int32) (σ : xS2), J_X9_figure_4 f l1 l2 σ = some τ → xV G l mM_X9_figure K 4 [(0, .ref (xad G 43)), (1, .int l1), (2, .int l2)] [] (xM σ) := by
  intro f
  induction f with
  | zero => intro l1 l2 σ h; cases h
  | succ f ih =>
    intro l1 l2 σ h
    refine x_iload_n hC dX9_figure_4 rfl (j := 2) rfl <| x_iconst (v := (4 : Int32)) hC dX9_figure_5 (by decide) <| ?_
    refine x_icmp_ge (tgt := 52) hC dX9_figure_6 (by decide) (fun c1 => ?_) (fun c1 => ?_)
    · replace h := (if_pos c1).symm.trans h
      refine x_sub [0, 1, 2] rfl ?_
      exact B_X9_figure_52 hC hR hE l1 l2 σ h
    · replace h := (if_neg c1).symm.trans h
      refine x_aload_n hC dX9_figure_9 rfl (j := 0) rfl <| ?_
      obtain ⟨x8, h8, h⟩ := Option.bind_eq_some_iff.mp h
      refine x_callV hC hR dX9_figure_10 mK_X9_look wml_X9_200 (C_X9_look (σ := σ) h8) (by omega) rfl (by decide) rfl rfl (xlt (by decide)) rfl (Nat.le_of_ble_eq_true rfl) rfl rfl rfl <| ?_
      refine x_bipush (v := (48 : Int32)) hC dX9_figure_13 (by decide) <| x_bipush (v := (57 : Int32)) hC dX9_figure_15 (by decide) <| x_callS hC hR dX9_figure_17 mK_X9_in wml_X9_116 (C_X9_in (a0 := x8) (a1 := (48 : Int32)) (a2 := (57 : Int32)) (σ := σ)) (by omega) rfl (Nat.le_of_ble_eq_true rfl) rfl rfl rfl <| ?_
      refine x_if_eq (tgt := 52) hC dX9_figure_20 (by decide) (fun c10 => ?_) (fun c10 => ?_)
      · replace h := (if_pos c10).symm.trans h
        refine x_sub [0, 1, 2] rfl ?_
        exact B_X9_figure_52 hC hR hE l1 l2 σ h
      · replace h := (if_neg c10).symm.trans h
        refine x_bipush (v := (10 : Int32)) hC dX9_figure_23 (by decide) <| x_iload_n hC dX9_figure_25 rfl (j := 1) rfl <| x_imul hC dX9_figure_26 <| x_aload_n hC dX9_figure_27 rfl (j := 0) rfl <| ?_
        obtain ⟨x11, h11, h⟩ := Option.bind_eq_some_iff.mp h
        refine x_callV hC hR dX9_figure_28 mK_X9_look wml_X9_200 (C_X9_look (σ := σ) h11) (by omega) rfl (by decide) rfl rfl (xlt (by decide)) rfl (Nat.le_of_ble_eq_true rfl) rfl rfl rfl <| ?_
        refine x_iadd hC dX9_figure_31 <| x_bipush (v := (48 : Int32)) hC dX9_figure_32 (by decide) <| x_isub hC dX9_figure_34 <| x_istore_n hC dX9_figure_35 rfl (by decide) rfl <| x_iinc hC dX9_figure_36 (j := 2) (v := (l2 + (1 : Int32))) rfl rfl (by decide) rfl <| x_aload_n hC dX9_figure_39 rfl (j := 2) rfl <| ?_
        refine x_dup hC dX9_figure_40 rfl <| s_getI hC dX9_figure_41 wfl_X9_185 rfl (by decide) (by decide) (by decide) (by decide) <| x_iconst (v := (1 : Int32)) hC dX9_figure_44 (by decide) <| x_iadd hC dX9_figure_45 <| s_putI hC dX9_figure_46 wfl_X9_185 rfl (by decide) (by decide) (by decide) (by decide) (by decide) <| x_goto (tgt := 4) hC dX9_figure_49 (by decide) <| ?_
        refine x_sub [2, 1, 0] rfl ?_
        exact ih ((((10 : Int32) * l1) + x11) - (48 : Int32)) (l2 + (1 : Int32)) (yI σ 43 22 ((σ.1 43 22) + (1 : Int32))) h
set_option maxRecDepth 100000 in
set_option maxHeartbeats 4000000 in
theorem C_X9_figure {G : xG} {l : Launch} {σ : xS2} {τ : xS2} (h : J_X9_figure σ = some τ) : xC G l mM_X9_figure 1 [.ref (xad G 43)] (xM σ) none (xM τ) := by
  refine xC_of (by decide) rfl (Nat.le_refl _) (Nat.le_of_ble_eq_true rfl) (fun K hC hE hR _ => ?_)
  refine x_iconst (v := (0 : Int32)) hC dX9_figure_0 (by decide) <| x_istore_n hC dX9_figure_1 rfl (by decide) rfl <| x_iconst (v := (0 : Int32)) hC dX9_figure_2 (by decide) <| x_istore_n hC dX9_figure_3 rfl (by decide) rfl <| ?_
  refine x_sub [2, 1, 0] rfl ?_
  exact B_X9_figure_4 hC hR hE xFU (0 : Int32) (0 : Int32) σ h
set_option maxRecDepth 100000 in
set_option maxHeartbeats 4000000 in
theorem C_X9_nameOf {G : xG} {l : Launch} {a0 : Int32} {σ : xS2} : xC G l mM_X9_nameOf 0 [.int a0] (xM σ) (some (.int (J_X9_nameOf a0))) (xM σ) := by
  refine xC_of (by decide) rfl (Nat.le_refl _) (Nat.le_of_ble_eq_true rfl) (fun K hC hE hR _ => ?_)
  obtain ⟨r, h⟩ : ∃ r, J_X9_nameOf a0 = r := ⟨_, rfl⟩
  rw [h] at hE
  refine x_iload_n hC dX9_nameOf_0 rfl (j := 0) rfl <| ?_
  by_cases c1 : a0 = (99 : Int32)
  · replace h := (if_pos c1).symm.trans h
    refine x_tsw (tgt := 112) hC dX9_nameOf_1 (by decide) (by rw [c1]; decide) ?_
    refine x_bipush (v := (6 : Int32)) hC dX9_nameOf_112 (by decide) <| ?_
    subst h
    exact x_iret (rest := []) hC hE rfl dX9_nameOf_114
  · replace h := (if_neg c1).symm.trans h
    by_cases c2 : a0 = (100 : Int32)
    · replace h := (if_pos c2).symm.trans h
      refine x_tsw (tgt := 104) hC dX9_nameOf_1 (by decide) (by rw [c2]; decide) ?_
      refine x_iconst (v := (2 : Int32)) hC dX9_nameOf_104 (by decide) <| ?_
      subst h
      exact x_iret (rest := []) hC hE rfl dX9_nameOf_105
    · replace h := (if_neg c2).symm.trans h
      by_cases c3 : a0 = (104 : Int32)
      · replace h := (if_pos c3).symm.trans h
        refine x_tsw (tgt := 106) hC dX9_nameOf_1 (by decide) (by rw [c3]; decide) ?_
        refine x_iconst (v := (3 : Int32)) hC dX9_nameOf_106 (by decide) <| ?_
        subst h
        exact x_iret (rest := []) hC hE rfl dX9_nameOf_107
      · replace h := (if_neg c3).symm.trans h
        by_cases c4 : a0 = (111 : Int32)
        · replace h := (if_pos c4).symm.trans h
          refine x_tsw (tgt := 108) hC dX9_nameOf_1 (by decide) (by rw [c4]; decide) ?_
          refine x_iconst (v := (4 : Int32)) hC dX9_nameOf_108 (by decide) <| ?_
          subst h
          exact x_iret (rest := []) hC hE rfl dX9_nameOf_109
        · replace h := (if_neg c4).symm.trans h
          by_cases c5 : a0 = (115 : Int32)
          · replace h := (if_pos c5).symm.trans h
            refine x_tsw (tgt := 100) hC dX9_nameOf_1 (by decide) (by rw [c5]; decide) ?_
            refine x_iconst (v := (0 : Int32)) hC dX9_nameOf_100 (by decide) <| ?_
            subst h
            exact x_iret (rest := []) hC hE rfl dX9_nameOf_101
          · replace h := (if_neg c5).symm.trans h
            by_cases c6 : a0 = (117 : Int32)
            · replace h := (if_pos c6).symm.trans h
              refine x_tsw (tgt := 102) hC dX9_nameOf_1 (by decide) (by rw [c6]; decide) ?_
              refine x_iconst (v := (1 : Int32)) hC dX9_nameOf_102 (by decide) <| ?_
              subst h
              exact x_iret (rest := []) hC hE rfl dX9_nameOf_103
            · replace h := (if_neg c6).symm.trans h
              by_cases c7 : a0 = (119 : Int32)
              · replace h := (if_pos c7).symm.trans h
                refine x_tsw (tgt := 110) hC dX9_nameOf_1 (by decide) (by rw [c7]; decide) ?_
                refine x_iconst (v := (5 : Int32)) hC dX9_nameOf_110 (by decide) <| ?_
                subst h
                exact x_iret (rest := []) hC hE rfl dX9_nameOf_111
              · replace h := (if_neg c7).symm.trans h
                refine x_tsw (tgt := 115) hC dX9_nameOf_1 (by decide) ((xTs_else [99, 100, 104, 111, 115, 117, 119] (by decide) (by decide +kernel) (List.forall_mem_cons.mpr ⟨lv_neT c1 (by decide), (List.forall_mem_cons.mpr ⟨lv_neT c2 (by decide), (List.forall_mem_cons.mpr ⟨lv_neT c3 (by decide), (List.forall_mem_cons.mpr ⟨lv_neT c4 (by decide), (List.forall_mem_cons.mpr ⟨lv_neT c5 (by decide), (List.forall_mem_cons.mpr ⟨lv_neT c6 (by decide), (List.forall_mem_cons.mpr ⟨lv_neT c7 (by decide), (fun _ z => absurd z List.not_mem_nil)⟩)⟩)⟩)⟩)⟩)⟩)⟩)).trans (by decide)) ?_
                refine x_iconst (v := (-1 : Int32)) hC dX9_nameOf_115 (by decide) <| ?_
                subst h
                exact x_iret (rest := []) hC hE rfl dX9_nameOf_116
set_option maxRecDepth 100000 in
set_option maxHeartbeats 4000000 in
theorem C_X9_opens {G : xG} {l : Launch} {σ : xS2} {r : Bool} {τ : xS2} (h : J_X9_opens σ = some (r, τ)) : xC G l mM_X9_opens 1 [.ref (xad G 43)] (xM σ) (some (.int (xb r))) (xM τ) := by
  refine xC_of (by decide) rfl (Nat.le_refl _) (Nat.le_of_ble_eq_true rfl) (fun K hC hE hR _ => ?_)
  refine x_aload_n hC dX9_opens_0 rfl (j := 0) rfl <| s_getI hC dX9_opens_1 wfl_X9_194 rfl (by decide) (by decide) (by decide) (by decide) <| x_bipush (v := (6 : Int32)) hC dX9_opens_4 (by decide) <| ?_
  refine x_icmp_ne (tgt := 15) hC dX9_opens_6 (by decide) (fun c1 => ?_) (fun c1 => ?_)
  · replace h := (if_neg c1).symm.trans h
    refine x_aload_n hC dX9_opens_15 rfl (j := 0) rfl <| x_dup hC dX9_opens_16 rfl <| s_getI hC dX9_opens_17 wfl_X9_194 rfl (by decide) (by decide) (by decide) (by decide) <| x_iconst (v := (1 : Int32)) hC dX9_opens_20 (by decide) <| x_iadd hC dX9_opens_21 <| s_putI hC dX9_opens_22 wfl_X9_194 rfl (by decide) (by decide) (by decide) (by decide) (by decide) <| ?_
    refine x_aload_n hC dX9_opens_25 rfl (j := 0) rfl <| x_dup hC dX9_opens_26 rfl <| s_getI hC dX9_opens_27 wfl_X9_185 rfl (by decide) (by decide) (by decide) (by decide) <| x_iconst (v := (1 : Int32)) hC dX9_opens_30 (by decide) <| x_iadd hC dX9_opens_31 <| s_putI hC dX9_opens_32 wfl_X9_185 rfl (by decide) (by decide) (by decide) (by decide) (by decide) <| ?_
    refine x_iconst (v := (1 : Int32)) hC dX9_opens_35 (by decide) <| ?_
    obtain ⟨e1, e2⟩ := xso2 h
    subst e1
    subst e2
    exact x_zret (rest := []) hC hE rfl (by decide) dX9_opens_36
  · replace h := (if_pos c1).symm.trans h
    refine x_aload_n hC dX9_opens_9 rfl (j := 0) rfl <| ?_
    obtain ⟨x2, h2, h⟩ := Option.bind_eq_some_iff.mp h
    refine x_callV hC hR dX9_opens_10 mK_X9_faulty wml_X9_197 (C_X9_faulty (σ := σ) h2) (by omega) rfl (by decide) rfl rfl (xlt (by decide)) rfl (Nat.le_of_ble_eq_true rfl) rfl rfl rfl <| ?_
    refine x_iconst (v := (0 : Int32)) hC dX9_opens_13 (by decide) <| ?_
    obtain ⟨e1, e2⟩ := xso2 h
    subst e1
    subst e2
    exact x_zret (rest := []) hC hE rfl (by decide) dX9_opens_14
set_option maxRecDepth 100000 in
set_option maxHeartbeats 4000000 in
theorem B_X9_both_4 {G : xG} {l : Launch} {K : xK} {τ : xS2} {n : Nat} {p_X9_compared : (xS2 → Option xS2)} (hp_X9_compared : ∀ (σ : xS2) (τ : xS2), p_X9_compared σ = some τ → xC G l mM_X9_compared (2 + n) [.ref (xad G 43)] (xM σ) none (xM τ)) (hC : xCX G mM_X9_both K) (hR : xRd K (2 + (n + 1))) (hE : xE G K none (xM τ)) : ∀ (f : Nat) (σ : xS2), J_X9_both_4 p_X9_compared f σ = some τ → xV G l mM_X9_both K 4 [(0, .ref (xad G 43))] [] (xM σ) := by
  intro f
  induction f with
  | zero => intro σ h; cases h
  | succ f ih =>
    intro σ h
    refine x_aload_n hC dX9_both_4 rfl (j := 0) rfl <| s_getI hC dX9_both_5 wfl_X9_188 rfl (by decide) (by decide) (by decide) (by decide) <| ?_
    refine x_if_ge (tgt := 44) hC dX9_both_8 (by decide) (fun c2 => ?_) (fun c2 => ?_)
    · replace h := (if_pos c2).symm.trans h
      have e1 := Option.some.inj h
      subst e1
      exact x_vret (rest := []) hC hE rfl dX9_both_44
    · replace h := (if_neg c2).symm.trans h
      refine x_aload_n hC dX9_both_11 rfl (j := 0) rfl <| ?_
      obtain ⟨x3, h3, h⟩ := Option.bind_eq_some_iff.mp h
      refine x_callV hC hR dX9_both_12 mK_X9_look wml_X9_200 (C_X9_look (σ := σ) h3) (by omega) rfl (by decide) rfl rfl (xlt (by decide)) rfl (Nat.le_of_ble_eq_true rfl) rfl rfl rfl <| ?_
      refine x_bipush (v := (38 : Int32)) hC dX9_both_15 (by decide) <| ?_
      refine x_icmp_ne (tgt := 44) hC dX9_both_17 (by decide) (fun c4 => ?_) (fun c4 => ?_)
      · replace h := (if_neg c4).symm.trans h
        have e1 := Option.some.inj h
        subst e1
        exact x_vret (rest := []) hC hE rfl dX9_both_44
      · replace h := (if_pos c4).symm.trans h
        refine x_aload_n hC dX9_both_20 rfl (j := 0) rfl <| x_dup hC dX9_both_21 rfl <| s_getI hC dX9_both_22 wfl_X9_185 rfl (by decide) (by decide) (by decide) (by decide) <| x_iconst (v := (1 : Int32)) hC dX9_both_25 (by decide) <| x_iadd hC dX9_both_26 <| s_putI hC dX9_both_27 wfl_X9_185 rfl (by decide) (by decide) (by decide) (by decide) (by decide) <| ?_
        refine x_aload_n hC dX9_both_30 rfl (j := 0) rfl <| ?_
        obtain ⟨x5, h5, h⟩ := Option.bind_eq_some_iff.mp h
        refine x_callV hC hR dX9_both_31 mK_X9_compared wml_X9_230 (hp_X9_compared  (yI σ 43 22 ((σ.1 43 22) + (1 : Int32))) _ h5) (by omega) rfl (by decide) rfl rfl (xlt (by decide)) rfl (Nat.le_of_ble_eq_true rfl) rfl rfl rfl <| ?_
        refine x_aload_n hC dX9_both_34 rfl (j := 0) rfl <| x_bipush (v := (38 : Int32)) hC dX9_both_35 (by decide) <| x_iconst (v := (0 : Int32)) hC dX9_both_37 (by decide) <| ?_
        obtain ⟨x6, h6, h⟩ := Option.bind_eq_some_iff.mp h
        refine x_callV hC hR dX9_both_38 mK_X9_addStep wml_X9_204 (C_X9_addStep (a1 := (38 : Int32)) (a2 := (0 : Int32)) (σ := x5) h6) (by omega) rfl (by decide) rfl rfl (xlt (by decide)) rfl (Nat.le_of_ble_eq_true rfl) rfl rfl rfl <| ?_
        refine x_goto (tgt := 4) hC dX9_both_41 (by decide) <| ?_
        refine x_sub [0] rfl ?_
        exact ih x6 h
set_option maxRecDepth 100000 in
set_option maxHeartbeats 4000000 in
theorem D_X9_both {G : xG} {l : Launch} {n : Nat} {p_X9_compared : (xS2 → Option xS2)} (hp_X9_compared : ∀ (σ : xS2) (τ : xS2), p_X9_compared σ = some τ → xC G l mM_X9_compared (2 + n) [.ref (xad G 43)] (xM σ) none (xM τ)) {σ : xS2} {τ : xS2} (h : J_X9_both_b p_X9_compared σ = some τ) : xC G l mM_X9_both (2 + (n + 1)) [.ref (xad G 43)] (xM σ) none (xM τ) := by
  refine xC_of (by decide) rfl (Nat.le_refl _) (Nat.le_of_ble_eq_true rfl) (fun K hC hE hR _ => ?_)
  refine x_aload_n hC dX9_both_0 rfl (j := 0) rfl <| ?_
  obtain ⟨x1, h1, h⟩ := Option.bind_eq_some_iff.mp h
  refine x_callV hC hR dX9_both_1 mK_X9_compared wml_X9_230 (hp_X9_compared  σ _ h1) (by omega) rfl (by decide) rfl rfl (xlt (by decide)) rfl (Nat.le_of_ble_eq_true rfl) rfl rfl rfl <| ?_
  refine x_sub [0] rfl ?_
  exact B_X9_both_4 hp_X9_compared hC hR hE xFU x1 h
set_option maxRecDepth 100000 in
set_option maxHeartbeats 4000000 in
theorem B_X9_compared_35 {G : xG} {l : Launch} {K : xK} {τ : xS2} {n : Nat} {p_X9_sum : (xS2 → Option xS2)} (hp_X9_sum : ∀ (σ : xS2) (τ : xS2), p_X9_sum σ = some τ → xC G l mM_X9_sum (2 + n) [.ref (xad G 43)] (xM σ) none (xM τ)) (hC : xCX G mM_X9_compared K) (hR : xRd K (2 + (n + 1))) (hE : xE G K none (xM τ)) : ∀ (l1 : Int32) (σ : xS2), J_X9_compared_35 p_X9_sum l1 σ = some τ → xV G l mM_X9_compared K 35 [(0, .ref (xad G 43)), (1, .int l1)] [] (xM σ) := by
  intro l1 σ h
  refine x_aload_n hC dX9_compared_35 rfl (j := 0) rfl <| x_dup hC dX9_compared_36 rfl <| s_getI hC dX9_compared_37 wfl_X9_185 rfl (by decide) (by decide) (by decide) (by decide) <| x_iconst (v := (1 : Int32)) hC dX9_compared_40 (by decide) <| x_iadd hC dX9_compared_41 <| s_putI hC dX9_compared_42 wfl_X9_185 rfl (by decide) (by decide) (by decide) (by decide) (by decide) <| ?_
  refine x_aload_n hC dX9_compared_45 rfl (j := 0) rfl <| ?_
  obtain ⟨x5, h5, h⟩ := Option.bind_eq_some_iff.mp h
  refine x_callV hC hR dX9_compared_46 mK_X9_sum wml_X9_227 (hp_X9_sum  (yI σ 43 22 ((σ.1 43 22) + (1 : Int32))) _ h5) (by omega) rfl (by decide) rfl rfl (xlt (by decide)) rfl (Nat.le_of_ble_eq_true rfl) rfl rfl rfl <| ?_
  refine x_aload_n hC dX9_compared_49 rfl (j := 0) rfl <| x_iload_n hC dX9_compared_50 rfl (j := 1) rfl <| x_iconst (v := (0 : Int32)) hC dX9_compared_51 (by decide) <| ?_
  obtain ⟨x6, h6, h⟩ := Option.bind_eq_some_iff.mp h
  refine x_callV hC hR dX9_compared_52 mK_X9_addStep wml_X9_204 (C_X9_addStep (a1 := l1) (a2 := (0 : Int32)) (σ := x5) h6) (by omega) rfl (by decide) rfl rfl (xlt (by decide)) rfl (Nat.le_of_ble_eq_true rfl) rfl rfl rfl <| ?_
  have e1 := Option.some.inj h
  subst e1
  exact x_vret (rest := []) hC hE rfl dX9_compared_55
set_option maxRecDepth 100000 in
set_option maxHeartbeats 4000000 in
theorem D_X9_compared {G : xG} {l : Launch} {n : Nat} {p_X9_sum : (xS2 → Option xS2)} (hp_X9_sum : ∀ (σ : xS2) (τ : xS2), p_X9_sum σ = some τ → xC G l mM_X9_sum (2 + n) [.ref (xad G 43)] (xM σ) none (xM τ)) {σ : xS2} {τ : xS2} (h : J_X9_compared_b p_X9_sum σ = some τ) : xC G l mM_X9_compared (2 + (n + 1)) [.ref (xad G 43)] (xM σ) none (xM τ) := by
  refine xC_of (by decide) rfl (Nat.le_refl _) (Nat.le_of_ble_eq_true rfl) (fun K hC hE hR _ => ?_)
  refine x_aload_n hC dX9_compared_0 rfl (j := 0) rfl <| ?_
  obtain ⟨x1, h1, h⟩ := Option.bind_eq_some_iff.mp h
  refine x_callV hC hR dX9_compared_1 mK_X9_sum wml_X9_227 (hp_X9_sum  σ _ h1) (by omega) rfl (by decide) rfl rfl (xlt (by decide)) rfl (Nat.le_of_ble_eq_true rfl) rfl rfl rfl <| ?_
  refine x_aload_n hC dX9_compared_4 rfl (j := 0) rfl <| ?_
  obtain ⟨x2, h2, h⟩ := Option.bind_eq_some_iff.mp h
  refine x_callV hC hR dX9_compared_5 mK_X9_look wml_X9_200 (C_X9_look (σ := x1) h2) (by omega) rfl (by decide) rfl rfl (xlt (by decide)) rfl (Nat.le_of_ble_eq_true rfl) rfl rfl rfl <| ?_
  refine x_istore_n hC dX9_compared_8 rfl (by decide) rfl <| x_aload_n hC dX9_compared_9 rfl (j := 1) rfl <| s_getI hC dX9_compared_10 wfl_X9_188 rfl (by decide) (by decide) (by decide) (by decide) <| ?_
  refine x_if_ge (tgt := 34) hC dX9_compared_13 (by decide) (fun c3 => ?_) (fun c3 => ?_)
  · replace h := (if_pos c3).symm.trans h
    have e1 := Option.some.inj h
    subst e1
    exact x_vret (rest := []) hC hE rfl dX9_compared_34
  · replace h := (if_neg c3).symm.trans h
    refine x_iload_n hC dX9_compared_16 rfl (j := 0) rfl <| x_bipush (v := (60 : Int32)) hC dX9_compared_17 (by decide) <| ?_
    refine x_icmp_eq (tgt := 35) hC dX9_compared_19 (by decide) (fun c4 => ?_) (fun c4 => ?_)
    · replace h := (if_pos c4).symm.trans h
      refine x_sub [1, 0] rfl ?_
      exact B_X9_compared_35 hp_X9_sum hC hR hE x2 x1 h
    · replace h := (if_neg c4).symm.trans h
      refine x_iload_n hC dX9_compared_22 rfl (j := 0) rfl <| x_bipush (v := (61 : Int32)) hC dX9_compared_23 (by decide) <| ?_
      refine x_icmp_eq (tgt := 35) hC dX9_compared_25 (by decide) (fun c7 => ?_) (fun c7 => ?_)
      · replace h := (if_pos c7).symm.trans h
        refine x_sub [1, 0] rfl ?_
        exact B_X9_compared_35 hp_X9_sum hC hR hE x2 x1 h
      · replace h := (if_neg c7).symm.trans h
        refine x_iload_n hC dX9_compared_28 rfl (j := 0) rfl <| x_bipush (v := (62 : Int32)) hC dX9_compared_29 (by decide) <| ?_
        refine x_icmp_eq (tgt := 35) hC dX9_compared_31 (by decide) (fun c8 => ?_) (fun c8 => ?_)
        · replace h := (if_pos c8).symm.trans h
          refine x_sub [1, 0] rfl ?_
          exact B_X9_compared_35 hp_X9_sum hC hR hE x2 x1 h
        · replace h := (if_neg c8).symm.trans h
          have e1 := Option.some.inj h
          subst e1
          exact x_vret (rest := []) hC hE rfl dX9_compared_34
set_option maxRecDepth 100000 in
set_option maxHeartbeats 4000000 in
theorem B_X9_either_4 {G : xG} {l : Launch} {K : xK} {τ : xS2} {n : Nat} {p_X9_both : (xS2 → Option xS2)} (hp_X9_both : ∀ (σ : xS2) (τ : xS2), p_X9_both σ = some τ → xC G l mM_X9_both (2 + n) [.ref (xad G 43)] (xM σ) none (xM τ)) (hC : xCX G mM_X9_either K) (hR : xRd K (2 + (n + 1))) (hE : xE G K none (xM τ)) : ∀ (f : Nat) (σ : xS2), J_X9_either_4 p_X9_both f σ = some τ → xV G l mM_X9_either K 4 [(0, .ref (xad G 43))] [] (xM σ) := by
  intro f
  induction f with
  | zero => intro σ h; cases h
  | succ f ih =>
    intro σ h
    refine x_aload_n hC dX9_either_4 rfl (j := 0) rfl <| s_getI hC dX9_either_5 wfl_X9_188 rfl (by decide) (by decide) (by decide) (by decide) <| ?_
    refine x_if_ge (tgt := 44) hC dX9_either_8 (by decide) (fun c2 => ?_) (fun c2 => ?_)
    · replace h := (if_pos c2).symm.trans h
      have e1 := Option.some.inj h
      subst e1
      exact x_vret (rest := []) hC hE rfl dX9_either_44
    · replace h := (if_neg c2).symm.trans h
      refine x_aload_n hC dX9_either_11 rfl (j := 0) rfl <| ?_
      obtain ⟨x3, h3, h⟩ := Option.bind_eq_some_iff.mp h
      refine x_callV hC hR dX9_either_12 mK_X9_look wml_X9_200 (C_X9_look (σ := σ) h3) (by omega) rfl (by decide) rfl rfl (xlt (by decide)) rfl (Nat.le_of_ble_eq_true rfl) rfl rfl rfl <| ?_
      refine x_bipush (v := (124 : Int32)) hC dX9_either_15 (by decide) <| ?_
      refine x_icmp_ne (tgt := 44) hC dX9_either_17 (by decide) (fun c4 => ?_) (fun c4 => ?_)
      · replace h := (if_neg c4).symm.trans h
        have e1 := Option.some.inj h
        subst e1
        exact x_vret (rest := []) hC hE rfl dX9_either_44
      · replace h := (if_pos c4).symm.trans h
        refine x_aload_n hC dX9_either_20 rfl (j := 0) rfl <| x_dup hC dX9_either_21 rfl <| s_getI hC dX9_either_22 wfl_X9_185 rfl (by decide) (by decide) (by decide) (by decide) <| x_iconst (v := (1 : Int32)) hC dX9_either_25 (by decide) <| x_iadd hC dX9_either_26 <| s_putI hC dX9_either_27 wfl_X9_185 rfl (by decide) (by decide) (by decide) (by decide) (by decide) <| ?_
        refine x_aload_n hC dX9_either_30 rfl (j := 0) rfl <| ?_
        obtain ⟨x5, h5, h⟩ := Option.bind_eq_some_iff.mp h
        refine x_callV hC hR dX9_either_31 mK_X9_both wml_X9_233 (hp_X9_both  (yI σ 43 22 ((σ.1 43 22) + (1 : Int32))) _ h5) (by omega) rfl (by decide) rfl rfl (xlt (by decide)) rfl (Nat.le_of_ble_eq_true rfl) rfl rfl rfl <| ?_
        refine x_aload_n hC dX9_either_34 rfl (j := 0) rfl <| x_bipush (v := (124 : Int32)) hC dX9_either_35 (by decide) <| x_iconst (v := (0 : Int32)) hC dX9_either_37 (by decide) <| ?_
        obtain ⟨x6, h6, h⟩ := Option.bind_eq_some_iff.mp h
        refine x_callV hC hR dX9_either_38 mK_X9_addStep wml_X9_204 (C_X9_addStep (a1 := (124 : Int32)) (a2 := (0 : Int32)) (σ := x5) h6) (by omega) rfl (by decide) rfl rfl (xlt (by decide)) rfl (Nat.le_of_ble_eq_true rfl) rfl rfl rfl <| ?_
        refine x_goto (tgt := 4) hC dX9_either_41 (by decide) <| ?_
        refine x_sub [0] rfl ?_
        exact ih x6 h
set_option maxRecDepth 100000 in
set_option maxHeartbeats 4000000 in
theorem D_X9_either {G : xG} {l : Launch} {n : Nat} {p_X9_both : (xS2 → Option xS2)} (hp_X9_both : ∀ (σ : xS2) (τ : xS2), p_X9_both σ = some τ → xC G l mM_X9_both (2 + n) [.ref (xad G 43)] (xM σ) none (xM τ)) {σ : xS2} {τ : xS2} (h : J_X9_either_b p_X9_both σ = some τ) : xC G l mM_X9_either (2 + (n + 1)) [.ref (xad G 43)] (xM σ) none (xM τ) := by
  refine xC_of (by decide) rfl (Nat.le_refl _) (Nat.le_of_ble_eq_true rfl) (fun K hC hE hR _ => ?_)
  refine x_aload_n hC dX9_either_0 rfl (j := 0) rfl <| ?_
  obtain ⟨x1, h1, h⟩ := Option.bind_eq_some_iff.mp h
  refine x_callV hC hR dX9_either_1 mK_X9_both wml_X9_233 (hp_X9_both  σ _ h1) (by omega) rfl (by decide) rfl rfl (xlt (by decide)) rfl (Nat.le_of_ble_eq_true rfl) rfl rfl rfl <| ?_
  refine x_sub [0] rfl ?_
  exact B_X9_either_4 hp_X9_both hC hR hE xFU x1 h
set_option maxRecDepth 100000 in
set_option maxHeartbeats 4000000 in
theorem B_X9_operand_80 {G : xG} {l : Launch} {K : xK} {τ : xS2} {n : Nat} {p_X9_either : (xS2 → Option xS2)} (hp_X9_either : ∀ (σ : xS2) (τ : xS2), p_X9_either σ = some τ → xC G l mM_X9_either (2 + n) [.ref (xad G 43)] (xM σ) none (xM τ)) {p_X9_operand : (xS2 → Option xS2)} (hp_X9_operand : ∀ (σ : xS2) (τ : xS2), p_X9_operand σ = some τ → xC G l mM_X9_operand (2 + n) [.ref (xad G 43)] (xM σ) none (xM τ)) (hC : xCX G mM_X9_operand K) (hR : xRd K (2 + (n + 1))) (hE : xE G K none (xM τ)) : ∀ (s1 : Int32) (σ : xS2), J_X9_operand_80 p_X9_either p_X9_operand s1 σ = some τ → xV G l mM_X9_operand K 80 [] [.int s1, .ref (xad G 43)] (xM σ) := by
  intro s1 σ h
  refine x_iconst (v := (0 : Int32)) hC dX9_operand_80 (by decide) <| ?_
  obtain ⟨x9, h9, h⟩ := Option.bind_eq_some_iff.mp h
  refine x_callV hC hR dX9_operand_81 mK_X9_addStep wml_X9_204 (C_X9_addStep (a1 := s1) (a2 := (0 : Int32)) (σ := σ) h9) (by omega) rfl (by decide) rfl rfl (xlt (by decide)) rfl (Nat.le_of_ble_eq_true rfl) rfl rfl rfl <| ?_
  refine x_goto (tgt := 154) hC dX9_operand_84 (by decide) <| ?_
  have e1 := Option.some.inj h
  subst e1
  exact x_vret (rest := []) hC hE rfl dX9_operand_154
set_option maxRecDepth 100000 in
set_option maxHeartbeats 4000000 in
theorem B_X9_operand_46 {G : xG} {l : Launch} {K : xK} {τ : xS2} {n : Nat} {p_X9_either : (xS2 → Option xS2)} (hp_X9_either : ∀ (σ : xS2) (τ : xS2), p_X9_either σ = some τ → xC G l mM_X9_either (2 + n) [.ref (xad G 43)] (xM σ) none (xM τ)) {p_X9_operand : (xS2 → Option xS2)} (hp_X9_operand : ∀ (σ : xS2) (τ : xS2), p_X9_operand σ = some τ → xC G l mM_X9_operand (2 + n) [.ref (xad G 43)] (xM σ) none (xM τ)) (hC : xCX G mM_X9_operand K) (hR : xRd K (2 + (n + 1))) (hE : xE G K none (xM τ)) : ∀ (l1 : Int32) (σ : xS2), J_X9_operand_46 p_X9_either p_X9_operand l1 σ = some τ → xV G l mM_X9_operand K 46 [(0, .ref (xad G 43)), (1, .int l1)] [] (xM σ) := by
  intro l1 σ h
  refine x_aload_n hC dX9_operand_46 rfl (j := 0) rfl <| ?_
  obtain ⟨x5, h5, h⟩ := Option.bind_eq_some_iff.mp h
  refine x_callV hC hR dX9_operand_47 mK_X9_opens wml_X9_211 (C_X9_opens (σ := σ) h5) (by omega) rfl (by decide) rfl rfl (xlt (by decide)) rfl (Nat.le_of_ble_eq_true rfl) rfl rfl rfl <| ?_
  refine x_if_ne (tgt := 54) hC dX9_operand_50 (by decide) (fun c6 => ?_) (fun c6 => ?_)
  · replace h := (if_neg c6).symm.trans h
    refine x_aload_n hC dX9_operand_54 rfl (j := 0) rfl <| ?_
    obtain ⟨x7, h7, h⟩ := Option.bind_eq_some_iff.mp h
    refine x_callV hC hR dX9_operand_55 mK_X9_operand wml_X9_215 (hp_X9_operand  x5.2 _ h7) (by omega) rfl (by decide) rfl rfl (xlt (by decide)) rfl (Nat.le_of_ble_eq_true rfl) rfl rfl rfl <| ?_
    refine x_aload_n hC dX9_operand_58 rfl (j := 0) rfl <| x_dup hC dX9_operand_59 rfl <| s_getI hC dX9_operand_60 wfl_X9_194 rfl (by decide) (by decide) (by decide) (by decide) <| x_iconst (v := (1 : Int32)) hC dX9_operand_63 (by decide) <| x_isub hC dX9_operand_64 <| s_putI hC dX9_operand_65 wfl_X9_194 rfl (by decide) (by decide) (by decide) (by decide) (by decide) <| ?_
    refine x_aload_n hC dX9_operand_68 rfl (j := 0) rfl <| x_iload_n hC dX9_operand_69 rfl (j := 1) rfl <| x_bipush (v := (33 : Int32)) hC dX9_operand_70 (by decide) <| ?_
    refine x_icmp_ne (tgt := 79) hC dX9_operand_72 (by decide) (fun c8 => ?_) (fun c8 => ?_)
    · replace h := (if_neg c8).symm.trans h
      refine x_iconst (v := (4 : Int32)) hC dX9_operand_79 (by decide) <| ?_
      refine x_sub [] rfl ?_
      exact B_X9_operand_80 hp_X9_either hp_X9_operand hC hR hE (4 : Int32) (yI x7 43 24 ((x7.1 43 24) - (1 : Int32))) h
    · replace h := (if_pos c8).symm.trans h
      refine x_iconst (v := (3 : Int32)) hC dX9_operand_75 (by decide) <| x_goto (tgt := 80) hC dX9_operand_76 (by decide) <| ?_
      refine x_sub [] rfl ?_
      exact B_X9_operand_80 hp_X9_either hp_X9_operand hC hR hE (3 : Int32) (yI x7 43 24 ((x7.1 43 24) - (1 : Int32))) h
  · replace h := (if_pos c6).symm.trans h
    have e1 := Option.some.inj h
    subst e1
    exact x_vret (rest := []) hC hE rfl dX9_operand_53
set_option maxRecDepth 100000 in
set_option maxHeartbeats 4000000 in
theorem D_X9_operand {G : xG} {l : Launch} {n : Nat} {p_X9_either : (xS2 → Option xS2)} (hp_X9_either : ∀ (σ : xS2) (τ : xS2), p_X9_either σ = some τ → xC G l mM_X9_either (2 + n) [.ref (xad G 43)] (xM σ) none (xM τ)) {p_X9_operand : (xS2 → Option xS2)} (hp_X9_operand : ∀ (σ : xS2) (τ : xS2), p_X9_operand σ = some τ → xC G l mM_X9_operand (2 + n) [.ref (xad G 43)] (xM σ) none (xM τ)) {σ : xS2} {τ : xS2} (h : J_X9_operand_b p_X9_either p_X9_operand σ = some τ) : xC G l mM_X9_operand (2 + (n + 1)) [.ref (xad G 43)] (xM σ) none (xM τ) := by
  refine xC_of (by decide) rfl (Nat.le_refl _) (Nat.le_of_ble_eq_true rfl) (fun K hC hE hR _ => ?_)
  refine x_aload_n hC dX9_operand_0 rfl (j := 0) rfl <| ?_
  obtain ⟨x1, h1, h⟩ := Option.bind_eq_some_iff.mp h
  refine x_callV hC hR dX9_operand_1 mK_X9_look wml_X9_200 (C_X9_look (σ := σ) h1) (by omega) rfl (by decide) rfl rfl (xlt (by decide)) rfl (Nat.le_of_ble_eq_true rfl) rfl rfl rfl <| ?_
  refine x_istore_n hC dX9_operand_4 rfl (by decide) rfl <| x_iload_n hC dX9_operand_5 rfl (j := 0) rfl <| x_callS hC hR dX9_operand_6 mK_X9_nameOf wml_X9_208 (C_X9_nameOf (a0 := x1) (σ := σ)) (by omega) rfl (Nat.le_of_ble_eq_true rfl) rfl rfl rfl <| ?_
  refine x_if_lt (tgt := 34) hC dX9_operand_9 (by decide) (fun c3 => ?_) (fun c3 => ?_)
  · replace h := (if_pos c3).symm.trans h
    refine x_iload_n hC dX9_operand_34 rfl (j := 0) rfl <| x_bipush (v := (33 : Int32)) hC dX9_operand_35 (by decide) <| ?_
    refine x_icmp_eq (tgt := 46) hC dX9_operand_37 (by decide) (fun c4 => ?_) (fun c4 => ?_)
    · replace h := (if_pos c4).symm.trans h
      refine x_sub [1, 0] rfl ?_
      exact B_X9_operand_46 hp_X9_either hp_X9_operand hC hR hE x1 σ h
    · replace h := (if_neg c4).symm.trans h
      refine x_iload_n hC dX9_operand_40 rfl (j := 0) rfl <| x_bipush (v := (45 : Int32)) hC dX9_operand_41 (by decide) <| ?_
      refine x_icmp_ne (tgt := 87) hC dX9_operand_43 (by decide) (fun c10 => ?_) (fun c10 => ?_)
      · replace h := (if_neg c10).symm.trans h
        refine x_iload_n hC dX9_operand_87 rfl (j := 0) rfl <| x_bipush (v := (40 : Int32)) hC dX9_operand_88 (by decide) <| ?_
        refine x_icmp_ne (tgt := 150) hC dX9_operand_90 (by decide) (fun c11 => ?_) (fun c11 => ?_)
        · replace h := (if_neg c11).symm.trans h
          refine x_aload_n hC dX9_operand_150 rfl (j := 1) rfl <| ?_
          obtain ⟨x12, h12, h⟩ := Option.bind_eq_some_iff.mp h
          refine x_callV hC hR dX9_operand_151 mK_X9_figure wml_X9_221 (C_X9_figure (σ := σ) h12) (by omega) rfl (by decide) rfl rfl (xlt (by decide)) rfl (Nat.le_of_ble_eq_true rfl) rfl rfl rfl <| ?_
          have e1 := Option.some.inj h
          subst e1
          exact x_vret (rest := []) hC hE rfl dX9_operand_154
        · replace h := (if_pos c11).symm.trans h
          refine x_aload_n hC dX9_operand_93 rfl (j := 1) rfl <| ?_
          obtain ⟨x13, h13, h⟩ := Option.bind_eq_some_iff.mp h
          refine x_callV hC hR dX9_operand_94 mK_X9_opens wml_X9_211 (C_X9_opens (σ := σ) h13) (by omega) rfl (by decide) rfl rfl (xlt (by decide)) rfl (Nat.le_of_ble_eq_true rfl) rfl rfl rfl <| ?_
          refine x_if_ne (tgt := 101) hC dX9_operand_97 (by decide) (fun c14 => ?_) (fun c14 => ?_)
          · replace h := (if_neg c14).symm.trans h
            refine x_aload_n hC dX9_operand_101 rfl (j := 1) rfl <| ?_
            obtain ⟨x15, h15, h⟩ := Option.bind_eq_some_iff.mp h
            refine x_callV hC hR dX9_operand_102 mK_X9_either wml_X9_218 (hp_X9_either  x13.2 _ h15) (by omega) rfl (by decide) rfl rfl (xlt (by decide)) rfl (Nat.le_of_ble_eq_true rfl) rfl rfl rfl <| ?_
            refine x_aload_n hC dX9_operand_105 rfl (j := 1) rfl <| s_getI hC dX9_operand_106 wfl_X9_188 rfl (by decide) (by decide) (by decide) (by decide) <| ?_
            refine x_if_lt (tgt := 113) hC dX9_operand_109 (by decide) (fun c16 => ?_) (fun c16 => ?_)
            · replace h := (if_pos c16).symm.trans h
              refine x_aload_n hC dX9_operand_113 rfl (j := 1) rfl <| ?_
              obtain ⟨x17, h17, h⟩ := Option.bind_eq_some_iff.mp h
              refine x_callV hC hR dX9_operand_114 mK_X9_look wml_X9_200 (C_X9_look (σ := x15) h17) (by omega) rfl (by decide) rfl rfl (xlt (by decide)) rfl (Nat.le_of_ble_eq_true rfl) rfl rfl rfl <| ?_
              refine x_bipush (v := (41 : Int32)) hC dX9_operand_117 (by decide) <| ?_
              refine x_icmp_eq (tgt := 127) hC dX9_operand_119 (by decide) (fun c18 => ?_) (fun c18 => ?_)
              · replace h := (if_pos c18).symm.trans h
                refine x_aload_n hC dX9_operand_127 rfl (j := 1) rfl <| x_dup hC dX9_operand_128 rfl <| s_getI hC dX9_operand_129 wfl_X9_185 rfl (by decide) (by decide) (by decide) (by decide) <| x_iconst (v := (1 : Int32)) hC dX9_operand_132 (by decide) <| x_iadd hC dX9_operand_133 <| s_putI hC dX9_operand_134 wfl_X9_185 rfl (by decide) (by decide) (by decide) (by decide) (by decide) <| ?_
                refine x_aload_n hC dX9_operand_137 rfl (j := 1) rfl <| x_dup hC dX9_operand_138 rfl <| s_getI hC dX9_operand_139 wfl_X9_194 rfl (by decide) (by decide) (by decide) (by decide) <| x_iconst (v := (1 : Int32)) hC dX9_operand_142 (by decide) <| x_isub hC dX9_operand_143 <| s_putI hC dX9_operand_144 wfl_X9_194 rfl (by decide) (by decide) (by decide) (by decide) (by decide) <| ?_
                refine x_goto (tgt := 154) hC dX9_operand_147 (by decide) <| ?_
                have e1 := Option.some.inj h
                subst e1
                exact x_vret (rest := []) hC hE rfl dX9_operand_154
              · replace h := (if_neg c18).symm.trans h
                refine x_aload_n hC dX9_operand_122 rfl (j := 1) rfl <| ?_
                obtain ⟨x19, h19, h⟩ := Option.bind_eq_some_iff.mp h
                refine x_callV hC hR dX9_operand_123 mK_X9_faulty wml_X9_197 (C_X9_faulty (σ := x15) h19) (by omega) rfl (by decide) rfl rfl (xlt (by decide)) rfl (Nat.le_of_ble_eq_true rfl) rfl rfl rfl <| ?_
                have e1 := Option.some.inj h
                subst e1
                exact x_vret (rest := []) hC hE rfl dX9_operand_126
            · replace h := (if_neg c16).symm.trans h
              have e1 := Option.some.inj h
              subst e1
              exact x_vret (rest := []) hC hE rfl dX9_operand_112
          · replace h := (if_pos c14).symm.trans h
            have e1 := Option.some.inj h
            subst e1
            exact x_vret (rest := []) hC hE rfl dX9_operand_100
      · replace h := (if_pos c10).symm.trans h
        refine x_sub [1, 0] rfl ?_
        exact B_X9_operand_46 hp_X9_either hp_X9_operand hC hR hE x1 σ h
  · replace h := (if_neg c3).symm.trans h
    refine x_aload_n hC dX9_operand_12 rfl (j := 1) rfl <| x_iconst (v := (2 : Int32)) hC dX9_operand_13 (by decide) <| x_iload_n hC dX9_operand_14 rfl (j := 0) rfl <| x_callS hC hR dX9_operand_15 mK_X9_nameOf wml_X9_208 (C_X9_nameOf (a0 := x1) (σ := σ)) (by omega) rfl (Nat.le_of_ble_eq_true rfl) rfl rfl rfl <| ?_
    obtain ⟨x21, h21, h⟩ := Option.bind_eq_some_iff.mp h
    refine x_callV hC hR dX9_operand_18 mK_X9_addStep wml_X9_204 (C_X9_addStep (a1 := (2 : Int32)) (a2 := (J_X9_nameOf x1)) (σ := σ) h21) (by omega) rfl (by decide) rfl rfl (xlt (by decide)) rfl (Nat.le_of_ble_eq_true rfl) rfl rfl rfl <| ?_
    refine x_aload_n hC dX9_operand_21 rfl (j := 1) rfl <| x_dup hC dX9_operand_22 rfl <| s_getI hC dX9_operand_23 wfl_X9_185 rfl (by decide) (by decide) (by decide) (by decide) <| x_iconst (v := (1 : Int32)) hC dX9_operand_26 (by decide) <| x_iadd hC dX9_operand_27 <| s_putI hC dX9_operand_28 wfl_X9_185 rfl (by decide) (by decide) (by decide) (by decide) (by decide) <| ?_
    refine x_goto (tgt := 154) hC dX9_operand_31 (by decide) <| ?_
    have e1 := Option.some.inj h
    subst e1
    exact x_vret (rest := []) hC hE rfl dX9_operand_154
set_option maxRecDepth 100000 in
set_option maxHeartbeats 4000000 in
theorem B_X9_product_38 {G : xG} {l : Launch} {K : xK} {τ : xS2} {n : Nat} {p_X9_operand : (xS2 → Option xS2)} (hp_X9_operand : ∀ (σ : xS2) (τ : xS2), p_X9_operand σ = some τ → xC G l mM_X9_operand (2 + n) [.ref (xad G 43)] (xM σ) none (xM τ)) (hC : xCX G mM_X9_product K) (hR : xRd K (2 + (n + 1))) (hE : xE G K none (xM τ)) {k4 : xS2 → Option xS2} (hk4 : ∀ (σ : xS2), k4 σ = some τ → xV G l mM_X9_product K 4 [(0, .ref (xad G 43))] [] (xM σ)) : ∀ (σ : xS2), J_X9_product_38 p_X9_operand k4 σ = some τ → xV G l mM_X9_product K 38 [(0, .ref (xad G 43))] [] (xM σ) := by
  intro σ h
  refine x_aload_n hC dX9_product_38 rfl (j := 0) rfl <| ?_
  obtain ⟨x5, h5, h⟩ := Option.bind_eq_some_iff.mp h
  refine x_callV hC hR dX9_product_39 mK_X9_look wml_X9_200 (C_X9_look (σ := σ) h5) (by omega) rfl (by decide) rfl rfl (xlt (by decide)) rfl (Nat.le_of_ble_eq_true rfl) rfl rfl rfl <| ?_
  refine x_istore_n hC dX9_product_42 rfl (by decide) rfl <| x_aload_n hC dX9_product_43 rfl (j := 1) rfl <| x_dup hC dX9_product_44 rfl <| s_getI hC dX9_product_45 wfl_X9_185 rfl (by decide) (by decide) (by decide) (by decide) <| x_iconst (v := (1 : Int32)) hC dX9_product_48 (by decide) <| x_iadd hC dX9_product_49 <| ?_
  refine s_putI hC dX9_product_50 wfl_X9_185 rfl (by decide) (by decide) (by decide) (by decide) (by decide) <| x_aload_n hC dX9_product_53 rfl (j := 1) rfl <| ?_
  obtain ⟨x6, h6, h⟩ := Option.bind_eq_some_iff.mp h
  refine x_callV hC hR dX9_product_54 mK_X9_operand wml_X9_215 (hp_X9_operand  (yI σ 43 22 ((σ.1 43 22) + (1 : Int32))) _ h6) (by omega) rfl (by decide) rfl rfl (xlt (by decide)) rfl (Nat.le_of_ble_eq_true rfl) rfl rfl rfl <| ?_
  refine x_aload_n hC dX9_product_57 rfl (j := 1) rfl <| x_iload_n hC dX9_product_58 rfl (j := 0) rfl <| x_iconst (v := (0 : Int32)) hC dX9_product_59 (by decide) <| ?_
  obtain ⟨x7, h7, h⟩ := Option.bind_eq_some_iff.mp h
  refine x_callV hC hR dX9_product_60 mK_X9_addStep wml_X9_204 (C_X9_addStep (a1 := x5) (a2 := (0 : Int32)) (σ := x6) h7) (by omega) rfl (by decide) rfl rfl (xlt (by decide)) rfl (Nat.le_of_ble_eq_true rfl) rfl rfl rfl <| ?_
  refine x_goto (tgt := 4) hC dX9_product_63 (by decide) <| ?_
  refine x_sub [1] rfl ?_
  exact hk4 x7 h
set_option maxRecDepth 100000 in
set_option maxHeartbeats 4000000 in
theorem B_X9_product_4 {G : xG} {l : Launch} {K : xK} {τ : xS2} {n : Nat} {p_X9_operand : (xS2 → Option xS2)} (hp_X9_operand : ∀ (σ : xS2) (τ : xS2), p_X9_operand σ = some τ → xC G l mM_X9_operand (2 + n) [.ref (xad G 43)] (xM σ) none (xM τ)) (hC : xCX G mM_X9_product K) (hR : xRd K (2 + (n + 1))) (hE : xE G K none (xM τ)) : ∀ (f : Nat) (σ : xS2), J_X9_product_4 p_X9_operand f σ = some τ → xV G l mM_X9_product K 4 [(0, .ref (xad G 43))] [] (xM σ) := by
  intro f
  induction f with
  | zero => intro σ h; cases h
  | succ f ih =>
    intro σ h
    refine x_aload_n hC dX9_product_4 rfl (j := 0) rfl <| s_getI hC dX9_product_5 wfl_X9_188 rfl (by decide) (by decide) (by decide) (by decide) <| ?_
    refine x_if_ge (tgt := 66) hC dX9_product_8 (by decide) (fun c2 => ?_) (fun c2 => ?_)
    · replace h := (if_pos c2).symm.trans h
      have e1 := Option.some.inj h
      subst e1
      exact x_vret (rest := []) hC hE rfl dX9_product_66
    · replace h := (if_neg c2).symm.trans h
      refine x_aload_n hC dX9_product_11 rfl (j := 0) rfl <| ?_
      obtain ⟨x3, h3, h⟩ := Option.bind_eq_some_iff.mp h
      refine x_callV hC hR dX9_product_12 mK_X9_look wml_X9_200 (C_X9_look (σ := σ) h3) (by omega) rfl (by decide) rfl rfl (xlt (by decide)) rfl (Nat.le_of_ble_eq_true rfl) rfl rfl rfl <| ?_
      refine x_bipush (v := (42 : Int32)) hC dX9_product_15 (by decide) <| ?_
      refine x_icmp_eq (tgt := 38) hC dX9_product_17 (by decide) (fun c4 => ?_) (fun c4 => ?_)
      · replace h := (if_pos c4).symm.trans h
        refine x_sub [0] rfl ?_
        exact B_X9_product_38 hp_X9_operand hC hR hE ih σ h
      · replace h := (if_neg c4).symm.trans h
        refine x_aload_n hC dX9_product_20 rfl (j := 0) rfl <| ?_
        obtain ⟨x8, h8, h⟩ := Option.bind_eq_some_iff.mp h
        refine x_callV hC hR dX9_product_21 mK_X9_look wml_X9_200 (C_X9_look (σ := σ) h8) (by omega) rfl (by decide) rfl rfl (xlt (by decide)) rfl (Nat.le_of_ble_eq_true rfl) rfl rfl rfl <| ?_
        refine x_bipush (v := (47 : Int32)) hC dX9_product_24 (by decide) <| ?_
        refine x_icmp_eq (tgt := 38) hC dX9_product_26 (by decide) (fun c9 => ?_) (fun c9 => ?_)
        · replace h := (if_pos c9).symm.trans h
          refine x_sub [0] rfl ?_
          exact B_X9_product_38 hp_X9_operand hC hR hE ih σ h
        · replace h := (if_neg c9).symm.trans h
          refine x_aload_n hC dX9_product_29 rfl (j := 0) rfl <| ?_
          obtain ⟨x10, h10, h⟩ := Option.bind_eq_some_iff.mp h
          refine x_callV hC hR dX9_product_30 mK_X9_look wml_X9_200 (C_X9_look (σ := σ) h10) (by omega) rfl (by decide) rfl rfl (xlt (by decide)) rfl (Nat.le_of_ble_eq_true rfl) rfl rfl rfl <| ?_
          refine x_bipush (v := (37 : Int32)) hC dX9_product_33 (by decide) <| ?_
          refine x_icmp_ne (tgt := 66) hC dX9_product_35 (by decide) (fun c11 => ?_) (fun c11 => ?_)
          · replace h := (if_neg c11).symm.trans h
            have e1 := Option.some.inj h
            subst e1
            exact x_vret (rest := []) hC hE rfl dX9_product_66
          · replace h := (if_pos c11).symm.trans h
            refine x_sub [0] rfl ?_
            exact B_X9_product_38 hp_X9_operand hC hR hE ih σ h
set_option maxRecDepth 100000 in
set_option maxHeartbeats 4000000 in
theorem D_X9_product {G : xG} {l : Launch} {n : Nat} {p_X9_operand : (xS2 → Option xS2)} (hp_X9_operand : ∀ (σ : xS2) (τ : xS2), p_X9_operand σ = some τ → xC G l mM_X9_operand (2 + n) [.ref (xad G 43)] (xM σ) none (xM τ)) {σ : xS2} {τ : xS2} (h : J_X9_product_b p_X9_operand σ = some τ) : xC G l mM_X9_product (2 + (n + 1)) [.ref (xad G 43)] (xM σ) none (xM τ) := by
  refine xC_of (by decide) rfl (Nat.le_refl _) (Nat.le_of_ble_eq_true rfl) (fun K hC hE hR _ => ?_)
  refine x_aload_n hC dX9_product_0 rfl (j := 0) rfl <| ?_
  obtain ⟨x1, h1, h⟩ := Option.bind_eq_some_iff.mp h
  refine x_callV hC hR dX9_product_1 mK_X9_operand wml_X9_215 (hp_X9_operand  σ _ h1) (by omega) rfl (by decide) rfl rfl (xlt (by decide)) rfl (Nat.le_of_ble_eq_true rfl) rfl rfl rfl <| ?_
  refine x_sub [0] rfl ?_
  exact B_X9_product_4 hp_X9_operand hC hR hE xFU x1 h
set_option maxRecDepth 100000 in
set_option maxHeartbeats 4000000 in
theorem B_X9_sum_29 {G : xG} {l : Launch} {K : xK} {τ : xS2} {n : Nat} {p_X9_product : (xS2 → Option xS2)} (hp_X9_product : ∀ (σ : xS2) (τ : xS2), p_X9_product σ = some τ → xC G l mM_X9_product (2 + n) [.ref (xad G 43)] (xM σ) none (xM τ)) (hC : xCX G mM_X9_sum K) (hR : xRd K (2 + (n + 1))) (hE : xE G K none (xM τ)) {k4 : xS2 → Option xS2} (hk4 : ∀ (σ : xS2), k4 σ = some τ → xV G l mM_X9_sum K 4 [(0, .ref (xad G 43))] [] (xM σ)) : ∀ (σ : xS2), J_X9_sum_29 p_X9_product k4 σ = some τ → xV G l mM_X9_sum K 29 [(0, .ref (xad G 43))] [] (xM σ) := by
  intro σ h
  refine x_aload_n hC dX9_sum_29 rfl (j := 0) rfl <| ?_
  obtain ⟨x5, h5, h⟩ := Option.bind_eq_some_iff.mp h
  refine x_callV hC hR dX9_sum_30 mK_X9_look wml_X9_200 (C_X9_look (σ := σ) h5) (by omega) rfl (by decide) rfl rfl (xlt (by decide)) rfl (Nat.le_of_ble_eq_true rfl) rfl rfl rfl <| ?_
  refine x_istore_n hC dX9_sum_33 rfl (by decide) rfl <| x_aload_n hC dX9_sum_34 rfl (j := 1) rfl <| x_dup hC dX9_sum_35 rfl <| s_getI hC dX9_sum_36 wfl_X9_185 rfl (by decide) (by decide) (by decide) (by decide) <| x_iconst (v := (1 : Int32)) hC dX9_sum_39 (by decide) <| x_iadd hC dX9_sum_40 <| ?_
  refine s_putI hC dX9_sum_41 wfl_X9_185 rfl (by decide) (by decide) (by decide) (by decide) (by decide) <| x_aload_n hC dX9_sum_44 rfl (j := 1) rfl <| ?_
  obtain ⟨x6, h6, h⟩ := Option.bind_eq_some_iff.mp h
  refine x_callV hC hR dX9_sum_45 mK_X9_product wml_X9_224 (hp_X9_product  (yI σ 43 22 ((σ.1 43 22) + (1 : Int32))) _ h6) (by omega) rfl (by decide) rfl rfl (xlt (by decide)) rfl (Nat.le_of_ble_eq_true rfl) rfl rfl rfl <| ?_
  refine x_aload_n hC dX9_sum_48 rfl (j := 1) rfl <| x_iload_n hC dX9_sum_49 rfl (j := 0) rfl <| x_iconst (v := (0 : Int32)) hC dX9_sum_50 (by decide) <| ?_
  obtain ⟨x7, h7, h⟩ := Option.bind_eq_some_iff.mp h
  refine x_callV hC hR dX9_sum_51 mK_X9_addStep wml_X9_204 (C_X9_addStep (a1 := x5) (a2 := (0 : Int32)) (σ := x6) h7) (by omega) rfl (by decide) rfl rfl (xlt (by decide)) rfl (Nat.le_of_ble_eq_true rfl) rfl rfl rfl <| ?_
  refine x_goto (tgt := 4) hC dX9_sum_54 (by decide) <| ?_
  refine x_sub [1] rfl ?_
  exact hk4 x7 h
set_option maxRecDepth 100000 in
set_option maxHeartbeats 4000000 in
theorem B_X9_sum_4 {G : xG} {l : Launch} {K : xK} {τ : xS2} {n : Nat} {p_X9_product : (xS2 → Option xS2)} (hp_X9_product : ∀ (σ : xS2) (τ : xS2), p_X9_product σ = some τ → xC G l mM_X9_product (2 + n) [.ref (xad G 43)] (xM σ) none (xM τ)) (hC : xCX G mM_X9_sum K) (hR : xRd K (2 + (n + 1))) (hE : xE G K none (xM τ)) : ∀ (f : Nat) (σ : xS2), J_X9_sum_4 p_X9_product f σ = some τ → xV G l mM_X9_sum K 4 [(0, .ref (xad G 43))] [] (xM σ) := by
  intro f
  induction f with
  | zero => intro σ h; cases h
  | succ f ih =>
    intro σ h
    refine x_aload_n hC dX9_sum_4 rfl (j := 0) rfl <| s_getI hC dX9_sum_5 wfl_X9_188 rfl (by decide) (by decide) (by decide) (by decide) <| ?_
    refine x_if_ge (tgt := 57) hC dX9_sum_8 (by decide) (fun c2 => ?_) (fun c2 => ?_)
    · replace h := (if_pos c2).symm.trans h
      have e1 := Option.some.inj h
      subst e1
      exact x_vret (rest := []) hC hE rfl dX9_sum_57
    · replace h := (if_neg c2).symm.trans h
      refine x_aload_n hC dX9_sum_11 rfl (j := 0) rfl <| ?_
      obtain ⟨x3, h3, h⟩ := Option.bind_eq_some_iff.mp h
      refine x_callV hC hR dX9_sum_12 mK_X9_look wml_X9_200 (C_X9_look (σ := σ) h3) (by omega) rfl (by decide) rfl rfl (xlt (by decide)) rfl (Nat.le_of_ble_eq_true rfl) rfl rfl rfl <| ?_
      refine x_bipush (v := (43 : Int32)) hC dX9_sum_15 (by decide) <| ?_
      refine x_icmp_eq (tgt := 29) hC dX9_sum_17 (by decide) (fun c4 => ?_) (fun c4 => ?_)
      · replace h := (if_pos c4).symm.trans h
        refine x_sub [0] rfl ?_
        exact B_X9_sum_29 hp_X9_product hC hR hE ih σ h
      · replace h := (if_neg c4).symm.trans h
        refine x_aload_n hC dX9_sum_20 rfl (j := 0) rfl <| ?_
        obtain ⟨x8, h8, h⟩ := Option.bind_eq_some_iff.mp h
        refine x_callV hC hR dX9_sum_21 mK_X9_look wml_X9_200 (C_X9_look (σ := σ) h8) (by omega) rfl (by decide) rfl rfl (xlt (by decide)) rfl (Nat.le_of_ble_eq_true rfl) rfl rfl rfl <| ?_
        refine x_bipush (v := (45 : Int32)) hC dX9_sum_24 (by decide) <| ?_
        refine x_icmp_ne (tgt := 57) hC dX9_sum_26 (by decide) (fun c9 => ?_) (fun c9 => ?_)
        · replace h := (if_neg c9).symm.trans h
          have e1 := Option.some.inj h
          subst e1
          exact x_vret (rest := []) hC hE rfl dX9_sum_57
        · replace h := (if_pos c9).symm.trans h
          refine x_sub [0] rfl ?_
          exact B_X9_sum_29 hp_X9_product hC hR hE ih σ h
set_option maxRecDepth 100000 in
set_option maxHeartbeats 4000000 in
theorem D_X9_sum {G : xG} {l : Launch} {n : Nat} {p_X9_product : (xS2 → Option xS2)} (hp_X9_product : ∀ (σ : xS2) (τ : xS2), p_X9_product σ = some τ → xC G l mM_X9_product (2 + n) [.ref (xad G 43)] (xM σ) none (xM τ)) {σ : xS2} {τ : xS2} (h : J_X9_sum_b p_X9_product σ = some τ) : xC G l mM_X9_sum (2 + (n + 1)) [.ref (xad G 43)] (xM σ) none (xM τ) := by
  refine xC_of (by decide) rfl (Nat.le_refl _) (Nat.le_of_ble_eq_true rfl) (fun K hC hE hR _ => ?_)
  refine x_aload_n hC dX9_sum_0 rfl (j := 0) rfl <| ?_
  obtain ⟨x1, h1, h⟩ := Option.bind_eq_some_iff.mp h
  refine x_callV hC hR dX9_sum_1 mK_X9_product wml_X9_224 (hp_X9_product  σ _ h1) (by omega) rfl (by decide) rfl rfl (xlt (by decide)) rfl (Nat.le_of_ble_eq_true rfl) rfl rfl rfl <| ?_
  refine x_sub [0] rfl ?_
  exact B_X9_sum_4 hp_X9_product hC hR hE xFU x1 h
set_option maxRecDepth 100000 in
set_option maxHeartbeats 4000000 in
theorem CG_X9_both {G : xG} {l : Launch} : ∀ n : Nat, (∀ (σ : xS2) (τ : xS2), (G_X9_both n).1 σ = some τ → xC G l mM_X9_both (2 + n) [.ref (xad G 43)] (xM σ) none (xM τ)) ∧ (∀ (σ : xS2) (τ : xS2), (G_X9_both n).2.1 σ = some τ → xC G l mM_X9_compared (2 + n) [.ref (xad G 43)] (xM σ) none (xM τ)) ∧ (∀ (σ : xS2) (τ : xS2), (G_X9_both n).2.2.1 σ = some τ → xC G l mM_X9_either (2 + n) [.ref (xad G 43)] (xM σ) none (xM τ)) ∧ (∀ (σ : xS2) (τ : xS2), (G_X9_both n).2.2.2.1 σ = some τ → xC G l mM_X9_operand (2 + n) [.ref (xad G 43)] (xM σ) none (xM τ)) ∧ (∀ (σ : xS2) (τ : xS2), (G_X9_both n).2.2.2.2.1 σ = some τ → xC G l mM_X9_product (2 + n) [.ref (xad G 43)] (xM σ) none (xM τ)) ∧ (∀ (σ : xS2) (τ : xS2), (G_X9_both n).2.2.2.2.2 σ = some τ → xC G l mM_X9_sum (2 + n) [.ref (xad G 43)] (xM σ) none (xM τ)) := by
  intro n
  induction n with
  | zero => exact ⟨fun _ _ h => (by cases h), fun _ _ h => (by cases h), fun _ _ h => (by cases h), fun _ _ h => (by cases h), fun _ _ h => (by cases h), fun _ _ h => (by cases h)⟩
  | succ n ih =>
    obtain ⟨i_X9_both, i_X9_compared, i_X9_either, i_X9_operand, i_X9_product, i_X9_sum⟩ := ih
    exact ⟨fun σ τ h => D_X9_both i_X9_compared h, fun σ τ h => D_X9_compared i_X9_sum h, fun σ τ h => D_X9_either i_X9_both h, fun σ τ h => D_X9_operand i_X9_either i_X9_operand h, fun σ τ h => D_X9_product i_X9_operand h, fun σ τ h => D_X9_sum i_X9_product h⟩
theorem C_X9_both {G : xG} {l : Launch} {σ : xS2} {τ : xS2} (h : J_X9_both σ = some τ) : xC G l mM_X9_both 102 [.ref (xad G 43)] (xM σ) none (xM τ) := (CG_X9_both 100).1 σ τ h
theorem C_X9_compared {G : xG} {l : Launch} {σ : xS2} {τ : xS2} (h : J_X9_compared σ = some τ) : xC G l mM_X9_compared 102 [.ref (xad G 43)] (xM σ) none (xM τ) := (CG_X9_both 100).2.1 σ τ h
theorem C_X9_either {G : xG} {l : Launch} {σ : xS2} {τ : xS2} (h : J_X9_either σ = some τ) : xC G l mM_X9_either 102 [.ref (xad G 43)] (xM σ) none (xM τ) := (CG_X9_both 100).2.2.1 σ τ h
theorem C_X9_operand {G : xG} {l : Launch} {σ : xS2} {τ : xS2} (h : J_X9_operand σ = some τ) : xC G l mM_X9_operand 102 [.ref (xad G 43)] (xM σ) none (xM τ) := (CG_X9_both 100).2.2.2.1 σ τ h
theorem C_X9_product {G : xG} {l : Launch} {σ : xS2} {τ : xS2} (h : J_X9_product σ = some τ) : xC G l mM_X9_product 102 [.ref (xad G 43)] (xM σ) none (xM τ) := (CG_X9_both 100).2.2.2.2.1 σ τ h
theorem C_X9_sum {G : xG} {l : Launch} {σ : xS2} {τ : xS2} (h : J_X9_sum σ = some τ) : xC G l mM_X9_sum 102 [.ref (xad G 43)] (xM σ) none (xM τ) := (CG_X9_both 100).2.2.2.2.2 σ τ h
