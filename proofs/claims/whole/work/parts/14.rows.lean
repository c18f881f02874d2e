set_option maxRecDepth 100000 in
set_option maxHeartbeats 4000000 in
theorem B_X9_goOn_141 {G : xG} {l : Launch} {K : xK} {τ : xS2} (hC : xCX G mM_X9_goOn K) (hR : xRd K 3) (hE : xE G K none (xM τ)) : ∀ (f : Nat) (l2 : Int32) (σ : xS2), J_X9_goOn_141 f l2 σ = some τ → xV G l mM_X9_goOn K 141 [(0, .ref (xad G 43)), (2, .int l2)] [] (xM σ) := by
  intro f
  induction f with
  | zero => intro l2 σ h; cases h
  | succ f ih =>
    intro l2 σ h
    refine x_iload_n hC dX9_goOn_141 rfl (j := 1) rfl <| x_sipush (v := (360 : Int32)) hC dX9_goOn_142 (by decide) <| ?_
    refine x_icmp_ge (tgt := 166) hC dX9_goOn_145 (by decide) (fun c3 => ?_) (fun c3 => ?_)
    · replace h := (if_pos c3).symm.trans h
      have e1 := Option.some.inj h
      subst e1
      exact x_vret (rest := []) hC hE rfl dX9_goOn_166
    · replace h := (if_neg c3).symm.trans h
      refine x_aload_n hC dX9_goOn_148 rfl (j := 0) rfl <| s_getR (q := 63) hC dX9_goOn_149 wfl_X9_79 rfl (by decide) (by decide) (by decide) (by decide) (by decide) <| x_iload_n hC dX9_goOn_152 rfl (j := 1) rfl <| x_aload_n hC dX9_goOn_153 rfl (j := 0) rfl <| s_getR (q := 64) hC dX9_goOn_154 wfl_X9_82 rfl (by decide) (by decide) (by decide) (by decide) (by decide) <| x_iload_n hC dX9_goOn_157 rfl (j := 1) rfl <| ?_
      obtain ⟨h4, h⟩ := xgd_some h
      refine s_iald hC dX9_goOn_158 rfl (by decide) h4 <| ?_
      obtain ⟨h5, h⟩ := xgd_some h
      refine s_iast hC dX9_goOn_159 rfl (by decide) h5 <| ?_
      refine x_iinc hC dX9_goOn_160 (j := 1) (v := (l2 + (1 : Int32))) rfl rfl (by decide) rfl <| x_goto (tgt := 141) hC dX9_goOn_163 (by decide) <| ?_
      refine x_sub [1, 0] rfl ?_
      exact ih (l2 + (1 : Int32)) (yI σ 63 l2.toNatClampNeg (σ.1 64 l2.toNatClampNeg)) h
set_option maxRecDepth 100000 in
set_option maxHeartbeats 4000000 in
theorem B_X9_goOn_133 {G : xG} {l : Launch} {K : xK} {τ : xS2} (hC : xCX G mM_X9_goOn K) (hR : xRd K 3) (hE : xE G K none (xM τ)) {k24 : Int32 → Int32 → xS2 → Option xS2} (hk24 : ∀ (l1 : Int32) (l2 : Int32) (σ : xS2), k24 l1 l2 σ = some τ → xV G l mM_X9_goOn K 24 [(0, .ref (xad G 43)), (1, .int l1), (2, .int l2)] [] (xM σ)) : ∀ (l1 : Int32) (l2 : Int32) (σ : xS2), J_X9_goOn_133 k24 l1 l2 σ = some τ → xV G l mM_X9_goOn K 133 [(0, .ref (xad G 43)), (1, .int l1), (2, .int l2)] [] (xM σ) := by
  intro l1 l2 σ h
  refine x_iinc hC dX9_goOn_133 (j := 2) (v := (l2 + (1 : Int32))) rfl rfl (by decide) rfl <| x_goto (tgt := 24) hC dX9_goOn_136 (by decide) <| ?_
  refine x_sub [1, 2, 0] rfl ?_
  exact hk24 l1 (l2 + (1 : Int32)) σ h
set_option maxRecDepth 100000 in
set_option maxHeartbeats 4000000 in
theorem B_X9_goOn_127 {G : xG} {l : Launch} {K : xK} {τ : xS2} (hC : xCX G mM_X9_goOn K) (hR : xRd K 3) (hE : xE G K none (xM τ)) {k24 : Int32 → Int32 → xS2 → Option xS2} (hk24 : ∀ (l1 : Int32) (l2 : Int32) (σ : xS2), k24 l1 l2 σ = some τ → xV G l mM_X9_goOn K 24 [(0, .ref (xad G 43)), (1, .int l1), (2, .int l2)] [] (xM σ)) {k67 : Int32 → Int32 → Int32 → Int32 → xS2 → Option xS2} (hk67 : ∀ (l1 : Int32) (l2 : Int32) (l3 : Int32) (l4 : Int32) (σ : xS2), k67 l1 l2 l3 l4 σ = some τ → xV G l mM_X9_goOn K 67 [(0, .ref (xad G 43)), (1, .int l1), (2, .int l2), (3, .int l3), (4, .int l4)] [] (xM σ)) : ∀ (l1 : Int32) (l2 : Int32) (l3 : Int32) (l4 : Int32) (σ : xS2), J_X9_goOn_127 k24 k67 l1 l2 l3 l4 σ = some τ → xV G l mM_X9_goOn K 127 [(0, .ref (xad G 43)), (1, .int l1), (2, .int l2), (3, .int l3), (4, .int l4)] [] (xM σ) := by
  intro l1 l2 l3 l4 σ h
  refine x_iinc hC dX9_goOn_127 (j := 4) (v := (l4 + (1 : Int32))) rfl rfl (by decide) rfl <| x_goto (tgt := 67) hC dX9_goOn_130 (by decide) <| ?_
  refine x_sub [1, 2, 3, 4, 0] rfl ?_
  exact hk67 l1 l2 l3 (l4 + (1 : Int32)) σ h
set_option maxRecDepth 100000 in
set_option maxHeartbeats 4000000 in
theorem B_X9_goOn_67 {G : xG} {l : Launch} {K : xK} {τ : xS2} (hC : xCX G mM_X9_goOn K) (hR : xRd K 3) (hE : xE G K none (xM τ)) {k24 : Int32 → Int32 → xS2 → Option xS2} (hk24 : ∀ (l1 : Int32) (l2 : Int32) (σ : xS2), k24 l1 l2 σ = some τ → xV G l mM_X9_goOn K 24 [(0, .ref (xad G 43)), (1, .int l1), (2, .int l2)] [] (xM σ)) : ∀ (f : Nat) (l1 : Int32) (l2 : Int32) (l3 : Int32) (l4 : Int32) (σ : xS2), J_X9_goOn_67 k24 f l1 l2 l3 l4 σ = some τ → xV G l mM_X9_goOn K 67 [(0, .ref (xad G 43)), (1, .int l1), (2, .int l2), (3, .int l3), (4, .int l4)] [] (xM σ) := by
  intro f
  induction f with
  | zero => intro l1 l2 l3 l4 σ h; cases h
  | succ f ih =>
    intro l1 l2 l3 l4 σ h
    refine x_iload hC dX9_goOn_67 (j := 4) rfl <| x_iconst (v := (4 : Int32)) hC dX9_goOn_69 (by decide) <| ?_
    refine x_icmp_gt (tgt := 133) hC dX9_goOn_70 (by decide) (fun c10 => ?_) (fun c10 => ?_)
    · replace h := (if_pos c10).symm.trans h
      refine x_sub [0, 1, 2] rfl ?_
      exact B_X9_goOn_133 hC hR hE hk24 l1 l2 σ h
    · replace h := (if_neg c10).symm.trans h
      refine x_iload_n hC dX9_goOn_73 rfl (j := 3) rfl <| x_iload hC dX9_goOn_74 (j := 4) rfl <| x_callS hC hR dX9_goOn_76 mK_X9_beside wml_X9_120 (C_X9_beside (a0 := l3) (a1 := l4) (σ := σ)) (by omega) rfl (Nat.le_of_ble_eq_true rfl) rfl rfl rfl <| ?_
      refine x_if_lt (tgt := 127) hC dX9_goOn_79 (by decide) (fun c12 => ?_) (fun c12 => ?_)
      · replace h := (if_pos c12).symm.trans h
        refine x_sub [0, 1, 2, 3, 4] rfl ?_
        exact B_X9_goOn_127 hC hR hE hk24 ih l1 l2 l3 l4 σ h
      · replace h := (if_neg c12).symm.trans h
        refine x_aload_n hC dX9_goOn_82 rfl (j := 0) rfl <| s_getR (q := 63) hC dX9_goOn_83 wfl_X9_79 rfl (by decide) (by decide) (by decide) (by decide) (by decide) <| x_iload_n hC dX9_goOn_86 rfl (j := 2) rfl <| ?_
        obtain ⟨h13, h⟩ := xgd_some h
        refine s_iald hC dX9_goOn_87 rfl (by decide) h13 <| ?_
        refine x_aload_n hC dX9_goOn_88 rfl (j := 0) rfl <| x_iload_n hC dX9_goOn_89 rfl (j := 3) rfl <| x_iload hC dX9_goOn_90 (j := 4) rfl <| ?_
        obtain ⟨x14, h14, h⟩ := Option.bind_eq_some_iff.mp h
        refine x_callV hC hR dX9_goOn_92 mK_X9_costOf wml_X9_255 (C_X9_costOf (a1 := l3) (a2 := l4) (σ := σ) h14) (by omega) rfl (by decide) rfl rfl (xlt (by decide)) rfl (Nat.le_of_ble_eq_true rfl) rfl rfl rfl <| ?_
        refine x_icmp_lt (tgt := 127) hC dX9_goOn_95 (by decide) (fun c15 => ?_) (fun c15 => ?_)
        · replace h := (if_pos c15).symm.trans h
          refine x_sub [0, 1, 2, 3, 4] rfl ?_
          exact B_X9_goOn_127 hC hR hE hk24 ih l1 l2 l3 l4 σ h
        · replace h := (if_neg c15).symm.trans h
          refine x_aload_n hC dX9_goOn_98 rfl (j := 0) rfl <| x_iload_n hC dX9_goOn_99 rfl (j := 3) rfl <| x_iload hC dX9_goOn_100 (j := 4) rfl <| x_callS hC hR dX9_goOn_102 mK_X9_beside wml_X9_120 (C_X9_beside (a0 := l3) (a1 := l4) (σ := σ)) (by omega) rfl (Nat.le_of_ble_eq_true rfl) rfl rfl rfl <| x_aload_n hC dX9_goOn_105 rfl (j := 0) rfl <| s_getR (q := 63) hC dX9_goOn_106 wfl_X9_79 rfl (by decide) (by decide) (by decide) (by decide) (by decide) <| ?_
          refine x_iload_n hC dX9_goOn_109 rfl (j := 2) rfl <| ?_
          obtain ⟨h17, h⟩ := xgd_some h
          refine s_iald hC dX9_goOn_110 rfl (by decide) h17 <| ?_
          refine x_aload_n hC dX9_goOn_111 rfl (j := 0) rfl <| x_iload_n hC dX9_goOn_112 rfl (j := 3) rfl <| x_iload hC dX9_goOn_113 (j := 4) rfl <| ?_
          obtain ⟨x18, h18, h⟩ := Option.bind_eq_some_iff.mp h
          refine x_callV hC hR dX9_goOn_115 mK_X9_costOf wml_X9_255 (C_X9_costOf (a1 := l3) (a2 := l4) (σ := σ) h18) (by omega) rfl (by decide) rfl rfl (xlt (by decide)) rfl (Nat.le_of_ble_eq_true rfl) rfl rfl rfl <| ?_
          refine x_isub hC dX9_goOn_118 <| x_iload_n hC dX9_goOn_119 rfl (j := 2) rfl <| x_bipush (v := (10 : Int32)) hC dX9_goOn_120 (by decide) <| x_irm hC dX9_goOn_122 (by decide) <| x_iload_n hC dX9_goOn_123 rfl (j := 1) rfl <| ?_
          obtain ⟨x19, h19, h⟩ := Option.bind_eq_some_iff.mp h
          refine x_callV hC hR dX9_goOn_124 mK_X9_come wml_X9_316 (C_X9_come (a1 := (J_X9_beside l3 l4)) (a2 := ((σ.1 63 l2.toNatClampNeg) - x18)) (a3 := (xrm l2 (10 : Int32))) (a4 := l1) (σ := σ) h19) (by omega) rfl (by decide) rfl rfl (xlt (by decide)) rfl (Nat.le_of_ble_eq_true rfl) rfl rfl rfl <| ?_
          refine x_sub [0, 1, 2, 3, 4] rfl ?_
          exact B_X9_goOn_127 hC hR hE hk24 ih l1 l2 l3 l4 x19 h
set_option maxRecDepth 100000 in
set_option maxHeartbeats 4000000 in
theorem B_X9_goOn_24 {G : xG} {l : Launch} {K : xK} {τ : xS2} (hC : xCX G mM_X9_goOn K) (hR : xRd K 3) (hE : xE G K none (xM τ)) : ∀ (f : Nat) (l1 : Int32) (l2 : Int32) (σ : xS2), J_X9_goOn_24 f l1 l2 σ = some τ → xV G l mM_X9_goOn K 24 [(0, .ref (xad G 43)), (1, .int l1), (2, .int l2)] [] (xM σ) := by
  intro f
  induction f with
  | zero => intro l1 l2 σ h; cases h
  | succ f ih =>
    intro l1 l2 σ h
    refine x_iload_n hC dX9_goOn_24 rfl (j := 2) rfl <| x_sipush (v := (360 : Int32)) hC dX9_goOn_25 (by decide) <| ?_
    refine x_icmp_ge (tgt := 139) hC dX9_goOn_28 (by decide) (fun c2 => ?_) (fun c2 => ?_)
    · replace h := (if_pos c2).symm.trans h
      refine x_iconst (v := (0 : Int32)) hC dX9_goOn_139 (by decide) <| x_istore_n hC dX9_goOn_140 rfl (by decide) rfl <| ?_
      refine x_sub [1, 0] rfl ?_
      exact B_X9_goOn_141 hC hR hE xFU (0 : Int32) σ h
    · replace h := (if_neg c2).symm.trans h
      refine x_aload_n hC dX9_goOn_31 rfl (j := 0) rfl <| s_getR (q := 63) hC dX9_goOn_32 wfl_X9_79 rfl (by decide) (by decide) (by decide) (by decide) (by decide) <| x_iload_n hC dX9_goOn_35 rfl (j := 2) rfl <| ?_
      obtain ⟨h6, h⟩ := xgd_some h
      refine s_iald hC dX9_goOn_36 rfl (by decide) h6 <| ?_
      refine x_if_ge (tgt := 43) hC dX9_goOn_37 (by decide) (fun c7 => ?_) (fun c7 => ?_)
      · replace h := (if_pos c7).symm.trans h
        refine x_iload_n hC dX9_goOn_43 rfl (j := 2) rfl <| x_bipush (v := (10 : Int32)) hC dX9_goOn_44 (by decide) <| x_idiv hC dX9_goOn_46 (by decide) <| x_istore_n hC dX9_goOn_47 rfl (by decide) rfl <| x_aload_n hC dX9_goOn_48 rfl (j := 1) rfl <| x_iload_n hC dX9_goOn_49 rfl (j := 0) rfl <| ?_
        refine x_aload_n hC dX9_goOn_50 rfl (j := 1) rfl <| s_getR (q := 63) hC dX9_goOn_51 wfl_X9_79 rfl (by decide) (by decide) (by decide) (by decide) (by decide) <| x_iload_n hC dX9_goOn_54 rfl (j := 3) rfl <| ?_
        obtain ⟨h8, h⟩ := xgd_some h
        refine s_iald hC dX9_goOn_55 rfl (by decide) h8 <| ?_
        refine x_iload_n hC dX9_goOn_56 rfl (j := 3) rfl <| x_bipush (v := (10 : Int32)) hC dX9_goOn_57 (by decide) <| x_irm hC dX9_goOn_59 (by decide) <| x_iload_n hC dX9_goOn_60 rfl (j := 2) rfl <| ?_
        obtain ⟨x9, h9, h⟩ := Option.bind_eq_some_iff.mp h
        refine x_callV hC hR dX9_goOn_61 mK_X9_come wml_X9_316 (C_X9_come (a1 := (l2 / (10 : Int32))) (a2 := (σ.1 63 l2.toNatClampNeg)) (a3 := (xrm l2 (10 : Int32))) (a4 := l1) (σ := σ) h9) (by omega) rfl (by decide) rfl rfl (xlt (by decide)) rfl (Nat.le_of_ble_eq_true rfl) rfl rfl rfl <| ?_
        refine x_iconst (v := (1 : Int32)) hC dX9_goOn_64 (by decide) <| x_istore hC dX9_goOn_65 (by decide) rfl <| ?_
        refine x_sub [2, 3, 4, 1, 0] rfl ?_
        exact B_X9_goOn_67 hC hR hE ih xFU l1 l2 (l2 / (10 : Int32)) (1 : Int32) x9 h
      · replace h := (if_neg c7).symm.trans h
        refine x_goto (tgt := 133) hC dX9_goOn_40 (by decide) <| ?_
        refine x_sub [0, 1, 2] rfl ?_
        exact B_X9_goOn_133 hC hR hE ih l1 l2 σ h
set_option maxRecDepth 100000 in
set_option maxHeartbeats 4000000 in
theorem B_X9_goOn_2 {G : xG} {l : Launch} {K : xK} {τ : xS2} (hC : xCX G mM_X9_goOn K) (hR : xRd K 3) (hE : xE G K none (xM τ)) : ∀ (f : Nat) (l1 : Int32) (l2 : Int32) (σ : xS2), J_X9_goOn_2 f l1 l2 σ = some τ → xV G l mM_X9_goOn K 2 [(0, .ref (xad G 43)), (1, .int l1), (2, .int l2)] [] (xM σ) := by
  intro f
  induction f with
  | zero => intro l1 l2 σ h; cases h
  | succ f ih =>
    intro l1 l2 σ h
    refine x_iload_n hC dX9_goOn_2 rfl (j := 2) rfl <| x_sipush (v := (360 : Int32)) hC dX9_goOn_3 (by decide) <| ?_
    refine x_icmp_ge (tgt := 22) hC dX9_goOn_6 (by decide) (fun c1 => ?_) (fun c1 => ?_)
    · replace h := (if_pos c1).symm.trans h
      refine x_iconst (v := (0 : Int32)) hC dX9_goOn_22 (by decide) <| x_istore_n hC dX9_goOn_23 rfl (by decide) rfl <| ?_
      refine x_sub [1, 2, 0] rfl ?_
      exact B_X9_goOn_24 hC hR hE xFU l1 (0 : Int32) σ h
    · replace h := (if_neg c1).symm.trans h
      refine x_aload_n hC dX9_goOn_9 rfl (j := 0) rfl <| s_getR (q := 64) hC dX9_goOn_10 wfl_X9_82 rfl (by decide) (by decide) (by decide) (by decide) (by decide) <| x_iload_n hC dX9_goOn_13 rfl (j := 2) rfl <| x_iconst (v := (-1 : Int32)) hC dX9_goOn_14 (by decide) <| ?_
      obtain ⟨h20, h⟩ := xgd_some h
      refine s_iast hC dX9_goOn_15 rfl (by decide) h20 <| ?_
      refine x_iinc hC dX9_goOn_16 (j := 2) (v := (l2 + (1 : Int32))) rfl rfl (by decide) rfl <| x_goto (tgt := 2) hC dX9_goOn_19 (by decide) <| ?_
      refine x_sub [1, 2, 0] rfl ?_
      exact ih l1 (l2 + (1 : Int32)) (yI σ 64 l2.toNatClampNeg (-1 : Int32)) h
set_option maxRecDepth 100000 in
set_option maxHeartbeats 4000000 in
theorem C_X9_goOn {G : xG} {l : Launch} {a1 : Int32} {σ : xS2} {τ : xS2} (h : J_X9_goOn a1 σ = some τ) : xC G l mM_X9_goOn 3 [.ref (xad G 43), .int a1] (xM σ) none (xM τ) := by
  refine xC_of (by decide) rfl (Nat.le_refl _) (Nat.le_of_ble_eq_true rfl) (fun K hC hE hR _ => ?_)
  refine x_iconst (v := (0 : Int32)) hC dX9_goOn_0 (by decide) <| x_istore_n hC dX9_goOn_1 rfl (by decide) rfl <| ?_
  refine x_sub [1, 2, 0] rfl ?_
  exact B_X9_goOn_2 hC hR hE xFU a1 (0 : Int32) σ h
set_option maxRecDepth 100000 in
set_option maxHeartbeats 4000000 in
theorem B_X9_goRound_131 {G : xG} {l : Launch} {K : xK} {τ : xS2} {n : Nat} {p_X9_goRound : (Int32 → Int32 → Int32 → Int32 → Int32 → xS2 → Option xS2)} (hp_X9_goRound : ∀ (a1 : Int32) (a2 : Int32) (a3 : Int32) (a4 : Int32) (a5 : Int32) (σ : xS2) (τ : xS2), p_X9_goRound a1 a2 a3 a4 a5 σ = some τ → xC G l mM_X9_goRound (1 + n) [.ref (xad G 43), .int a1, .int a2, .int a3, .int a4, .int a5] (xM σ) none (xM τ)) (hC : xCX G mM_X9_goRound K) (hR : xRd K (1 + (n + 1))) (hE : xE G K none (xM τ)) {k64 : Int32 → Int32 → Int32 → Int32 → Int32 → Int32 → xS2 → Option xS2} (hk64 : ∀ (l1 : Int32) (l2 : Int32) (l3 : Int32) (l4 : Int32) (l5 : Int32) (l6 : Int32) (σ : xS2), k64 l1 l2 l3 l4 l5 l6 σ = some τ → xV G l mM_X9_goRound K 64 [(0, .ref (xad G 43)), (1, .int l1), (2, .int l2), (3, .int l3), (4, .int l4), (5, .int l5), (6, .int l6)] [] (xM σ)) : ∀ (l1 : Int32) (l2 : Int32) (l3 : Int32) (l4 : Int32) (l5 : Int32) (l6 : Int32) (σ : xS2), J_X9_goRound_131 p_X9_goRound k64 l1 l2 l3 l4 l5 l6 σ = some τ → xV G l mM_X9_goRound K 131 [(0, .ref (xad G 43)), (1, .int l1), (2, .int l2), (3, .int l3), (4, .int l4), (5, .int l5), (6, .int l6)] [] (xM σ) := by
  intro l1 l2 l3 l4 l5 l6 σ h
  refine x_iinc hC dX9_goRound_131 (j := 6) (v := (l6 + (1 : Int32))) rfl rfl (by decide) rfl <| x_goto (tgt := 64) hC dX9_goRound_134 (by decide) <| ?_
  refine x_sub [1, 2, 3, 4, 5, 6, 0] rfl ?_
  exact hk64 l1 l2 l3 l4 l5 (l6 + (1 : Int32)) σ h
set_option maxRecDepth 100000 in
set_option maxHeartbeats 4000000 in
theorem B_X9_goRound_128 {G : xG} {l : Launch} {K : xK} {τ : xS2} {n : Nat} {p_X9_goRound : (Int32 → Int32 → Int32 → Int32 → Int32 → xS2 → Option xS2)} (hp_X9_goRound : ∀ (a1 : Int32) (a2 : Int32) (a3 : Int32) (a4 : Int32) (a5 : Int32) (σ : xS2) (τ : xS2), p_X9_goRound a1 a2 a3 a4 a5 σ = some τ → xC G l mM_X9_goRound (1 + n) [.ref (xad G 43), .int a1, .int a2, .int a3, .int a4, .int a5] (xM σ) none (xM τ)) (hC : xCX G mM_X9_goRound K) (hR : xRd K (1 + (n + 1))) (hE : xE G K none (xM τ)) {k64 : Int32 → Int32 → Int32 → Int32 → Int32 → Int32 → xS2 → Option xS2} (hk64 : ∀ (l1 : Int32) (l2 : Int32) (l3 : Int32) (l4 : Int32) (l5 : Int32) (l6 : Int32) (σ : xS2), k64 l1 l2 l3 l4 l5 l6 σ = some τ → xV G l mM_X9_goRound K 64 [(0, .ref (xad G 43)), (1, .int l1), (2, .int l2), (3, .int l3), (4, .int l4), (5, .int l5), (6, .int l6)] [] (xM σ)) : ∀ (l1 : Int32) (l2 : Int32) (l3 : Int32) (l4 : Int32) (l5 : Int32) (l6 : Int32) (s1 : Int32) (s2 : Int32) (s3 : Int32) (s4 : Int32) (s5 : Int32) (σ : xS2), J_X9_goRound_128 p_X9_goRound k64 l1 l2 l3 l4 l5 l6 s1 s2 s3 s4 s5 σ = some τ → xV G l mM_X9_goRound K 128 [(0, .ref (xad G 43)), (1, .int l1), (2, .int l2), (3, .int l3), (4, .int l4), (5, .int l5), (6, .int l6)] [.int s5, .int s4, .int s3, .int s2, .int s1, .ref (xad G 43)] (xM σ) := by
  intro l1 l2 l3 l4 l5 l6 s1 s2 s3 s4 s5 σ h
  obtain ⟨x7, h7, h⟩ := Option.bind_eq_some_iff.mp h
  refine x_callV hC hR dX9_goRound_128 mK_X9_goRound wml_X9_332 (hp_X9_goRound s1 s2 s3 s4 s5 σ _ h7) (by omega) rfl (by decide) rfl rfl (xlt (by decide)) rfl (Nat.le_of_ble_eq_true rfl) rfl rfl rfl <| ?_
  refine x_sub [0, 1, 2, 3, 4, 5, 6] rfl ?_
  exact B_X9_goRound_131 hp_X9_goRound hC hR hE hk64 l1 l2 l3 l4 l5 l6 x7 h
set_option maxRecDepth 100000 in
set_option maxHeartbeats 4000000 in
theorem B_X9_goRound_105 {G : xG} {l : Launch} {K : xK} {τ : xS2} {n : Nat} {p_X9_goRound : (Int32 → Int32 → Int32 → Int32 → Int32 → xS2 → Option xS2)} (hp_X9_goRound : ∀ (a1 : Int32) (a2 : Int32) (a3 : Int32) (a4 : Int32) (a5 : Int32) (σ : xS2) (τ : xS2), p_X9_goRound a1 a2 a3 a4 a5 σ = some τ → xC G l mM_X9_goRound (1 + n) [.ref (xad G 43), .int a1, .int a2, .int a3, .int a4, .int a5] (xM σ) none (xM τ)) (hC : xCX G mM_X9_goRound K) (hR : xRd K (1 + (n + 1))) (hE : xE G K none (xM τ)) {k64 : Int32 → Int32 → Int32 → Int32 → Int32 → Int32 → xS2 → Option xS2} (hk64 : ∀ (l1 : Int32) (l2 : Int32) (l3 : Int32) (l4 : Int32) (l5 : Int32) (l6 : Int32) (σ : xS2), k64 l1 l2 l3 l4 l5 l6 σ = some τ → xV G l mM_X9_goRound K 64 [(0, .ref (xad G 43)), (1, .int l1), (2, .int l2), (3, .int l3), (4, .int l4), (5, .int l5), (6, .int l6)] [] (xM σ)) : ∀ (l1 : Int32) (l2 : Int32) (l3 : Int32) (l4 : Int32) (l5 : Int32) (l6 : Int32) (s1 : Int32) (s2 : Int32) (s3 : Int32) (s4 : Int32) (s6 : Int32) (s7 : Int32) (σ : xS2), J_X9_goRound_105 p_X9_goRound k64 l1 l2 l3 l4 l5 l6 s1 s2 s3 s4 s6 s7 σ = some τ → xV G l mM_X9_goRound K 105 [(0, .ref (xad G 43)), (1, .int l1), (2, .int l2), (3, .int l3), (4, .int l4), (5, .int l5), (6, .int l6)] [.int s7, .int s6, .ref (xad G 66), .int s4, .int s3, .int s2, .int s1, .ref (xad G 43)] (xM σ) := by
  intro l1 l2 l3 l4 l5 l6 s1 s2 s3 s4 s6 s7 σ h
  refine x_imul hC dX9_goRound_105 <| x_iload hC dX9_goRound_106 (j := 6) rfl <| x_iadd hC dX9_goRound_108 <| ?_
  obtain ⟨h5, h⟩ := xgd_some h
  refine s_iald hC dX9_goRound_109 rfl (by decide) h5 <| ?_
  refine x_iadd hC dX9_goRound_110 <| x_iload hC dX9_goRound_111 (j := 5) rfl <| ?_
  refine x_if_ge (tgt := 126) hC dX9_goRound_113 (by decide) (fun c6 => ?_) (fun c6 => ?_)
  · replace h := (if_pos c6).symm.trans h
    refine x_iload hC dX9_goRound_126 (j := 5) rfl <| ?_
    refine x_sub [0, 1, 2, 3, 4, 5, 6] rfl ?_
    exact B_X9_goRound_128 hp_X9_goRound hC hR hE hk64 l1 l2 l3 l4 l5 l6 s1 s2 s3 (s4 + (σ.1 66 ((s6 * s7) + l6).toNatClampNeg)) l5 σ h
  · replace h := (if_neg c6).symm.trans h
    refine x_aload_n hC dX9_goRound_116 rfl (j := 0) rfl <| s_getR (q := 65) hC dX9_goRound_117 wfl_X9_85 rfl (by decide) (by decide) (by decide) (by decide) (by decide) <| x_iload hC dX9_goRound_120 (j := 6) rfl <| ?_
    obtain ⟨h8, h⟩ := xgd_some h
    refine s_iald hC dX9_goRound_122 rfl (by decide) h8 <| ?_
    refine x_goto (tgt := 128) hC dX9_goRound_123 (by decide) <| ?_
    refine x_sub [0, 1, 2, 3, 4, 5, 6] rfl ?_
    exact B_X9_goRound_128 hp_X9_goRound hC hR hE hk64 l1 l2 l3 l4 l5 l6 s1 s2 s3 (s4 + (σ.1 66 ((s6 * s7) + l6).toNatClampNeg)) (σ.1 65 l6.toNatClampNeg) σ h
set_option maxRecDepth 100000 in
set_option maxHeartbeats 4000000 in
theorem B_X9_goRound_64 {G : xG} {l : Launch} {K : xK} {τ : xS2} {n : Nat} {p_X9_goRound : (Int32 → Int32 → Int32 → Int32 → Int32 → xS2 → Option xS2)} (hp_X9_goRound : ∀ (a1 : Int32) (a2 : Int32) (a3 : Int32) (a4 : Int32) (a5 : Int32) (σ : xS2) (τ : xS2), p_X9_goRound a1 a2 a3 a4 a5 σ = some τ → xC G l mM_X9_goRound (1 + n) [.ref (xad G 43), .int a1, .int a2, .int a3, .int a4, .int a5] (xM σ) none (xM τ)) (hC : xCX G mM_X9_goRound K) (hR : xRd K (1 + (n + 1))) (hE : xE G K none (xM τ)) : ∀ (f : Nat) (l1 : Int32) (l2 : Int32) (l3 : Int32) (l4 : Int32) (l5 : Int32) (l6 : Int32) (σ : xS2), J_X9_goRound_64 p_X9_goRound f l1 l2 l3 l4 l5 l6 σ = some τ → xV G l mM_X9_goRound K 64 [(0, .ref (xad G 43)), (1, .int l1), (2, .int l2), (3, .int l3), (4, .int l4), (5, .int l5), (6, .int l6)] [] (xM σ) := by
  intro f
  induction f with
  | zero => intro l1 l2 l3 l4 l5 l6 σ h; cases h
  | succ f ih =>
    intro l1 l2 l3 l4 l5 l6 σ h
    refine x_iload hC dX9_goRound_64 (j := 6) rfl <| x_iload_n hC dX9_goRound_66 rfl (j := 1) rfl <| ?_
    refine x_icmp_ge (tgt := 137) hC dX9_goRound_67 (by decide) (fun c2 => ?_) (fun c2 => ?_)
    · replace h := (if_pos c2).symm.trans h
      have e1 := Option.some.inj h
      subst e1
      exact x_vret (rest := []) hC hE rfl dX9_goRound_137
    · replace h := (if_neg c2).symm.trans h
      refine x_iload_n hC dX9_goRound_70 rfl (j := 2) rfl <| x_iload hC dX9_goRound_71 (j := 6) rfl <| x_ishr hC dX9_goRound_73 <| x_iconst (v := (1 : Int32)) hC dX9_goRound_74 (by decide) <| x_iand hC dX9_goRound_75 <| ?_
      refine x_if_ne (tgt := 131) hC dX9_goRound_76 (by decide) (fun c3 => ?_) (fun c3 => ?_)
      · replace h := (if_neg c3).symm.trans h
        refine x_sub [0, 1, 2, 3, 4, 5, 6] rfl ?_
        exact B_X9_goRound_131 hp_X9_goRound hC hR hE ih l1 l2 l3 l4 l5 l6 σ h
      · replace h := (if_pos c3).symm.trans h
        refine x_aload_n hC dX9_goRound_79 rfl (j := 0) rfl <| x_iload_n hC dX9_goRound_80 rfl (j := 1) rfl <| x_iload_n hC dX9_goRound_81 rfl (j := 2) rfl <| x_iconst (v := (1 : Int32)) hC dX9_goRound_82 (by decide) <| x_iload hC dX9_goRound_83 (j := 6) rfl <| x_ishl hC dX9_goRound_85 <| ?_
        refine x_ior hC dX9_goRound_86 <| x_iload hC dX9_goRound_87 (j := 6) rfl <| x_iload hC dX9_goRound_89 (j := 4) rfl <| x_aload_n hC dX9_goRound_91 rfl (j := 0) rfl <| s_getR (q := 66) hC dX9_goRound_92 wfl_X9_88 rfl (by decide) (by decide) (by decide) (by decide) (by decide) <| x_iconst (v := (5 : Int32)) hC dX9_goRound_95 (by decide) <| ?_
        refine x_iload_n hC dX9_goRound_96 rfl (j := 3) rfl <| ?_
        refine x_if_ge (tgt := 104) hC dX9_goRound_97 (by decide) (fun c4 => ?_) (fun c4 => ?_)
        · replace h := (if_pos c4).symm.trans h
          refine x_iload_n hC dX9_goRound_104 rfl (j := 3) rfl <| ?_
          refine x_sub [0, 1, 2, 3, 4, 5, 6] rfl ?_
          exact B_X9_goRound_105 hp_X9_goRound hC hR hE ih l1 l2 l3 l4 l5 l6 l1 (l2 ||| ((1 : Int32) <<< (l6 &&& 31))) l6 l4 (5 : Int32) l3 σ h
        · replace h := (if_neg c4).symm.trans h
          refine x_iconst (v := (5 : Int32)) hC dX9_goRound_100 (by decide) <| x_goto (tgt := 105) hC dX9_goRound_101 (by decide) <| ?_
          refine x_sub [0, 1, 2, 3, 4, 5, 6] rfl ?_
          exact B_X9_goRound_105 hp_X9_goRound hC hR hE ih l1 l2 l3 l4 l5 l6 l1 (l2 ||| ((1 : Int32) <<< (l6 &&& 31))) l6 l4 (5 : Int32) (5 : Int32) σ h
set_option maxRecDepth 100000 in
set_option maxHeartbeats 4000000 in
theorem B_X9_goRound_48 {G : xG} {l : Launch} {K : xK} {τ : xS2} {n : Nat} {p_X9_goRound : (Int32 → Int32 → Int32 → Int32 → Int32 → xS2 → Option xS2)} (hp_X9_goRound : ∀ (a1 : Int32) (a2 : Int32) (a3 : Int32) (a4 : Int32) (a5 : Int32) (σ : xS2) (τ : xS2), p_X9_goRound a1 a2 a3 a4 a5 σ = some τ → xC G l mM_X9_goRound (1 + n) [.ref (xad G 43), .int a1, .int a2, .int a3, .int a4, .int a5] (xM σ) none (xM τ)) (hC : xCX G mM_X9_goRound K) (hR : xRd K (1 + (n + 1))) (hE : xE G K none (xM τ)) : ∀ (l5 : Int32) (l6 : Int32) (σ : xS2), J_X9_goRound_48 p_X9_goRound l5 l6 σ = some τ → xV G l mM_X9_goRound K 48 [(0, .ref (xad G 43)), (5, .int l5), (6, .int l6)] [] (xM σ) := by
  intro l5 l6 σ h
  refine x_aload_n hC dX9_goRound_48 rfl (j := 0) rfl <| x_iload hC dX9_goRound_49 (j := 2) rfl <| s_putI hC dX9_goRound_51 wfl_X9_326 rfl (by decide) (by decide) (by decide) (by decide) (by decide) <| x_aload_n hC dX9_goRound_54 rfl (j := 0) rfl <| x_iload hC dX9_goRound_55 (j := 1) rfl <| s_putI hC dX9_goRound_57 wfl_X9_329 rfl (by decide) (by decide) (by decide) (by decide) (by decide) <| ?_
  have e1 := Option.some.inj h
  subst e1
  exact x_vret (rest := []) hC hE rfl dX9_goRound_60
set_option maxRecDepth 100000 in
set_option maxHeartbeats 4000000 in
theorem D_X9_goRound {G : xG} {l : Launch} {n : Nat} {p_X9_goRound : (Int32 → Int32 → Int32 → Int32 → Int32 → xS2 → Option xS2)} (hp_X9_goRound : ∀ (a1 : Int32) (a2 : Int32) (a3 : Int32) (a4 : Int32) (a5 : Int32) (σ : xS2) (τ : xS2), p_X9_goRound a1 a2 a3 a4 a5 σ = some τ → xC G l mM_X9_goRound (1 + n) [.ref (xad G 43), .int a1, .int a2, .int a3, .int a4, .int a5] (xM σ) none (xM τ)) {a1 : Int32} {a2 : Int32} {a3 : Int32} {a4 : Int32} {a5 : Int32} {σ : xS2} {τ : xS2} (h : J_X9_goRound_b p_X9_goRound a1 a2 a3 a4 a5 σ = some τ) : xC G l mM_X9_goRound (1 + (n + 1)) [.ref (xad G 43), .int a1, .int a2, .int a3, .int a4, .int a5] (xM σ) none (xM τ) := by
  refine xC_of (by decide) rfl (Nat.le_refl _) (Nat.le_of_ble_eq_true rfl) (fun K hC hE hR _ => ?_)
  refine x_iload_n hC dX9_goRound_0 rfl (j := 2) rfl <| x_iconst (v := (1 : Int32)) hC dX9_goRound_1 (by decide) <| x_iload_n hC dX9_goRound_2 rfl (j := 1) rfl <| x_ishl hC dX9_goRound_3 <| x_iconst (v := (1 : Int32)) hC dX9_goRound_4 (by decide) <| x_isub hC dX9_goRound_5 <| ?_
  refine x_icmp_ne (tgt := 61) hC dX9_goRound_6 (by decide) (fun c1 => ?_) (fun c1 => ?_)
  · replace h := (if_neg c1).symm.trans h
    refine x_iconst (v := (0 : Int32)) hC dX9_goRound_61 (by decide) <| x_istore hC dX9_goRound_62 (by decide) rfl <| ?_
    refine x_sub [1, 2, 3, 4, 5, 6, 0] rfl ?_
    exact B_X9_goRound_64 hp_X9_goRound hC hR hE xFU a1 a2 a3 a4 a5 (0 : Int32) σ h
  · replace h := (if_pos c1).symm.trans h
    refine x_iload hC dX9_goRound_9 (j := 4) rfl <| x_aload_n hC dX9_goRound_11 rfl (j := 0) rfl <| s_getR (q := 67) hC dX9_goRound_12 wfl_X9_91 rfl (by decide) (by decide) (by decide) (by decide) (by decide) <| x_iload_n hC dX9_goRound_15 rfl (j := 3) rfl <| ?_
    obtain ⟨h9, h⟩ := xgd_some h
    refine s_iald hC dX9_goRound_16 rfl (by decide) h9 <| ?_
    refine x_iadd hC dX9_goRound_17 <| x_istore hC dX9_goRound_18 (by decide) rfl <| x_iload hC dX9_goRound_20 (j := 0) rfl <| x_aload_n hC dX9_goRound_22 rfl (j := 1) rfl <| s_getI hC dX9_goRound_23 wfl_X9_326 rfl (by decide) (by decide) (by decide) (by decide) <| ?_
    refine x_icmp_gt (tgt := 47) hC dX9_goRound_26 (by decide) (fun c10 => ?_) (fun c10 => ?_)
    · replace h := (if_pos c10).symm.trans h
      have e1 := Option.some.inj h
      subst e1
      exact x_vret (rest := []) hC hE rfl dX9_goRound_47
    · replace h := (if_neg c10).symm.trans h
      refine x_iload hC dX9_goRound_29 (j := 0) rfl <| x_aload_n hC dX9_goRound_31 rfl (j := 1) rfl <| s_getI hC dX9_goRound_32 wfl_X9_326 rfl (by decide) (by decide) (by decide) (by decide) <| ?_
      refine x_icmp_ne (tgt := 48) hC dX9_goRound_35 (by decide) (fun c11 => ?_) (fun c11 => ?_)
      · replace h := (if_neg c11).symm.trans h
        refine x_sub [1, 6, 0] rfl ?_
        exact B_X9_goRound_48 hp_X9_goRound hC hR hE a5 (a4 + (σ.1 67 a3.toNatClampNeg)) σ h
      · replace h := (if_pos c11).symm.trans h
        refine x_iload hC dX9_goRound_38 (j := 6) rfl <| x_aload_n hC dX9_goRound_40 rfl (j := 1) rfl <| s_getI hC dX9_goRound_41 wfl_X9_329 rfl (by decide) (by decide) (by decide) (by decide) <| ?_
        refine x_icmp_le (tgt := 48) hC dX9_goRound_44 (by decide) (fun c12 => ?_) (fun c12 => ?_)
        · replace h := (if_pos c12).symm.trans h
          refine x_sub [1, 6, 0] rfl ?_
          exact B_X9_goRound_48 hp_X9_goRound hC hR hE a5 (a4 + (σ.1 67 a3.toNatClampNeg)) σ h
        · replace h := (if_neg c12).symm.trans h
          have e1 := Option.some.inj h
          subst e1
          exact x_vret (rest := []) hC hE rfl dX9_goRound_47
set_option maxRecDepth 100000 in
set_option maxHeartbeats 4000000 in
theorem CG_X9_goRound {G : xG} {l : Launch} : ∀ n : Nat, (∀ (a1 : Int32) (a2 : Int32) (a3 : Int32) (a4 : Int32) (a5 : Int32) (σ : xS2) (τ : xS2), (G_X9_goRound n) a1 a2 a3 a4 a5 σ = some τ → xC G l mM_X9_goRound (1 + n) [.ref (xad G 43), .int a1, .int a2, .int a3, .int a4, .int a5] (xM σ) none (xM τ)) := by
  intro n
  induction n with
  | zero => exact fun _ _ _ _ _ _ _ h => (by cases h)
  | succ n ih =>
    have i_X9_goRound := ih
    exact fun a1 a2 a3 a4 a5 σ τ h => D_X9_goRound i_X9_goRound h
theorem C_X9_goRound {G : xG} {l : Launch} {a1 : Int32} {a2 : Int32} {a3 : Int32} {a4 : Int32} {a5 : Int32} {σ : xS2} {τ : xS2} (h : J_X9_goRound a1 a2 a3 a4 a5 σ = some τ) : xC G l mM_X9_goRound 101 [.ref (xad G 43), .int a1, .int a2, .int a3, .int a4, .int a5] (xM σ) none (xM τ) := (CG_X9_goRound 100) a1 a2 a3 a4 a5 σ τ h
set_option maxRecDepth 100000 in
set_option maxHeartbeats 4000000 in
theorem B_X9_heights_75 {G : xG} {l : Launch} {K : xK} {r : Int32} {τ : xS2} (hC : xCX G mM_X9_heights K) (hR : xRd K 2) (hE : xE G K (some (.int r)) (xM τ)) : ∀ (f : Nat) (l1 : Int32) (l2 : Int32) (l3 : Int32) (l4 : Int32) (σ : xS2), J_X9_heights_75 f l1 l2 l3 l4 σ = some (r, τ) → xV G l mM_X9_heights K 75 [(0, .ref (xad G 43)), (1, .int l1), (2, .int l2), (3, .int l3), (4, .int l4)] [] (xM σ) := by
  intro f
  induction f with
  | zero => intro l1 l2 l3 l4 σ h; cases h
  | succ f ih =>
    intro l1 l2 l3 l4 σ h
    refine x_iload hC dX9_heights_75 (j := 4) rfl <| x_iload_n hC dX9_heights_77 rfl (j := 3) rfl <| x_bipush (v := (100 : Int32)) hC dX9_heights_78 (by decide) <| x_irm hC dX9_heights_80 (by decide) <| ?_
    refine x_icmp_ge (tgt := 178) hC dX9_heights_81 (by decide) (fun c12 => ?_) (fun c12 => ?_)
    · replace h := (if_pos c12).symm.trans h
      refine x_iload_n hC dX9_heights_178 rfl (j := 3) rfl <| x_bipush (v := (100 : Int32)) hC dX9_heights_179 (by decide) <| x_irm hC dX9_heights_181 (by decide) <| ?_
      obtain ⟨e1, e2⟩ := xso2 h
      subst e1
      subst e2
      exact x_iret (rest := []) hC hE rfl dX9_heights_182
    · replace h := (if_neg c12).symm.trans h
      refine x_iload_n hC dX9_heights_84 rfl (j := 2) rfl <| x_i2l (v := (l2.toInt64)) hC dX9_heights_85 rfl <| x_iload hC dX9_heights_86 (j := 4) rfl <| x_i2l (v := (l4.toInt64)) hC dX9_heights_88 rfl <| x_ladd hC dX9_heights_89 <| x_lstore hC dX9_heights_90 (by decide) rfl <| ?_
      refine x_lload hC dX9_heights_92 (j := 0) rfl <| x_lconst (v := (0 : Int64)) hC dX9_heights_94 (by decide) <| x_lcmp hC dX9_heights_95 <| ?_
      refine x_if_lt (tgt := 125) hC dX9_heights_96 (by decide) (fun c13 => ?_) (fun c13 => ?_)
      · replace h := (if_pos c13).symm.trans h
        refine x_iload hC dX9_heights_125 (j := 5) rfl <| ?_
        obtain ⟨e1, e2⟩ := xso2 h
        subst e1
        subst e2
        exact x_iret (rest := []) hC hE rfl dX9_heights_127
      · replace h := (if_neg c13).symm.trans h
        refine x_lload hC dX9_heights_99 (j := 0) rfl <| x_aload_n hC dX9_heights_101 rfl (j := 1) rfl <| s_getR (q := 71) hC dX9_heights_102 wfl_X9_103 rfl (by decide) (by decide) (by decide) (by decide) (by decide) <| x_iload_n hC dX9_heights_105 rfl (j := 2) rfl <| ?_
        obtain ⟨h14, h⟩ := xgd_some h
        refine s_iald hC dX9_heights_106 rfl (by decide) h14 <| ?_
        refine x_i2l (v := ((σ.1 71 l1.toNatClampNeg).toInt64)) hC dX9_heights_107 rfl <| x_lcmp hC dX9_heights_108 <| ?_
        refine x_if_ge (tgt := 125) hC dX9_heights_109 (by decide) (fun c15 => ?_) (fun c15 => ?_)
        · replace h := (if_pos c15).symm.trans h
          refine x_iload hC dX9_heights_125 (j := 5) rfl <| ?_
          obtain ⟨e1, e2⟩ := xso2 h
          subst e1
          subst e2
          exact x_iret (rest := []) hC hE rfl dX9_heights_127
        · replace h := (if_neg c15).symm.trans h
          refine x_iload_n hC dX9_heights_112 rfl (j := 4) rfl <| x_bipush (v := (100 : Int32)) hC dX9_heights_113 (by decide) <| x_idiv hC dX9_heights_115 (by decide) <| x_iload hC dX9_heights_116 (j := 5) rfl <| x_iadd hC dX9_heights_118 <| x_callS hC hR dX9_heights_119 mK_X9_isCell wml_X9_141 (C_X9_isCell (a0 := ((l3 / (100 : Int32)) + l4)) (σ := σ)) (by omega) rfl (Nat.le_of_ble_eq_true rfl) rfl rfl rfl <| ?_
          refine x_if_ne (tgt := 128) hC dX9_heights_122 (by decide) (fun c17 => ?_) (fun c17 => ?_)
          · replace h := (if_neg c17).symm.trans h
            refine x_aload_n hC dX9_heights_128 rfl (j := 1) rfl <| s_getR (q := 72) hC dX9_heights_129 wfl_X9_106 rfl (by decide) (by decide) (by decide) (by decide) (by decide) <| x_bipush (v := (60 : Int32)) hC dX9_heights_132 (by decide) <| x_iload_n hC dX9_heights_134 rfl (j := 2) rfl <| x_imul hC dX9_heights_135 <| x_lload hC dX9_heights_136 (j := 0) rfl <| ?_
            refine x_l2i (v := (((l2.toInt64) + (l4.toInt64)).toInt32)) hC dX9_heights_138 rfl <| x_iadd hC dX9_heights_139 <| ?_
            obtain ⟨h18, h⟩ := xgd_some h
            refine s_lald hC dX9_heights_140 rfl (by decide) h18 <| ?_
            refine x_l2i (v := ((σ.2 72 (((60 : Int32) * l1) + (((l2.toInt64) + (l4.toInt64)).toInt32)).toNatClampNeg).toInt32)) hC dX9_heights_141 rfl <| x_istore hC dX9_heights_142 (by decide) rfl <| x_iload hC dX9_heights_144 (j := 0) rfl <| x_iconst (v := (0 : Int32)) hC dX9_heights_146 (by decide) <| x_bipush (v := (9 : Int32)) hC dX9_heights_147 (by decide) <| x_callS hC hR dX9_heights_149 mK_X9_in wml_X9_116 (C_X9_in (a0 := ((σ.2 72 (((60 : Int32) * l1) + (((l2.toInt64) + (l4.toInt64)).toInt32)).toNatClampNeg).toInt32)) (a1 := (0 : Int32)) (a2 := (9 : Int32)) (σ := σ)) (by omega) rfl (Nat.le_of_ble_eq_true rfl) rfl rfl rfl <| ?_
            refine x_if_ne (tgt := 158) hC dX9_heights_152 (by decide) (fun c20 => ?_) (fun c20 => ?_)
            · replace h := (if_neg c20).symm.trans h
              refine x_aload_n hC dX9_heights_158 rfl (j := 2) rfl <| s_getR (q := 44) hC dX9_heights_159 wfl_X9_7 rfl (by decide) (by decide) (by decide) (by decide) (by decide) <| x_iload_n hC dX9_heights_162 rfl (j := 5) rfl <| x_bipush (v := (100 : Int32)) hC dX9_heights_163 (by decide) <| x_idiv hC dX9_heights_165 (by decide) <| x_iload hC dX9_heights_166 (j := 6) rfl <| ?_
              refine x_iadd hC dX9_heights_168 <| x_iload hC dX9_heights_169 (j := 0) rfl <| ?_
              obtain ⟨h21, h⟩ := xgd_some h
              refine s_iast hC dX9_heights_171 rfl (by decide) h21 <| ?_
              refine x_iinc hC dX9_heights_172 (j := 6) (v := (l4 + (1 : Int32))) rfl rfl (by decide) rfl <| x_goto (tgt := 75) hC dX9_heights_175 (by decide) <| ?_
              refine x_sub [3, 4, 5, 6, 0] rfl ?_
              exact ih l1 l2 l3 (l4 + (1 : Int32)) (yI σ 44 ((l3 / (100 : Int32)) + l4).toNatClampNeg ((σ.2 72 (((60 : Int32) * l1) + (((l2.toInt64) + (l4.toInt64)).toInt32)).toNatClampNeg).toInt32)) h
            · replace h := (if_pos c20).symm.trans h
              refine x_iload hC dX9_heights_155 (j := 6) rfl <| ?_
              obtain ⟨e1, e2⟩ := xso2 h
              subst e1
              subst e2
              exact x_iret (rest := []) hC hE rfl dX9_heights_157
          · replace h := (if_pos c17).symm.trans h
            refine x_iload hC dX9_heights_125 (j := 5) rfl <| ?_
            obtain ⟨e1, e2⟩ := xso2 h
            subst e1
            subst e2
            exact x_iret (rest := []) hC hE rfl dX9_heights_127
set_option maxRecDepth 100000 in
set_option maxHeartbeats 4000000 in
theorem B_X9_heights_60 {G : xG} {l : Launch} {K : xK} {r : Int32} {τ : xS2} (hC : xCX G mM_X9_heights K) (hR : xRd K 2) (hE : xE G K (some (.int r)) (xM τ)) : ∀ (l1 : Int32) (l2 : Int32) (l3 : Int32) (σ : xS2), J_X9_heights_60 l1 l2 l3 σ = some (r, τ) → xV G l mM_X9_heights K 60 [(0, .ref (xad G 43)), (1, .int l1), (2, .int l2), (3, .int l3)] [] (xM σ) := by
  intro l1 l2 l3 σ h
  refine x_aload_n hC dX9_heights_60 rfl (j := 0) rfl <| s_getR (q := 70) hC dX9_heights_61 wfl_X9_100 rfl (by decide) (by decide) (by decide) (by decide) (by decide) <| x_iload_n hC dX9_heights_64 rfl (j := 1) rfl <| ?_
  obtain ⟨h10, h⟩ := xgd_some h
  refine s_iald hC dX9_heights_65 rfl (by decide) h10 <| ?_
  refine x_iconst (v := (-1 : Int32)) hC dX9_heights_66 (by decide) <| ?_
  refine x_icmp_ne (tgt := 72) hC dX9_heights_67 (by decide) (fun c11 => ?_) (fun c11 => ?_)
  · replace h := (if_neg c11).symm.trans h
    refine x_iconst (v := (0 : Int32)) hC dX9_heights_72 (by decide) <| x_istore hC dX9_heights_73 (by decide) rfl <| ?_
    refine x_sub [1, 2, 3, 4, 0] rfl ?_
    exact B_X9_heights_75 hC hR hE xFU l1 l2 l3 (0 : Int32) σ h
  · replace h := (if_pos c11).symm.trans h
    refine x_iconst (v := (0 : Int32)) hC dX9_heights_70 (by decide) <| ?_
    obtain ⟨e1, e2⟩ := xso2 h
    subst e1
    subst e2
    exact x_iret (rest := []) hC hE rfl dX9_heights_71
set_option maxRecDepth 100000 in
set_option maxHeartbeats 4000000 in
theorem C_X9_heights {G : xG} {l : Launch} {a1 : Int32} {a2 : Int32} {a3 : Int32} {σ : xS2} {r : Int32} {τ : xS2} (h : J_X9_heights a1 a2 a3 σ = some (r, τ)) : xC G l mM_X9_heights 2 [.ref (xad G 43), .int a1, .int a2, .int a3] (xM σ) (some (.int r)) (xM τ) := by
  refine xC_of (by decide) rfl (Nat.le_refl _) (Nat.le_of_ble_eq_true rfl) (fun K hC hE hR _ => ?_)
  refine x_iload_n hC dX9_heights_0 rfl (j := 1) rfl <| x_callS hC hR dX9_heights_1 mK_X9_isShelf wml_X9_179 (C_X9_isShelf (a0 := a1) (σ := σ)) (by omega) rfl (Nat.le_of_ble_eq_true rfl) rfl rfl rfl <| ?_
  refine x_if_eq (tgt := 34) hC dX9_heights_4 (by decide) (fun c2 => ?_) (fun c2 => ?_)
  · replace h := (if_pos c2).symm.trans h
    refine x_iconst (v := (-1 : Int32)) hC dX9_heights_34 (by decide) <| ?_
    obtain ⟨e1, e2⟩ := xso2 h
    subst e1
    subst e2
    exact x_iret (rest := []) hC hE rfl dX9_heights_35
  · replace h := (if_neg c2).symm.trans h
    refine x_iload_n hC dX9_heights_7 rfl (j := 3) rfl <| ?_
    refine x_if_lt (tgt := 34) hC dX9_heights_8 (by decide) (fun c3 => ?_) (fun c3 => ?_)
    · replace h := (if_pos c3).symm.trans h
      refine x_iconst (v := (-1 : Int32)) hC dX9_heights_34 (by decide) <| ?_
      obtain ⟨e1, e2⟩ := xso2 h
      subst e1
      subst e2
      exact x_iret (rest := []) hC hE rfl dX9_heights_35
    · replace h := (if_neg c3).symm.trans h
      refine x_iload_n hC dX9_heights_11 rfl (j := 3) rfl <| x_bipush (v := (100 : Int32)) hC dX9_heights_12 (by decide) <| x_idiv hC dX9_heights_14 (by decide) <| x_callS hC hR dX9_heights_15 mK_X9_isCell wml_X9_141 (C_X9_isCell (a0 := (a3 / (100 : Int32))) (σ := σ)) (by omega) rfl (Nat.le_of_ble_eq_true rfl) rfl rfl rfl <| ?_
      refine x_if_eq (tgt := 34) hC dX9_heights_18 (by decide) (fun c5 => ?_) (fun c5 => ?_)
      · replace h := (if_pos c5).symm.trans h
        refine x_iconst (v := (-1 : Int32)) hC dX9_heights_34 (by decide) <| ?_
        obtain ⟨e1, e2⟩ := xso2 h
        subst e1
        subst e2
        exact x_iret (rest := []) hC hE rfl dX9_heights_35
      · replace h := (if_neg c5).symm.trans h
        refine x_iload_n hC dX9_heights_21 rfl (j := 3) rfl <| x_bipush (v := (100 : Int32)) hC dX9_heights_22 (by decide) <| x_irm hC dX9_heights_24 (by decide) <| x_iconst (v := (1 : Int32)) hC dX9_heights_25 (by decide) <| x_bipush (v := (36 : Int32)) hC dX9_heights_26 (by decide) <| x_callS hC hR dX9_heights_28 mK_X9_in wml_X9_116 (C_X9_in (a0 := (xrm a3 (100 : Int32))) (a1 := (1 : Int32)) (a2 := (36 : Int32)) (σ := σ)) (by omega) rfl (Nat.le_of_ble_eq_true rfl) rfl rfl rfl <| ?_
        refine x_if_ne (tgt := 36) hC dX9_heights_31 (by decide) (fun c7 => ?_) (fun c7 => ?_)
        · replace h := (if_neg c7).symm.trans h
          refine x_aload_n hC dX9_heights_36 rfl (j := 0) rfl <| s_getR (q := 70) hC dX9_heights_37 wfl_X9_100 rfl (by decide) (by decide) (by decide) (by decide) (by decide) <| x_iload_n hC dX9_heights_40 rfl (j := 1) rfl <| ?_
          obtain ⟨h8, h⟩ := xgd_some h
          refine s_iald hC dX9_heights_41 rfl (by decide) h8 <| ?_
          refine x_iconst (v := (-1 : Int32)) hC dX9_heights_42 (by decide) <| ?_
          refine x_icmp_eq (tgt := 60) hC dX9_heights_43 (by decide) (fun c9 => ?_) (fun c9 => ?_)
          · replace h := (if_pos c9).symm.trans h
            refine x_sub [0, 1, 2, 3] rfl ?_
            exact B_X9_heights_60 hC hR hE a1 a2 a3 σ h
          · replace h := (if_neg c9).symm.trans h
            refine x_aload_n hC dX9_heights_46 rfl (j := 0) rfl <| s_getR (q := 70) hC dX9_heights_47 wfl_X9_100 rfl (by decide) (by decide) (by decide) (by decide) (by decide) <| x_iload_n hC dX9_heights_50 rfl (j := 1) rfl <| ?_
            obtain ⟨h22, h⟩ := xgd_some h
            refine s_iald hC dX9_heights_51 rfl (by decide) h22 <| ?_
            refine x_bipush (v := (-2 : Int32)) hC dX9_heights_52 (by decide) <| ?_
            refine x_icmp_eq (tgt := 60) hC dX9_heights_54 (by decide) (fun c23 => ?_) (fun c23 => ?_)
            · replace h := (if_pos c23).symm.trans h
              refine x_sub [0, 1, 2, 3] rfl ?_
              exact B_X9_heights_60 hC hR hE a1 a2 a3 σ h
            · replace h := (if_neg c23).symm.trans h
              refine x_bipush (v := (-12 : Int32)) hC dX9_heights_57 (by decide) <| ?_
              obtain ⟨e1, e2⟩ := xso2 h
              subst e1
              subst e2
              exact x_iret (rest := []) hC hE rfl dX9_heights_59
        · replace h := (if_pos c7).symm.trans h
          refine x_iconst (v := (-1 : Int32)) hC dX9_heights_34 (by decide) <| ?_
          obtain ⟨e1, e2⟩ := xso2 h
          subst e1
          subst e2
          exact x_iret (rest := []) hC hE rfl dX9_heights_35
set_option maxRecDepth 100000 in
set_option maxHeartbeats 4000000 in
theorem C_X9_image {G : xG} {l : Launch} {σ : xS2} {r : Int32} {τ : xS2} (h : J_X9_image σ = some (r, τ)) : xC G l mM_X9_image 0 [.ref (xad G 43)] (xM σ) (some (.int r)) (xM τ) := by
  refine xC_of (by decide) rfl (Nat.le_refl _) (Nat.le_of_ble_eq_true rfl) (fun K hC hE hR _ => ?_)
  refine x_aload_n hC dX9_image_0 rfl (j := 0) rfl <| x_iconst (v := (1 : Int32)) hC dX9_image_1 (by decide) <| s_putZ hC dX9_image_2 wfl_X9_355 rfl (by decide) (by decide) (by decide) (by decide) (by decide) (by decide) <| x_aload_n hC dX9_image_5 rfl (j := 0) rfl <| x_aload_n hC dX9_image_6 rfl (j := 0) rfl <| s_getI hC dX9_image_7 wfl_X9_166 rfl (by decide) (by decide) (by decide) (by decide) <| ?_
  refine s_putI hC dX9_image_10 wfl_X9_358 rfl (by decide) (by decide) (by decide) (by decide) (by decide) <| x_aload_n hC dX9_image_13 rfl (j := 0) rfl <| x_aload_n hC dX9_image_14 rfl (j := 0) rfl <| s_getI hC dX9_image_15 wfl_X9_169 rfl (by decide) (by decide) (by decide) (by decide) <| s_putI hC dX9_image_18 wfl_X9_361 rfl (by decide) (by decide) (by decide) (by decide) (by decide) <| x_aload_n hC dX9_image_21 rfl (j := 0) rfl <| ?_
  refine x_aload_n hC dX9_image_22 rfl (j := 0) rfl <| s_getI hC dX9_image_23 wfl_X9_29 rfl (by decide) (by decide) (by decide) (by decide) <| s_putI hC dX9_image_26 wfl_X9_364 rfl (by decide) (by decide) (by decide) (by decide) (by decide) <| x_aload_n hC dX9_image_29 rfl (j := 0) rfl <| x_aload_n hC dX9_image_30 rfl (j := 0) rfl <| s_getI hC dX9_image_31 wfl_X9_172 rfl (by decide) (by decide) (by decide) (by decide) <| ?_
  refine s_putI hC dX9_image_34 wfl_X9_367 rfl (by decide) (by decide) (by decide) (by decide) (by decide) <| x_aload_n hC dX9_image_37 rfl (j := 0) rfl <| x_aload_n hC dX9_image_38 rfl (j := 0) rfl <| s_getL hC dX9_image_39 wfl_X9_124 rfl (by decide) (by decide) (by decide) (by decide) <| s_putL hC dX9_image_42 wfl_X9_370 rfl (by decide) (by decide) (by decide) (by decide) (by decide) <| x_aload_n hC dX9_image_45 rfl (j := 0) rfl <| ?_
  refine s_getI hC dX9_image_46 wfl_X9_166 rfl (by decide) (by decide) (by decide) (by decide) <| ?_
  obtain ⟨e1, e2⟩ := xso2 h
  subst e1
  subst e2
  exact x_iret (rest := []) hC hE rfl dX9_image_49
set_option maxRecDepth 100000 in
set_option maxHeartbeats 4000000 in
theorem C_X9_isDay {G : xG} {l : Launch} {a0 : Int32} {σ : xS2} : xC G l mM_X9_isDay 1 [.int a0] (xM σ) (some (.int (xb (J_X9_isDay a0)))) (xM σ) := by
  refine xC_of (by decide) rfl (Nat.le_refl _) (Nat.le_of_ble_eq_true rfl) (fun K hC hE hR _ => ?_)
  obtain ⟨r, h⟩ : ∃ r, J_X9_isDay a0 = r := ⟨_, rfl⟩
  rw [h] at hE
  refine x_iload_n hC dX9_isDay_0 rfl (j := 0) rfl <| x_iconst (v := (0 : Int32)) hC dX9_isDay_1 (by decide) <| x_bipush (v := (59 : Int32)) hC dX9_isDay_2 (by decide) <| x_callS hC hR dX9_isDay_4 mK_X9_in wml_X9_116 (C_X9_in (a0 := a0) (a1 := (0 : Int32)) (a2 := (59 : Int32)) (σ := σ)) (by omega) rfl (Nat.le_of_ble_eq_true rfl) rfl rfl rfl <| ?_
  subst h
  exact x_zret (rest := []) hC hE rfl (rfl) dX9_isDay_7
set_option maxRecDepth 100000 in
set_option maxHeartbeats 4000000 in
theorem C_X9_isThing {G : xG} {l : Launch} {a1 : Int32} {a2 : Int32} {σ : xS2} : xC G l mM_X9_isThing 2 [.ref (xad G 43), .int a1, .int a2] (xM σ) (some (.int (xb (J_X9_isThing a1 a2)))) (xM σ) := by
  refine xC_of (by decide) rfl (Nat.le_refl _) (Nat.le_of_ble_eq_true rfl) (fun K hC hE hR _ => ?_)
  obtain ⟨r, h⟩ : ∃ r, J_X9_isThing a1 a2 = r := ⟨_, rfl⟩
  rw [h] at hE
  refine x_iload_n hC dX9_isThing_0 rfl (j := 2) rfl <| x_iconst (v := (0 : Int32)) hC dX9_isThing_1 (by decide) <| x_iconst (v := (1 : Int32)) hC dX9_isThing_2 (by decide) <| x_callS hC hR dX9_isThing_3 mK_X9_in wml_X9_116 (C_X9_in (a0 := a2) (a1 := (0 : Int32)) (a2 := (1 : Int32)) (σ := σ)) (by omega) rfl (Nat.le_of_ble_eq_true rfl) rfl rfl rfl <| ?_
  refine x_if_eq (tgt := 14) hC dX9_isThing_6 (by decide) (fun c2 => ?_) (fun c2 => ?_)
  · replace h := (if_pos c2).symm.trans h
    refine x_iload_n hC dX9_isThing_14 rfl (j := 2) rfl <| x_iconst (v := (2 : Int32)) hC dX9_isThing_15 (by decide) <| x_iconst (v := (3 : Int32)) hC dX9_isThing_16 (by decide) <| x_callS hC hR dX9_isThing_17 mK_X9_in wml_X9_116 (C_X9_in (a0 := a2) (a1 := (2 : Int32)) (a2 := (3 : Int32)) (σ := σ)) (by omega) rfl (Nat.le_of_ble_eq_true rfl) rfl rfl rfl <| ?_
    refine x_if_eq (tgt := 28) hC dX9_isThing_20 (by decide) (fun c4 => ?_) (fun c4 => ?_)
    · replace h := (if_pos c4).symm.trans h
      refine x_iload_n hC dX9_isThing_28 rfl (j := 2) rfl <| x_iconst (v := (4 : Int32)) hC dX9_isThing_29 (by decide) <| x_iconst (v := (5 : Int32)) hC dX9_isThing_30 (by decide) <| x_callS hC hR dX9_isThing_31 mK_X9_in wml_X9_116 (C_X9_in (a0 := a2) (a1 := (4 : Int32)) (a2 := (5 : Int32)) (σ := σ)) (by omega) rfl (Nat.le_of_ble_eq_true rfl) rfl rfl rfl <| ?_
      refine x_if_eq (tgt := 45) hC dX9_isThing_34 (by decide) (fun c6 => ?_) (fun c6 => ?_)
      · replace h := (if_pos c6).symm.trans h
        refine x_iconst (v := (0 : Int32)) hC dX9_isThing_45 (by decide) <| ?_
        subst h
        exact x_zret (rest := []) hC hE rfl (by decide) dX9_isThing_46
      · replace h := (if_neg c6).symm.trans h
        refine x_iload_n hC dX9_isThing_37 rfl (j := 1) rfl <| ?_
        refine x_if_ne (tgt := 45) hC dX9_isThing_38 (by decide) (fun c7 => ?_) (fun c7 => ?_)
        · replace h := (if_neg c7).symm.trans h
          refine x_iconst (v := (0 : Int32)) hC dX9_isThing_45 (by decide) <| ?_
          subst h
          exact x_zret (rest := []) hC hE rfl (by decide) dX9_isThing_46
        · replace h := (if_pos c7).symm.trans h
          refine x_iconst (v := (1 : Int32)) hC dX9_isThing_41 (by decide) <| x_goto (tgt := 46) hC dX9_isThing_42 (by decide) <| ?_
          subst h
          exact x_zret (rest := []) hC hE rfl (by decide) dX9_isThing_46
    · replace h := (if_neg c4).symm.trans h
      refine x_iload_n hC dX9_isThing_23 rfl (j := 1) rfl <| x_callS hC hR dX9_isThing_24 mK_X9_isDay wml_X9_145 (C_X9_isDay (a0 := a1) (σ := σ)) (by omega) rfl (Nat.le_of_ble_eq_true rfl) rfl rfl rfl <| ?_
      subst h
      exact x_zret (rest := []) hC hE rfl (rfl) dX9_isThing_27
  · replace h := (if_neg c2).symm.trans h
    refine x_iload_n hC dX9_isThing_9 rfl (j := 1) rfl <| x_callS hC hR dX9_isThing_10 mK_X9_isCell wml_X9_141 (C_X9_isCell (a0 := a1) (σ := σ)) (by omega) rfl (Nat.le_of_ble_eq_true rfl) rfl rfl rfl <| ?_
    subst h
    exact x_zret (rest := []) hC hE rfl (rfl) dX9_isThing_13
set_option maxRecDepth 100000 in
set_option maxHeartbeats 4000000 in
theorem B_X9_judge_90 {G : xG} {l : Launch} {K : xK} {r : Int32} {τ : xS2} (hC : xCX G mM_X9_judge K) (hR : xRd K 5) (hE : xE G K (some (.int r)) (xM τ)) : ∀ (l2 : Int32) (σ : xS2), J_X9_judge_90 l2 σ = some (r, τ) → xV G l mM_X9_judge K 90 [(0, .ref (xad G 43)), (2, .int l2)] [] (xM σ) := by
  intro l2 σ h
  refine x_aload_n hC dX9_judge_90 rfl (j := 0) rfl <| ?_
  obtain ⟨x8, h8, h⟩ := Option.bind_eq_some_iff.mp h
  refine x_callV hC hR dX9_judge_91 mK_X9_unthink wml_X9_296 (C_X9_unthink (σ := σ) h8) (by omega) rfl (by decide) rfl rfl (xlt (by decide)) rfl (Nat.le_of_ble_eq_true rfl) rfl rfl rfl <| ?_
  refine x_iload_n hC dX9_judge_94 rfl (j := 1) rfl <| ?_
  obtain ⟨e1, e2⟩ := xso2 h
  subst e1
  subst e2
  exact x_iret (rest := []) hC hE rfl dX9_judge_95
set_option maxRecDepth 100000 in
set_option maxHeartbeats 4000000 in
theorem B_X9_judge_84 {G : xG} {l : Launch} {K : xK} {r : Int32} {τ : xS2} (hC : xCX G mM_X9_judge K) (hR : xRd K 5) (hE : xE G K (some (.int r)) (xM τ)) {k32 : Int32 → Int32 → Int32 → xS2 → Option (Int32 × xS2)} (hk32 : ∀ (l1 : Int32) (l2 : Int32) (l3 : Int32) (σ : xS2), k32 l1 l2 l3 σ = some (r, τ) → xV G l mM_X9_judge K 32 [(0, .ref (xad G 43)), (1, .int l1), (2, .int l2), (3, .int l3)] [] (xM σ)) : ∀ (l1 : Int32) (l2 : Int32) (l3 : Int32) (σ : xS2), J_X9_judge_84 k32 l1 l2 l3 σ = some (r, τ) → xV G l mM_X9_judge K 84 [(0, .ref (xad G 43)), (1, .int l1), (2, .int l2), (3, .int l3)] [] (xM σ) := by
  intro l1 l2 l3 σ h
  refine x_iinc hC dX9_judge_84 (j := 3) (v := (l3 + (1 : Int32))) rfl rfl (by decide) rfl <| x_goto (tgt := 32) hC dX9_judge_87 (by decide) <| ?_
  refine x_sub [1, 2, 3, 0] rfl ?_
  exact hk32 l1 l2 (l3 + (1 : Int32)) σ h
set_option maxRecDepth 100000 in
set_option maxHeartbeats 4000000 in
theorem B_X9_judge_32 {G : xG} {l : Launch} {K : xK} {r : Int32} {τ : xS2} (hC : xCX G mM_X9_judge K) (hR : xRd K 5) (hE : xE G K (some (.int r)) (xM τ)) : ∀ (f : Nat) (l1 : Int32) (l2 : Int32) (l3 : Int32) (σ : xS2), J_X9_judge_32 f l1 l2 l3 σ = some (r, τ) → xV G l mM_X9_judge K 32 [(0, .ref (xad G 43)), (1, .int l1), (2, .int l2), (3, .int l3)] [] (xM σ) := by
  intro f
  induction f with
  | zero => intro l1 l2 l3 σ h; cases h
  | succ f ih =>
    intro l1 l2 l3 σ h
    refine x_iload_n hC dX9_judge_32 rfl (j := 3) rfl <| x_aload_n hC dX9_judge_33 rfl (j := 0) rfl <| s_getR (q := 71) hC dX9_judge_34 wfl_X9_103 rfl (by decide) (by decide) (by decide) (by decide) (by decide) <| x_iload_n hC dX9_judge_37 rfl (j := 1) rfl <| ?_
    obtain ⟨h6, h⟩ := xgd_some h
    refine s_iald hC dX9_judge_38 rfl (by decide) h6 <| ?_
    refine x_icmp_ge (tgt := 90) hC dX9_judge_39 (by decide) (fun c7 => ?_) (fun c7 => ?_)
    · replace h := (if_pos c7).symm.trans h
      refine x_sub [0, 2] rfl ?_
      exact B_X9_judge_90 hC hR hE l2 σ h
    · replace h := (if_neg c7).symm.trans h
      refine x_aload_n hC dX9_judge_42 rfl (j := 0) rfl <| s_getI hC dX9_judge_43 wfl_X9_166 rfl (by decide) (by decide) (by decide) (by decide) <| x_iload_n hC dX9_judge_46 rfl (j := 3) rfl <| x_iadd hC dX9_judge_47 <| x_bipush (v := (60 : Int32)) hC dX9_judge_48 (by decide) <| ?_
      refine x_icmp_ge (tgt := 90) hC dX9_judge_50 (by decide) (fun c9 => ?_) (fun c9 => ?_)
      · replace h := (if_pos c9).symm.trans h
        refine x_sub [0, 2] rfl ?_
        exact B_X9_judge_90 hC hR hE l2 σ h
      · replace h := (if_neg c9).symm.trans h
        refine x_iload_n hC dX9_judge_53 rfl (j := 2) rfl <| ?_
        refine x_if_ge (tgt := 90) hC dX9_judge_54 (by decide) (fun c10 => ?_) (fun c10 => ?_)
        · replace h := (if_pos c10).symm.trans h
          refine x_sub [0, 2] rfl ?_
          exact B_X9_judge_90 hC hR hE l2 σ h
        · replace h := (if_neg c10).symm.trans h
          refine x_aload_n hC dX9_judge_57 rfl (j := 0) rfl <| x_iconst (v := (0 : Int32)) hC dX9_judge_58 (by decide) <| x_aload_n hC dX9_judge_59 rfl (j := 0) rfl <| s_getI hC dX9_judge_60 wfl_X9_166 rfl (by decide) (by decide) (by decide) (by decide) <| x_iload_n hC dX9_judge_63 rfl (j := 3) rfl <| x_iadd hC dX9_judge_64 <| ?_
          obtain ⟨x11, h11, h⟩ := Option.bind_eq_some_iff.mp h
          refine x_callV hC hR dX9_judge_65 mK_X9_goOwn wml_X9_287 (C_X9_goOwn (a1 := (0 : Int32)) (a2 := ((σ.1 43 7) + l3)) (σ := σ) h11) (by omega) rfl (by decide) rfl rfl (xlt (by decide)) rfl (Nat.le_of_ble_eq_true rfl) rfl rfl rfl <| ?_
          refine x_pop hC dX9_judge_68 rfl <| x_aload_n hC dX9_judge_69 rfl (j := 0) rfl <| x_iload_n hC dX9_judge_70 rfl (j := 1) rfl <| x_iload_n hC dX9_judge_71 rfl (j := 3) rfl <| ?_
          obtain ⟨x12, h12, h⟩ := Option.bind_eq_some_iff.mp h
          refine x_callV hC hR dX9_judge_72 mK_X9_byteAt wml_X9_293 (C_X9_byteAt (a1 := l1) (a2 := l3) (σ := x11.2) h12) (by omega) rfl (by decide) rfl rfl (xlt (by decide)) rfl (Nat.le_of_ble_eq_true rfl) rfl rfl rfl <| ?_
          refine x_aload_n hC dX9_judge_75 rfl (j := 0) rfl <| s_getI hC dX9_judge_76 wfl_X9_29 rfl (by decide) (by decide) (by decide) (by decide) <| ?_
          refine x_icmp_eq (tgt := 84) hC dX9_judge_79 (by decide) (fun c13 => ?_) (fun c13 => ?_)
          · replace h := (if_pos c13).symm.trans h
            refine x_sub [0, 1, 2, 3] rfl ?_
            exact B_X9_judge_84 hC hR hE ih l1 l2 l3 x11.2 h
          · replace h := (if_neg c13).symm.trans h
            refine x_iload_n hC dX9_judge_82 rfl (j := 3) rfl <| x_istore_n hC dX9_judge_83 rfl (by decide) rfl <| ?_
            refine x_sub [1, 2, 0, 3] rfl ?_
            exact B_X9_judge_84 hC hR hE ih l1 l3 l3 x11.2 h
set_option maxRecDepth 100000 in
set_option maxHeartbeats 4000000 in
theorem C_X9_judge {G : xG} {l : Launch} {a1 : Int32} {σ : xS2} {r : Int32} {τ : xS2} (h : J_X9_judge a1 σ = some (r, τ)) : xC G l mM_X9_judge 5 [.ref (xad G 43), .int a1] (xM σ) (some (.int r)) (xM τ) := by
  refine xC_of (by decide) rfl (Nat.le_refl _) (Nat.le_of_ble_eq_true rfl) (fun K hC hE hR _ => ?_)
  refine x_iload_n hC dX9_judge_0 rfl (j := 1) rfl <| x_callS hC hR dX9_judge_1 mK_X9_isShelf wml_X9_179 (C_X9_isShelf (a0 := a1) (σ := σ)) (by omega) rfl (Nat.le_of_ble_eq_true rfl) rfl rfl rfl <| ?_
  refine x_if_ne (tgt := 9) hC dX9_judge_4 (by decide) (fun c2 => ?_) (fun c2 => ?_)
  · replace h := (if_neg c2).symm.trans h
    refine x_aload_n hC dX9_judge_9 rfl (j := 0) rfl <| x_iload_n hC dX9_judge_10 rfl (j := 1) rfl <| ?_
    obtain ⟨x3, h3, h⟩ := Option.bind_eq_some_iff.mp h
    refine x_callV hC hR dX9_judge_11 mK_X9_rowFault wml_X9_299 (C_X9_rowFault (a1 := a1) (σ := σ) h3) (by omega) rfl (by decide) rfl rfl (xlt (by decide)) rfl (Nat.le_of_ble_eq_true rfl) rfl rfl rfl <| ?_
    refine x_if_ge (tgt := 23) hC dX9_judge_14 (by decide) (fun c4 => ?_) (fun c4 => ?_)
    · replace h := (if_pos c4).symm.trans h
      refine x_aload_n hC dX9_judge_23 rfl (j := 0) rfl <| ?_
      obtain ⟨x5, h5, h⟩ := Option.bind_eq_some_iff.mp h
      refine x_callV hC hR dX9_judge_24 mK_X9_think wml_X9_302 (C_X9_think (σ := σ) h5) (by omega) rfl (by decide) rfl rfl (xlt (by decide)) rfl (Nat.le_of_ble_eq_true rfl) rfl rfl rfl <| ?_
      refine x_bipush (v := (-2 : Int32)) hC dX9_judge_27 (by decide) <| x_istore_n hC dX9_judge_29 rfl (by decide) rfl <| x_iconst (v := (0 : Int32)) hC dX9_judge_30 (by decide) <| x_istore_n hC dX9_judge_31 rfl (by decide) rfl <| ?_
      refine x_sub [2, 3, 1, 0] rfl ?_
      exact B_X9_judge_32 hC hR hE xFU a1 (-2 : Int32) (0 : Int32) x5 h
    · replace h := (if_neg c4).symm.trans h
      refine x_aload_n hC dX9_judge_17 rfl (j := 0) rfl <| x_iload_n hC dX9_judge_18 rfl (j := 1) rfl <| ?_
      obtain ⟨x14, h14, h⟩ := Option.bind_eq_some_iff.mp h
      refine x_callV hC hR dX9_judge_19 mK_X9_rowFault wml_X9_299 (C_X9_rowFault (a1 := a1) (σ := σ) h14) (by omega) rfl (by decide) rfl rfl (xlt (by decide)) rfl (Nat.le_of_ble_eq_true rfl) rfl rfl rfl <| ?_
      obtain ⟨e1, e2⟩ := xso2 h
      subst e1
      subst e2
      exact x_iret (rest := []) hC hE rfl dX9_judge_22
  · replace h := (if_pos c2).symm.trans h
    refine x_iconst (v := (-1 : Int32)) hC dX9_judge_7 (by decide) <| ?_
    obtain ⟨e1, e2⟩ := xso2 h
    subst e1
    subst e2
    exact x_iret (rest := []) hC hE rfl dX9_judge_8
set_option maxRecDepth 100000 in
set_option maxHeartbeats 4000000 in
theorem B_X9_keep_22 {G : xG} {l : Launch} {K : xK} {r : Int32} {τ : xS2} (hC : xCX G mM_X9_keep K) (hR : xRd K 2) (hE : xE G K (some (.int r)) (xM τ)) : ∀ (l1 : Int32) (l2 : Int32) (σ : xS2), J_X9_keep_22 l1 l2 σ = some (r, τ) → xV G l mM_X9_keep K 22 [(0, .ref (xad G 43)), (1, .int l1), (2, .int l2)] [] (xM σ) := by
  intro l1 l2 σ h
  refine x_aload_n hC dX9_keep_22 rfl (j := 0) rfl <| s_getR (q := 70) hC dX9_keep_23 wfl_X9_100 rfl (by decide) (by decide) (by decide) (by decide) (by decide) <| x_iload_n hC dX9_keep_26 rfl (j := 1) rfl <| x_iload_n hC dX9_keep_27 rfl (j := 2) rfl <| ?_
  obtain ⟨h4, h⟩ := xgd_some h
  refine s_iast hC dX9_keep_28 rfl (by decide) h4 <| ?_
  refine x_iconst (v := (1 : Int32)) hC dX9_keep_29 (by decide) <| ?_
  obtain ⟨e1, e2⟩ := xso2 h
  subst e1
  subst e2
  exact x_iret (rest := []) hC hE rfl dX9_keep_30
set_option maxRecDepth 100000 in
set_option maxHeartbeats 4000000 in
theorem C_X9_keep {G : xG} {l : Launch} {a1 : Int32} {a2 : Int32} {σ : xS2} {r : Int32} {τ : xS2} (h : J_X9_keep a1 a2 σ = some (r, τ)) : xC G l mM_X9_keep 2 [.ref (xad G 43), .int a1, .int a2] (xM σ) (some (.int r)) (xM τ) := by
  refine xC_of (by decide) rfl (Nat.le_refl _) (Nat.le_of_ble_eq_true rfl) (fun K hC hE hR _ => ?_)
  refine x_iload_n hC dX9_keep_0 rfl (j := 1) rfl <| x_callS hC hR dX9_keep_1 mK_X9_isShelf wml_X9_179 (C_X9_isShelf (a0 := a1) (σ := σ)) (by omega) rfl (Nat.le_of_ble_eq_true rfl) rfl rfl rfl <| ?_
  refine x_if_eq (tgt := 20) hC dX9_keep_4 (by decide) (fun c2 => ?_) (fun c2 => ?_)
  · replace h := (if_pos c2).symm.trans h
    refine x_iconst (v := (-1 : Int32)) hC dX9_keep_20 (by decide) <| ?_
    obtain ⟨e1, e2⟩ := xso2 h
    subst e1
    subst e2
    exact x_iret (rest := []) hC hE rfl dX9_keep_21
  · replace h := (if_neg c2).symm.trans h
    refine x_iload_n hC dX9_keep_7 rfl (j := 2) rfl <| x_iconst (v := (-1 : Int32)) hC dX9_keep_8 (by decide) <| ?_
    refine x_icmp_eq (tgt := 22) hC dX9_keep_9 (by decide) (fun c3 => ?_) (fun c3 => ?_)
    · replace h := (if_pos c3).symm.trans h
      refine x_sub [0, 1, 2] rfl ?_
      exact B_X9_keep_22 hC hR hE a1 a2 σ h
    · replace h := (if_neg c3).symm.trans h
      refine x_aload_n hC dX9_keep_12 rfl (j := 0) rfl <| x_iload_n hC dX9_keep_13 rfl (j := 2) rfl <| x_callV hC hR dX9_keep_14 mK_X9_isBody wml_X9_415 (C_X9_isBody (a1 := a2) (σ := σ)) (by omega) rfl (by decide) rfl rfl (xlt (by decide)) rfl (Nat.le_of_ble_eq_true rfl) rfl rfl rfl <| ?_
      refine x_if_ne (tgt := 22) hC dX9_keep_17 (by decide) (fun c6 => ?_) (fun c6 => ?_)
      · replace h := (if_neg c6).symm.trans h
        refine x_sub [0, 1, 2] rfl ?_
        exact B_X9_keep_22 hC hR hE a1 a2 σ h
      · replace h := (if_pos c6).symm.trans h
        refine x_iconst (v := (-1 : Int32)) hC dX9_keep_20 (by decide) <| ?_
        obtain ⟨e1, e2⟩ := xso2 h
        subst e1
        subst e2
        exact x_iret (rest := []) hC hE rfl dX9_keep_21
set_option maxRecDepth 100000 in
set_option maxHeartbeats 4000000 in
theorem B_X9_lasts_84 {G : xG} {l : Launch} {K : xK} {r : Int32} {τ : xS2} (hC : xCX G mM_X9_lasts K) (hR : xRd K 4) (hE : xE G K (some (.int r)) (xM τ)) : ∀ (l2 : Int32) (σ : xS2), J_X9_lasts_84 l2 σ = some (r, τ) → xV G l mM_X9_lasts K 84 [(0, .ref (xad G 43)), (2, .int l2)] [] (xM σ) := by
  intro l2 σ h
  refine x_aload_n hC dX9_lasts_84 rfl (j := 0) rfl <| ?_
  obtain ⟨x5, h5, h⟩ := Option.bind_eq_some_iff.mp h
  refine x_callV hC hR dX9_lasts_85 mK_X9_unthink wml_X9_296 (C_X9_unthink (σ := σ) h5) (by omega) rfl (by decide) rfl rfl (xlt (by decide)) rfl (Nat.le_of_ble_eq_true rfl) rfl rfl rfl <| ?_
  refine x_iload_n hC dX9_lasts_88 rfl (j := 1) rfl <| ?_
  obtain ⟨e1, e2⟩ := xso2 h
  subst e1
  subst e2
  exact x_iret (rest := []) hC hE rfl dX9_lasts_89
set_option maxRecDepth 100000 in
set_option maxHeartbeats 4000000 in
theorem B_X9_lasts_78 {G : xG} {l : Launch} {K : xK} {r : Int32} {τ : xS2} (hC : xCX G mM_X9_lasts K) (hR : xRd K 4) (hE : xE G K (some (.int r)) (xM τ)) {k24 : Int32 → Int32 → Int32 → xS2 → Option (Int32 × xS2)} (hk24 : ∀ (l1 : Int32) (l2 : Int32) (l3 : Int32) (σ : xS2), k24 l1 l2 l3 σ = some (r, τ) → xV G l mM_X9_lasts K 24 [(0, .ref (xad G 43)), (1, .int l1), (2, .int l2), (3, .int l3)] [] (xM σ)) : ∀ (l1 : Int32) (l2 : Int32) (l3 : Int32) (σ : xS2), J_X9_lasts_78 k24 l1 l2 l3 σ = some (r, τ) → xV G l mM_X9_lasts K 78 [(0, .ref (xad G 43)), (1, .int l1), (2, .int l2), (3, .int l3)] [] (xM σ) := by
  intro l1 l2 l3 σ h
  refine x_iinc hC dX9_lasts_78 (j := 3) (v := (l3 + (1 : Int32))) rfl rfl (by decide) rfl <| x_goto (tgt := 24) hC dX9_lasts_81 (by decide) <| ?_
  refine x_sub [1, 2, 3, 0] rfl ?_
  exact hk24 l1 l2 (l3 + (1 : Int32)) σ h
set_option maxRecDepth 100000 in
set_option maxHeartbeats 4000000 in
theorem B_X9_lasts_59 {G : xG} {l : Launch} {K : xK} {r : Int32} {τ : xS2} (hC : xCX G mM_X9_lasts K) (hR : xRd K 4) (hE : xE G K (some (.int r)) (xM τ)) {k24 : Int32 → Int32 → Int32 → xS2 → Option (Int32 × xS2)} (hk24 : ∀ (l1 : Int32) (l2 : Int32) (l3 : Int32) (σ : xS2), k24 l1 l2 l3 σ = some (r, τ) → xV G l mM_X9_lasts K 24 [(0, .ref (xad G 43)), (1, .int l1), (2, .int l2), (3, .int l3)] [] (xM σ)) : ∀ (l1 : Int32) (l2 : Int32) (l3 : Int32) (s1 : Bool) (s2 : Int32) (s3 : Int32) (σ : xS2), J_X9_lasts_59 k24 l1 l2 l3 s1 s2 s3 σ = some (r, τ) → xV G l mM_X9_lasts K 59 [(0, .ref (xad G 43)), (1, .int l1), (2, .int l2), (3, .int l3)] [.int s3, .int s2, .int (xb s1), .ref (xad G 43)] (xM σ) := by
  intro l1 l2 l3 s1 s2 s3 σ h
  refine x_aload_n hC dX9_lasts_59 rfl (j := 0) rfl <| s_getR (q := 47) hC dX9_lasts_60 wfl_X9_19 rfl (by decide) (by decide) (by decide) (by decide) (by decide) <| x_iload_n hC dX9_lasts_63 rfl (j := 3) rfl <| ?_
  obtain ⟨h9, h⟩ := xgd_some h
  refine s_iald hC dX9_lasts_64 rfl (by decide) h9 <| ?_
  obtain ⟨x10, h10, h⟩ := Option.bind_eq_some_iff.mp h
  refine x_callV hC hR dX9_lasts_65 mK_X9_goDay wml_X9_283 (C_X9_goDay (a1 := (xb s1)) (a2 := s2) (a3 := s3) (a4 := (σ.1 47 l3.toNatClampNeg)) (σ := σ) h10) (by omega) rfl (by decide) rfl rfl (xlt (by decide)) rfl (Nat.le_of_ble_eq_true rfl) rfl rfl rfl <| ?_
  refine x_pop hC dX9_lasts_68 rfl <| x_aload_n hC dX9_lasts_69 rfl (j := 0) rfl <| s_getI hC dX9_lasts_70 wfl_X9_29 rfl (by decide) (by decide) (by decide) (by decide) <| ?_
  refine x_if_ne (tgt := 78) hC dX9_lasts_73 (by decide) (fun c11 => ?_) (fun c11 => ?_)
  · replace h := (if_neg c11).symm.trans h
    refine x_sub [0, 1, 2, 3] rfl ?_
    exact B_X9_lasts_78 hC hR hE hk24 l1 l2 l3 x10.2 h
  · replace h := (if_pos c11).symm.trans h
    refine x_iload_n hC dX9_lasts_76 rfl (j := 3) rfl <| x_istore_n hC dX9_lasts_77 rfl (by decide) rfl <| ?_
    refine x_sub [1, 2, 0, 3] rfl ?_
    exact B_X9_lasts_78 hC hR hE hk24 l1 l3 l3 x10.2 h
set_option maxRecDepth 100000 in
set_option maxHeartbeats 4000000 in
theorem B_X9_lasts_24 {G : xG} {l : Launch} {K : xK} {r : Int32} {τ : xS2} (hC : xCX G mM_X9_lasts K) (hR : xRd K 4) (hE : xE G K (some (.int r)) (xM τ)) : ∀ (f : Nat) (l1 : Int32) (l2 : Int32) (l3 : Int32) (σ : xS2), J_X9_lasts_24 f l1 l2 l3 σ = some (r, τ) → xV G l mM_X9_lasts K 24 [(0, .ref (xad G 43)), (1, .int l1), (2, .int l2), (3, .int l3)] [] (xM σ) := by
  intro f
  induction f with
  | zero => intro l1 l2 l3 σ h; cases h
  | succ f ih =>
    intro l1 l2 l3 σ h
    refine x_iload_n hC dX9_lasts_24 rfl (j := 3) rfl <| x_bipush (v := (60 : Int32)) hC dX9_lasts_25 (by decide) <| ?_
    refine x_icmp_ge (tgt := 84) hC dX9_lasts_27 (by decide) (fun c4 => ?_) (fun c4 => ?_)
    · replace h := (if_pos c4).symm.trans h
      refine x_sub [0, 2] rfl ?_
      exact B_X9_lasts_84 hC hR hE l2 σ h
    · replace h := (if_neg c4).symm.trans h
      refine x_iload_n hC dX9_lasts_30 rfl (j := 2) rfl <| ?_
      refine x_if_ge (tgt := 84) hC dX9_lasts_31 (by decide) (fun c6 => ?_) (fun c6 => ?_)
      · replace h := (if_pos c6).symm.trans h
        refine x_sub [0, 2] rfl ?_
        exact B_X9_lasts_84 hC hR hE l2 σ h
      · replace h := (if_neg c6).symm.trans h
        refine x_aload_n hC dX9_lasts_34 rfl (j := 0) rfl <| x_iconst (v := (0 : Int32)) hC dX9_lasts_35 (by decide) <| x_iload_n hC dX9_lasts_36 rfl (j := 3) rfl <| x_aload_n hC dX9_lasts_37 rfl (j := 0) rfl <| s_getR (q := 46) hC dX9_lasts_38 wfl_X9_16 rfl (by decide) (by decide) (by decide) (by decide) (by decide) <| x_iload_n hC dX9_lasts_41 rfl (j := 3) rfl <| ?_
        obtain ⟨h7, h⟩ := xgd_some h
        refine s_iald hC dX9_lasts_42 rfl (by decide) h7 <| ?_
        refine x_iload_n hC dX9_lasts_43 rfl (j := 1) rfl <| ?_
        refine x_icmp_le (tgt := 58) hC dX9_lasts_44 (by decide) (fun c8 => ?_) (fun c8 => ?_)
        · replace h := (if_pos c8).symm.trans h
          refine x_iconst (v := (0 : Int32)) hC dX9_lasts_58 (by decide) <| ?_
          refine x_sub [0, 1, 2, 3] rfl ?_
          exact B_X9_lasts_59 hC hR hE ih l1 l2 l3 false l3 (0 : Int32) σ h
        · replace h := (if_neg c8).symm.trans h
          refine x_aload_n hC dX9_lasts_47 rfl (j := 0) rfl <| s_getR (q := 46) hC dX9_lasts_48 wfl_X9_16 rfl (by decide) (by decide) (by decide) (by decide) (by decide) <| x_iload_n hC dX9_lasts_51 rfl (j := 3) rfl <| ?_
          obtain ⟨h12, h⟩ := xgd_some h
          refine s_iald hC dX9_lasts_52 rfl (by decide) h12 <| ?_
          refine x_iload_n hC dX9_lasts_53 rfl (j := 1) rfl <| x_isub hC dX9_lasts_54 <| x_goto (tgt := 59) hC dX9_lasts_55 (by decide) <| ?_
          refine x_sub [0, 1, 2, 3] rfl ?_
          exact B_X9_lasts_59 hC hR hE ih l1 l2 l3 false l3 ((σ.1 46 l3.toNatClampNeg) - l1) σ h
set_option maxRecDepth 100000 in
set_option maxHeartbeats 4000000 in
theorem C_X9_lasts {G : xG} {l : Launch} {a1 : Int32} {σ : xS2} {r : Int32} {τ : xS2} (h : J_X9_lasts a1 σ = some (r, τ)) : xC G l mM_X9_lasts 4 [.ref (xad G 43), .int a1] (xM σ) (some (.int r)) (xM τ) := by
  refine xC_of (by decide) rfl (Nat.le_refl _) (Nat.le_of_ble_eq_true rfl) (fun K hC hE hR _ => ?_)
  refine x_iload_n hC dX9_lasts_0 rfl (j := 1) rfl <| x_iconst (v := (0 : Int32)) hC dX9_lasts_1 (by decide) <| x_bipush (v := (20 : Int32)) hC dX9_lasts_2 (by decide) <| x_callS hC hR dX9_lasts_4 mK_X9_in wml_X9_116 (C_X9_in (a0 := a1) (a1 := (0 : Int32)) (a2 := (20 : Int32)) (σ := σ)) (by omega) rfl (Nat.le_of_ble_eq_true rfl) rfl rfl rfl <| ?_
  refine x_if_ne (tgt := 12) hC dX9_lasts_7 (by decide) (fun c2 => ?_) (fun c2 => ?_)
  · replace h := (if_neg c2).symm.trans h
    refine x_aload_n hC dX9_lasts_12 rfl (j := 0) rfl <| ?_
    obtain ⟨x3, h3, h⟩ := Option.bind_eq_some_iff.mp h
    refine x_callV hC hR dX9_lasts_13 mK_X9_think wml_X9_302 (C_X9_think (σ := σ) h3) (by omega) rfl (by decide) rfl rfl (xlt (by decide)) rfl (Nat.le_of_ble_eq_true rfl) rfl rfl rfl <| ?_
    refine x_bipush (v := (-2 : Int32)) hC dX9_lasts_16 (by decide) <| x_istore_n hC dX9_lasts_18 rfl (by decide) rfl <| x_aload_n hC dX9_lasts_19 rfl (j := 1) rfl <| s_getI hC dX9_lasts_20 wfl_X9_166 rfl (by decide) (by decide) (by decide) (by decide) <| x_istore_n hC dX9_lasts_23 rfl (by decide) rfl <| ?_
    refine x_sub [2, 3, 1, 0] rfl ?_
    exact B_X9_lasts_24 hC hR hE xFU a1 (-2 : Int32) (x3.1 43 7) x3 h
  · replace h := (if_pos c2).symm.trans h
    refine x_iconst (v := (-1 : Int32)) hC dX9_lasts_10 (by decide) <| ?_
    obtain ⟨e1, e2⟩ := xso2 h
    subst e1
    subst e2
    exact x_iret (rest := []) hC hE rfl dX9_lasts_11
set_option maxRecDepth 100000 in
set_option maxHeartbeats 4000000 in
theorem B_X9_oneLine_66 {G : xG} {l : Launch} {K : xK} {τ : xS2} (hC : xCX G mM_X9_oneLine K) (hR : xRd K 103) (hE : xE G K none (xM τ)) : ∀ (l1 : Int32) (σ : xS2), J_X9_oneLine_66 l1 σ = some τ → xV G l mM_X9_oneLine K 66 [(0, .ref (xad G 43)), (1, .int l1)] [] (xM σ) := by
  intro l1 σ h
  refine x_aload_n hC dX9_oneLine_66 rfl (j := 0) rfl <| s_getR (q := 59) hC dX9_oneLine_67 wfl_X9_67 rfl (by decide) (by decide) (by decide) (by decide) (by decide) <| x_iload_n hC dX9_oneLine_70 rfl (j := 1) rfl <| x_aload_n hC dX9_oneLine_71 rfl (j := 0) rfl <| s_getI hC dX9_oneLine_72 wfl_X9_191 rfl (by decide) (by decide) (by decide) (by decide) <| x_i2s (v := ((σ.1 43 25).toInt16.toInt32)) hC dX9_oneLine_75 rfl <| ?_
  obtain ⟨h5, h⟩ := xgd_some h
  refine s_sast hC dX9_oneLine_76 rfl (by decide) h5 <| ?_
  refine x_aload_n hC dX9_oneLine_77 rfl (j := 0) rfl <| s_getR (q := 57) hC dX9_oneLine_78 wfl_X9_60 rfl (by decide) (by decide) (by decide) (by decide) (by decide) <| x_iconst (v := (1 : Int32)) hC dX9_oneLine_81 (by decide) <| x_dup2_11 hC dX9_oneLine_82 rfl rfl <| s_iald hC dX9_oneLine_83 rfl (by decide) (by decide) <| ?_
  show xV _ _ _ _ _ _ (.int (σ.1 57 1) :: _) _
  refine x_iconst (v := (1 : Int32)) hC dX9_oneLine_84 (by decide) <| x_iadd hC dX9_oneLine_85 <| s_iast hC dX9_oneLine_86 rfl (by decide) (by decide) <| ?_
  show xV _ _ _ _ _ _ _ (xM (yI (yI σ 59 l1.toNatClampNeg (vp_nar .short ((σ.1 43 25).toInt16.toInt32))) 57 1 ((σ.1 57 1) + (1 : Int32))))
  have e1 := Option.some.inj h
  subst e1
  exact x_vret (rest := []) hC hE rfl dX9_oneLine_87
set_option maxRecDepth 100000 in
set_option maxHeartbeats 4000000 in
theorem C_X9_oneLine {G : xG} {l : Launch} {σ : xS2} {τ : xS2} (h : J_X9_oneLine σ = some τ) : xC G l mM_X9_oneLine 103 [.ref (xad G 43)] (xM σ) none (xM τ) := by
  refine xC_of (by decide) rfl (Nat.le_refl _) (Nat.le_of_ble_eq_true rfl) (fun K hC hE hR _ => ?_)
  refine x_bipush (v := (61 : Int32)) hC dX9_oneLine_0 (by decide) <| x_aload_n hC dX9_oneLine_2 rfl (j := 0) rfl <| s_getR (q := 57) hC dX9_oneLine_3 wfl_X9_60 rfl (by decide) (by decide) (by decide) (by decide) (by decide) <| x_iconst (v := (1 : Int32)) hC dX9_oneLine_6 (by decide) <| s_iald hC dX9_oneLine_7 rfl (by decide) (by decide) <| ?_
  show xV _ _ _ _ _ _ (.int (σ.1 57 1) :: _) _
  refine x_iadd hC dX9_oneLine_8 <| x_istore_n hC dX9_oneLine_9 rfl (by decide) rfl <| x_aload_n hC dX9_oneLine_10 rfl (j := 1) rfl <| s_getR (q := 58) hC dX9_oneLine_11 wfl_X9_63 rfl (by decide) (by decide) (by decide) (by decide) (by decide) <| x_iload_n hC dX9_oneLine_14 rfl (j := 0) rfl <| x_aload_n hC dX9_oneLine_15 rfl (j := 1) rfl <| ?_
  refine s_getI hC dX9_oneLine_16 wfl_X9_191 rfl (by decide) (by decide) (by decide) (by decide) <| x_i2s (v := ((σ.1 43 25).toInt16.toInt32)) hC dX9_oneLine_19 rfl <| ?_
  obtain ⟨h2, h⟩ := xgd_some h
  refine s_sast hC dX9_oneLine_20 rfl (by decide) h2 <| ?_
  refine x_aload_n hC dX9_oneLine_21 rfl (j := 1) rfl <| ?_
  obtain ⟨x3, h3, h⟩ := Option.bind_eq_some_iff.mp h
  refine x_callV hC hR dX9_oneLine_22 mK_X9_either wml_X9_218 (C_X9_either (σ := (yI σ 58 ((61 : Int32) + (σ.1 57 1)).toNatClampNeg (vp_nar .short ((σ.1 43 25).toInt16.toInt32)))) h3) (by omega) rfl (by decide) rfl rfl (xlt (by decide)) rfl (Nat.le_of_ble_eq_true rfl) rfl rfl rfl <| ?_
  refine x_aload_n hC dX9_oneLine_25 rfl (j := 1) rfl <| s_getI hC dX9_oneLine_26 wfl_X9_188 rfl (by decide) (by decide) (by decide) (by decide) <| ?_
  refine x_if_ge (tgt := 66) hC dX9_oneLine_29 (by decide) (fun c4 => ?_) (fun c4 => ?_)
  · replace h := (if_pos c4).symm.trans h
    refine x_sub [1, 0] rfl ?_
    exact B_X9_oneLine_66 hC hR hE ((61 : Int32) + (σ.1 57 1)) x3 h
  · replace h := (if_neg c4).symm.trans h
    refine x_aload_n hC dX9_oneLine_32 rfl (j := 1) rfl <| ?_
    obtain ⟨x8, h8, h⟩ := Option.bind_eq_some_iff.mp h
    refine x_callV hC hR dX9_oneLine_33 mK_X9_look wml_X9_200 (C_X9_look (σ := x3) h8) (by omega) rfl (by decide) rfl rfl (xlt (by decide)) rfl (Nat.le_of_ble_eq_true rfl) rfl rfl rfl <| ?_
    refine x_bipush (v := (63 : Int32)) hC dX9_oneLine_36 (by decide) <| ?_
    refine x_icmp_ne (tgt := 66) hC dX9_oneLine_38 (by decide) (fun c9 => ?_) (fun c9 => ?_)
    · replace h := (if_neg c9).symm.trans h
      refine x_sub [1, 0] rfl ?_
      exact B_X9_oneLine_66 hC hR hE ((61 : Int32) + (σ.1 57 1)) x3 h
    · replace h := (if_pos c9).symm.trans h
      refine x_aload_n hC dX9_oneLine_41 rfl (j := 1) rfl <| x_dup hC dX9_oneLine_42 rfl <| s_getI hC dX9_oneLine_43 wfl_X9_185 rfl (by decide) (by decide) (by decide) (by decide) <| x_iconst (v := (1 : Int32)) hC dX9_oneLine_46 (by decide) <| x_iadd hC dX9_oneLine_47 <| s_putI hC dX9_oneLine_48 wfl_X9_185 rfl (by decide) (by decide) (by decide) (by decide) (by decide) <| ?_
      refine x_aload_n hC dX9_oneLine_51 rfl (j := 1) rfl <| s_getR (q := 58) hC dX9_oneLine_52 wfl_X9_63 rfl (by decide) (by decide) (by decide) (by decide) (by decide) <| x_iload_n hC dX9_oneLine_55 rfl (j := 0) rfl <| x_aload_n hC dX9_oneLine_56 rfl (j := 1) rfl <| s_getI hC dX9_oneLine_57 wfl_X9_191 rfl (by decide) (by decide) (by decide) (by decide) <| x_i2s (v := ((x3.1 43 25).toInt16.toInt32)) hC dX9_oneLine_60 rfl <| ?_
      obtain ⟨h10, h⟩ := xgd_some h
      refine s_sast hC dX9_oneLine_61 rfl (by decide) h10 <| ?_
      refine x_aload_n hC dX9_oneLine_62 rfl (j := 1) rfl <| ?_
      obtain ⟨x11, h11, h⟩ := Option.bind_eq_some_iff.mp h
      refine x_callV hC hR dX9_oneLine_63 mK_X9_either wml_X9_218 (C_X9_either (σ := (yI (yI x3 43 22 ((x3.1 43 22) + (1 : Int32))) 58 ((61 : Int32) + (σ.1 57 1)).toNatClampNeg (vp_nar .short ((x3.1 43 25).toInt16.toInt32)))) h11) (by omega) rfl (by decide) rfl rfl (xlt (by decide)) rfl (Nat.le_of_ble_eq_true rfl) rfl rfl rfl <| ?_
      refine x_sub [1, 0] rfl ?_
      exact B_X9_oneLine_66 hC hR hE ((61 : Int32) + (σ.1 57 1)) x11 h
set_option maxRecDepth 100000 in
set_option maxHeartbeats 4000000 in
theorem B_X9_readText_177 {G : xG} {l : Launch} {K : xK} {r : Int32} {τ : xS2} (hC : xCX G mM_X9_readText K) (hR : xRd K 104) (hE : xE G K (some (.int r)) (xM τ)) : ∀ (f : Nat) (l1 : Int32) (l2 : Int32) (σ : xS2), J_X9_readText_177 f l1 l2 σ = some (r, τ) → xV G l mM_X9_readText K 177 [(0, .ref (xad G 43)), (1, .int l1), (2, .int l2)] [] (xM σ) := by
  intro f
  induction f with
  | zero => intro l1 l2 σ h; cases h
  | succ f ih =>
    intro l1 l2 σ h
    refine x_iload_n hC dX9_readText_177 rfl (j := 2) rfl <| x_aload_n hC dX9_readText_178 rfl (j := 0) rfl <| s_getR (q := 57) hC dX9_readText_179 wfl_X9_60 rfl (by decide) (by decide) (by decide) (by decide) (by decide) <| x_iload_n hC dX9_readText_182 rfl (j := 1) rfl <| ?_
    obtain ⟨h9, h⟩ := xgd_some h
    refine s_iald hC dX9_readText_183 rfl (by decide) h9 <| ?_
    refine x_icmp_ge (tgt := 233) hC dX9_readText_184 (by decide) (fun c10 => ?_) (fun c10 => ?_)
    · replace h := (if_pos c10).symm.trans h
      refine x_iconst (v := (-1 : Int32)) hC dX9_readText_233 (by decide) <| ?_
      obtain ⟨e1, e2⟩ := xso2 h
      subst e1
      subst e2
      exact x_iret (rest := []) hC hE rfl dX9_readText_234
    · replace h := (if_neg c10).symm.trans h
      refine x_aload_n hC dX9_readText_187 rfl (j := 0) rfl <| s_getR (q := 58) hC dX9_readText_188 wfl_X9_63 rfl (by decide) (by decide) (by decide) (by decide) (by decide) <| x_bipush (v := (61 : Int32)) hC dX9_readText_191 (by decide) <| x_iload_n hC dX9_readText_193 rfl (j := 1) rfl <| x_imul hC dX9_readText_194 <| x_iload_n hC dX9_readText_195 rfl (j := 2) rfl <| ?_
      refine x_iadd hC dX9_readText_196 <| x_aload_n hC dX9_readText_197 rfl (j := 0) rfl <| s_getR (q := 58) hC dX9_readText_198 wfl_X9_63 rfl (by decide) (by decide) (by decide) (by decide) (by decide) <| x_bipush (v := (61 : Int32)) hC dX9_readText_201 (by decide) <| x_iload_n hC dX9_readText_203 rfl (j := 2) rfl <| x_iadd hC dX9_readText_204 <| ?_
      obtain ⟨h11, h⟩ := xgd_some h
      refine s_sald hC dX9_readText_205 rfl (by decide) h11 <| ?_
      obtain ⟨h12, h⟩ := xgd_some h
      refine s_sast hC dX9_readText_206 rfl (by decide) h12 <| ?_
      refine x_aload_n hC dX9_readText_207 rfl (j := 0) rfl <| s_getR (q := 59) hC dX9_readText_208 wfl_X9_67 rfl (by decide) (by decide) (by decide) (by decide) (by decide) <| x_bipush (v := (61 : Int32)) hC dX9_readText_211 (by decide) <| x_iload_n hC dX9_readText_213 rfl (j := 1) rfl <| x_imul hC dX9_readText_214 <| x_iload_n hC dX9_readText_215 rfl (j := 2) rfl <| ?_
      refine x_iadd hC dX9_readText_216 <| x_aload_n hC dX9_readText_217 rfl (j := 0) rfl <| s_getR (q := 59) hC dX9_readText_218 wfl_X9_67 rfl (by decide) (by decide) (by decide) (by decide) (by decide) <| x_bipush (v := (61 : Int32)) hC dX9_readText_221 (by decide) <| x_iload_n hC dX9_readText_223 rfl (j := 2) rfl <| x_iadd hC dX9_readText_224 <| ?_
      obtain ⟨h13, h⟩ := xgd_some h
      refine s_sald hC dX9_readText_225 rfl (by decide) h13 <| ?_
      obtain ⟨h14, h⟩ := xgd_some h
      refine s_sast hC dX9_readText_226 rfl (by decide) h14 <| ?_
      refine x_iinc hC dX9_readText_227 (j := 2) (v := (l2 + (1 : Int32))) rfl rfl (by decide) rfl <| x_goto (tgt := 177) hC dX9_readText_230 (by decide) <| ?_
      refine x_sub [1, 2, 0] rfl ?_
      exact ih l1 (l2 + (1 : Int32)) (yI (yI σ 58 (((61 : Int32) * l1) + l2).toNatClampNeg (vp_nar .short (σ.1 58 ((61 : Int32) + l2).toNatClampNeg))) 59 (((61 : Int32) * l1) + l2).toNatClampNeg (vp_nar .short (σ.1 59 ((61 : Int32) + l2).toNatClampNeg))) h
set_option maxRecDepth 100000 in
set_option maxHeartbeats 4000000 in
theorem B_X9_readText_105 {G : xG} {l : Launch} {K : xK} {r : Int32} {τ : xS2} (hC : xCX G mM_X9_readText K) (hR : xRd K 104) (hE : xE G K (some (.int r)) (xM τ)) : ∀ (f : Nat) (l1 : Int32) (l2 : Int32) (σ : xS2), J_X9_readText_105 f l1 l2 σ = some (r, τ) → xV G l mM_X9_readText K 105 [(0, .ref (xad G 43)), (1, .int l1), (2, .int l2)] [] (xM σ) := by
  intro f
  induction f with
  | zero => intro l1 l2 σ h; cases h
  | succ f ih =>
    intro l1 l2 σ h
    refine x_iload_n hC dX9_readText_105 rfl (j := 2) rfl <| x_aload_n hC dX9_readText_106 rfl (j := 0) rfl <| s_getI hC dX9_readText_107 wfl_X9_191 rfl (by decide) (by decide) (by decide) (by decide) <| ?_
    refine x_icmp_ge (tgt := 163) hC dX9_readText_110 (by decide) (fun c6 => ?_) (fun c6 => ?_)
    · replace h := (if_pos c6).symm.trans h
      refine x_aload_n hC dX9_readText_163 rfl (j := 0) rfl <| s_getR (q := 57) hC dX9_readText_164 wfl_X9_60 rfl (by decide) (by decide) (by decide) (by decide) (by decide) <| x_iload_n hC dX9_readText_167 rfl (j := 1) rfl <| x_aload_n hC dX9_readText_168 rfl (j := 0) rfl <| s_getR (q := 57) hC dX9_readText_169 wfl_X9_60 rfl (by decide) (by decide) (by decide) (by decide) (by decide) <| x_iconst (v := (1 : Int32)) hC dX9_readText_172 (by decide) <| ?_
      refine s_iald hC dX9_readText_173 rfl (by decide) (by decide) <| ?_
      show xV _ _ _ _ _ _ (.int (σ.1 57 1) :: _) _
      obtain ⟨h8, h⟩ := xgd_some h
      refine s_iast hC dX9_readText_174 rfl (by decide) h8 <| ?_
      refine x_iconst (v := (0 : Int32)) hC dX9_readText_175 (by decide) <| x_istore_n hC dX9_readText_176 rfl (by decide) rfl <| ?_
      refine x_sub [1, 2, 0] rfl ?_
      exact B_X9_readText_177 hC hR hE xFU l1 (0 : Int32) (yI σ 57 l1.toNatClampNeg (σ.1 57 1)) h
    · replace h := (if_neg c6).symm.trans h
      refine x_aload_n hC dX9_readText_113 rfl (j := 0) rfl <| s_getR (q := 55) hC dX9_readText_114 wfl_X9_54 rfl (by decide) (by decide) (by decide) (by decide) (by decide) <| x_sipush (v := (130 : Int32)) hC dX9_readText_117 (by decide) <| x_iload_n hC dX9_readText_120 rfl (j := 1) rfl <| x_imul hC dX9_readText_121 <| x_iload_n hC dX9_readText_122 rfl (j := 2) rfl <| ?_
      refine x_iadd hC dX9_readText_123 <| x_aload_n hC dX9_readText_124 rfl (j := 0) rfl <| s_getR (q := 55) hC dX9_readText_125 wfl_X9_54 rfl (by decide) (by decide) (by decide) (by decide) (by decide) <| x_sipush (v := (130 : Int32)) hC dX9_readText_128 (by decide) <| x_iload_n hC dX9_readText_131 rfl (j := 2) rfl <| x_iadd hC dX9_readText_132 <| ?_
      obtain ⟨h15, h⟩ := xgd_some h
      refine s_bald hC dX9_readText_133 rfl (by decide) h15 <| ?_
      obtain ⟨h16, h⟩ := xgd_some h
      refine s_bast hC dX9_readText_134 rfl (by decide) h16 <| ?_
      refine x_aload_n hC dX9_readText_135 rfl (j := 0) rfl <| s_getR (q := 56) hC dX9_readText_136 wfl_X9_57 rfl (by decide) (by decide) (by decide) (by decide) (by decide) <| x_sipush (v := (130 : Int32)) hC dX9_readText_139 (by decide) <| x_iload_n hC dX9_readText_142 rfl (j := 1) rfl <| x_imul hC dX9_readText_143 <| x_iload_n hC dX9_readText_144 rfl (j := 2) rfl <| ?_
      refine x_iadd hC dX9_readText_145 <| x_aload_n hC dX9_readText_146 rfl (j := 0) rfl <| s_getR (q := 56) hC dX9_readText_147 wfl_X9_57 rfl (by decide) (by decide) (by decide) (by decide) (by decide) <| x_sipush (v := (130 : Int32)) hC dX9_readText_150 (by decide) <| x_iload_n hC dX9_readText_153 rfl (j := 2) rfl <| x_iadd hC dX9_readText_154 <| ?_
      obtain ⟨h17, h⟩ := xgd_some h
      refine s_iald hC dX9_readText_155 rfl (by decide) h17 <| ?_
      obtain ⟨h18, h⟩ := xgd_some h
      refine s_iast hC dX9_readText_156 rfl (by decide) h18 <| ?_
      refine x_iinc hC dX9_readText_157 (j := 2) (v := (l2 + (1 : Int32))) rfl rfl (by decide) rfl <| x_goto (tgt := 105) hC dX9_readText_160 (by decide) <| ?_
      refine x_sub [1, 2, 0] rfl ?_
      exact ih l1 (l2 + (1 : Int32)) (yI (yI σ 55 (((130 : Int32) * l1) + l2).toNatClampNeg (vp_nar .byte (σ.1 55 ((130 : Int32) + l2).toNatClampNeg))) 56 (((130 : Int32) * l1) + l2).toNatClampNeg (σ.1 56 ((130 : Int32) + l2).toNatClampNeg)) h
set_option maxRecDepth 100000 in
set_option maxHeartbeats 4000000 in
theorem B_X9_readText_86 {G : xG} {l : Launch} {K : xK} {r : Int32} {τ : xS2} (hC : xCX G mM_X9_readText K) (hR : xRd K 104) (hE : xE G K (some (.int r)) (xM τ)) : ∀ (l1 : Int32) (σ : xS2), J_X9_readText_86 l1 σ = some (r, τ) → xV G l mM_X9_readText K 86 [(0, .ref (xad G 43)), (1, .int l1)] [] (xM σ) := by
  intro l1 σ h
  refine x_aload_n hC dX9_readText_86 rfl (j := 0) rfl <| x_iconst (v := (0 : Int32)) hC dX9_readText_87 (by decide) <| s_putI hC dX9_readText_88 wfl_X9_182 rfl (by decide) (by decide) (by decide) (by decide) (by decide) <| x_aload_n hC dX9_readText_91 rfl (j := 0) rfl <| s_getI hC dX9_readText_92 wfl_X9_188 rfl (by decide) (by decide) (by decide) (by decide) <| ?_
  refine x_if_lt (tgt := 103) hC dX9_readText_95 (by decide) (fun c5 => ?_) (fun c5 => ?_)
  · replace h := (if_pos c5).symm.trans h
    refine x_iconst (v := (0 : Int32)) hC dX9_readText_103 (by decide) <| x_istore_n hC dX9_readText_104 rfl (by decide) rfl <| ?_
    refine x_sub [1, 2, 0] rfl ?_
    exact B_X9_readText_105 hC hR hE xFU l1 (0 : Int32) (yI σ 43 21 (0 : Int32)) h
  · replace h := (if_neg c5).symm.trans h
    refine x_aload_n hC dX9_readText_98 rfl (j := 0) rfl <| s_getI hC dX9_readText_99 wfl_X9_188 rfl (by decide) (by decide) (by decide) (by decide) <| ?_
    obtain ⟨e1, e2⟩ := xso2 h
    subst e1
    subst e2
    exact x_iret (rest := []) hC hE rfl dX9_readText_102
set_option maxRecDepth 100000 in
set_option maxHeartbeats 4000000 in
theorem B_X9_readText_64 {G : xG} {l : Launch} {K : xK} {r : Int32} {τ : xS2} (hC : xCX G mM_X9_readText K) (hR : xRd K 104) (hE : xE G K (some (.int r)) (xM τ)) : ∀ (l1 : Int32) (σ : xS2), J_X9_readText_64 l1 σ = some (r, τ) → xV G l mM_X9_readText K 64 [(0, .ref (xad G 43)), (1, .int l1)] [] (xM σ) := by
  intro l1 σ h
  refine x_aload_n hC dX9_readText_64 rfl (j := 0) rfl <| s_getI hC dX9_readText_65 wfl_X9_188 rfl (by decide) (by decide) (by decide) (by decide) <| ?_
  refine x_if_ge (tgt := 86) hC dX9_readText_68 (by decide) (fun c4 => ?_) (fun c4 => ?_)
  · replace h := (if_pos c4).symm.trans h
    refine x_sub [0, 1] rfl ?_
    exact B_X9_readText_86 hC hR hE l1 σ h
  · replace h := (if_neg c4).symm.trans h
    refine x_aload_n hC dX9_readText_71 rfl (j := 0) rfl <| s_getI hC dX9_readText_72 wfl_X9_185 rfl (by decide) (by decide) (by decide) (by decide) <| x_aload_n hC dX9_readText_75 rfl (j := 0) rfl <| s_getI hC dX9_readText_76 wfl_X9_182 rfl (by decide) (by decide) (by decide) (by decide) <| ?_
    refine x_icmp_ge (tgt := 86) hC dX9_readText_79 (by decide) (fun c19 => ?_) (fun c19 => ?_)
    · replace h := (if_pos c19).symm.trans h
      refine x_sub [0, 1] rfl ?_
      exact B_X9_readText_86 hC hR hE l1 σ h
    · replace h := (if_neg c19).symm.trans h
      refine x_aload_n hC dX9_readText_82 rfl (j := 0) rfl <| ?_
      obtain ⟨x20, h20, h⟩ := Option.bind_eq_some_iff.mp h
      refine x_callV hC hR dX9_readText_83 mK_X9_faulty wml_X9_197 (C_X9_faulty (σ := σ) h20) (by omega) rfl (by decide) rfl rfl (xlt (by decide)) rfl (Nat.le_of_ble_eq_true rfl) rfl rfl rfl <| ?_
      refine x_sub [0, 1] rfl ?_
      exact B_X9_readText_86 hC hR hE l1 x20 h
set_option maxRecDepth 100000 in
set_option maxHeartbeats 4000000 in
theorem B_X9_readText_31 {G : xG} {l : Launch} {K : xK} {r : Int32} {τ : xS2} (hC : xCX G mM_X9_readText K) (hR : xRd K 104) (hE : xE G K (some (.int r)) (xM τ)) : ∀ (f : Nat) (l1 : Int32) (σ : xS2), J_X9_readText_31 f l1 σ = some (r, τ) → xV G l mM_X9_readText K 31 [(0, .ref (xad G 43)), (1, .int l1)] [] (xM σ) := by
  intro f
  induction f with
  | zero => intro l1 σ h; cases h
  | succ f ih =>
    intro l1 σ h
    refine x_aload_n hC dX9_readText_31 rfl (j := 0) rfl <| s_getI hC dX9_readText_32 wfl_X9_188 rfl (by decide) (by decide) (by decide) (by decide) <| ?_
    refine x_if_ge (tgt := 64) hC dX9_readText_35 (by decide) (fun c3 => ?_) (fun c3 => ?_)
    · replace h := (if_pos c3).symm.trans h
      refine x_sub [0, 1] rfl ?_
      exact B_X9_readText_64 hC hR hE l1 σ h
    · replace h := (if_neg c3).symm.trans h
      refine x_aload_n hC dX9_readText_38 rfl (j := 0) rfl <| ?_
      obtain ⟨x21, h21, h⟩ := Option.bind_eq_some_iff.mp h
      refine x_callV hC hR dX9_readText_39 mK_X9_look wml_X9_200 (C_X9_look (σ := σ) h21) (by omega) rfl (by decide) rfl rfl (xlt (by decide)) rfl (Nat.le_of_ble_eq_true rfl) rfl rfl rfl <| ?_
      refine x_bipush (v := (59 : Int32)) hC dX9_readText_42 (by decide) <| ?_
      refine x_icmp_ne (tgt := 64) hC dX9_readText_44 (by decide) (fun c22 => ?_) (fun c22 => ?_)
      · replace h := (if_neg c22).symm.trans h
        refine x_sub [0, 1] rfl ?_
        exact B_X9_readText_64 hC hR hE l1 σ h
      · replace h := (if_pos c22).symm.trans h
        refine x_aload_n hC dX9_readText_47 rfl (j := 0) rfl <| x_dup hC dX9_readText_48 rfl <| s_getI hC dX9_readText_49 wfl_X9_185 rfl (by decide) (by decide) (by decide) (by decide) <| x_iconst (v := (1 : Int32)) hC dX9_readText_52 (by decide) <| x_iadd hC dX9_readText_53 <| s_putI hC dX9_readText_54 wfl_X9_185 rfl (by decide) (by decide) (by decide) (by decide) (by decide) <| ?_
        refine x_aload_n hC dX9_readText_57 rfl (j := 0) rfl <| ?_
        obtain ⟨x23, h23, h⟩ := Option.bind_eq_some_iff.mp h
        refine x_callV hC hR dX9_readText_58 mK_X9_oneLine wml_X9_236 (C_X9_oneLine (σ := (yI σ 43 22 ((σ.1 43 22) + (1 : Int32)))) h23) (by omega) rfl (by decide) rfl rfl (xlt (by decide)) rfl (Nat.le_of_ble_eq_true rfl) rfl rfl rfl <| ?_
        refine x_goto (tgt := 31) hC dX9_readText_61 (by decide) <| ?_
        refine x_sub [0, 1] rfl ?_
        exact ih l1 x23 h
set_option maxRecDepth 100000 in
set_option maxHeartbeats 4000000 in
theorem C_X9_readText {G : xG} {l : Launch} {a1 : Int32} {σ : xS2} {r : Int32} {τ : xS2} (h : J_X9_readText a1 σ = some (r, τ)) : xC G l mM_X9_readText 104 [.ref (xad G 43), .int a1] (xM σ) (some (.int r)) (xM τ) := by
  refine xC_of (by decide) rfl (Nat.le_refl _) (Nat.le_of_ble_eq_true rfl) (fun K hC hE hR _ => ?_)
  refine x_aload_n hC dX9_readText_0 rfl (j := 0) rfl <| x_iconst (v := (0 : Int32)) hC dX9_readText_1 (by decide) <| s_putI hC dX9_readText_2 wfl_X9_185 rfl (by decide) (by decide) (by decide) (by decide) (by decide) <| x_aload_n hC dX9_readText_5 rfl (j := 0) rfl <| x_iconst (v := (-1 : Int32)) hC dX9_readText_6 (by decide) <| s_putI hC dX9_readText_7 wfl_X9_188 rfl (by decide) (by decide) (by decide) (by decide) (by decide) <| ?_
  refine x_aload_n hC dX9_readText_10 rfl (j := 0) rfl <| x_iconst (v := (0 : Int32)) hC dX9_readText_11 (by decide) <| s_putI hC dX9_readText_12 wfl_X9_194 rfl (by decide) (by decide) (by decide) (by decide) (by decide) <| x_aload_n hC dX9_readText_15 rfl (j := 0) rfl <| x_iconst (v := (0 : Int32)) hC dX9_readText_16 (by decide) <| s_putI hC dX9_readText_17 wfl_X9_191 rfl (by decide) (by decide) (by decide) (by decide) (by decide) <| ?_
  refine x_aload_n hC dX9_readText_20 rfl (j := 0) rfl <| s_getR (q := 57) hC dX9_readText_21 wfl_X9_60 rfl (by decide) (by decide) (by decide) (by decide) (by decide) <| x_iconst (v := (1 : Int32)) hC dX9_readText_24 (by decide) <| x_iconst (v := (0 : Int32)) hC dX9_readText_25 (by decide) <| s_iast hC dX9_readText_26 rfl (by decide) (by decide) <| ?_
  show xV _ _ _ _ _ _ _ (xM (yI (yI (yI (yI (yI σ 43 22 (0 : Int32)) 43 23 (-1 : Int32)) 43 24 (0 : Int32)) 43 25 (0 : Int32)) 57 1 (0 : Int32)))
  refine x_aload_n hC dX9_readText_27 rfl (j := 0) rfl <| ?_
  obtain ⟨x2, h2, h⟩ := Option.bind_eq_some_iff.mp h
  refine x_callV hC hR dX9_readText_28 mK_X9_oneLine wml_X9_236 (C_X9_oneLine (σ := (yI (yI (yI (yI (yI σ 43 22 (0 : Int32)) 43 23 (-1 : Int32)) 43 24 (0 : Int32)) 43 25 (0 : Int32)) 57 1 (0 : Int32))) h2) (by omega) rfl (by decide) rfl rfl (xlt (by decide)) rfl (Nat.le_of_ble_eq_true rfl) rfl rfl rfl <| ?_
  refine x_sub [0, 1] rfl ?_
  exact B_X9_readText_31 hC hR hE xFU a1 x2 h
set_option maxRecDepth 100000 in
set_option maxHeartbeats 4000000 in
theorem C_X9_law {G : xG} {l : Launch} {σ : xS2} {r : Int32} {τ : xS2} (h : J_X9_law σ = some (r, τ)) : xC G l mM_X9_law 105 [.ref (xad G 43)] (xM σ) (some (.int r)) (xM τ) := by
  refine xC_of (by decide) rfl (Nat.le_refl _) (Nat.le_of_ble_eq_true rfl) (fun K hC hE hR _ => ?_)
  refine x_aload_n hC dX9_law_0 rfl (j := 0) rfl <| x_iconst (v := (0 : Int32)) hC dX9_law_1 (by decide) <| ?_
  obtain ⟨x1, h1, h⟩ := Option.bind_eq_some_iff.mp h
  refine x_callV hC hR dX9_law_2 mK_X9_readText wml_X9_245 (C_X9_readText (a1 := (0 : Int32)) (σ := σ) h1) (by omega) rfl (by decide) rfl rfl (xlt (by decide)) rfl (Nat.le_of_ble_eq_true rfl) rfl rfl rfl <| ?_
  refine x_istore_n hC dX9_law_5 rfl (by decide) rfl <| x_iload_n hC dX9_law_6 rfl (j := 0) rfl <| ?_
  refine x_if_lt (tgt := 15) hC dX9_law_7 (by decide) (fun c2 => ?_) (fun c2 => ?_)
  · replace h := (if_pos c2).symm.trans h
    refine x_aload_n hC dX9_law_15 rfl (j := 1) rfl <| x_iconst (v := (1 : Int32)) hC dX9_law_16 (by decide) <| s_putZ hC dX9_law_17 wfl_X9_248 rfl (by decide) (by decide) (by decide) (by decide) (by decide) (by decide) <| x_iconst (v := (1 : Int32)) hC dX9_law_20 (by decide) <| ?_
    obtain ⟨e1, e2⟩ := xso2 h
    subst e1
    subst e2
    exact x_iret (rest := []) hC hE rfl dX9_law_21
  · replace h := (if_neg c2).symm.trans h
    refine x_bipush (v := (-100 : Int32)) hC dX9_law_10 (by decide) <| x_iload_n hC dX9_law_12 rfl (j := 0) rfl <| x_isub hC dX9_law_13 <| ?_
    obtain ⟨e1, e2⟩ := xso2 h
    subst e1
    subst e2
    exact x_iret (rest := []) hC hE rfl dX9_law_14
set_option maxRecDepth 100000 in
set_option maxHeartbeats 4000000 in
theorem B_X9_tellThought_50 {G : xG} {l : Launch} {K : xK} {r : Int32} {τ : xS2} (hC : xCX G mM_X9_tellThought K) (hR : xRd K 1) (hE : xE G K (some (.int r)) (xM τ)) : ∀ (s0 : Int32) (σ : xS2), J_X9_tellThought_50 s0 σ = some (r, τ) → xV G l mM_X9_tellThought K 50 [(0, .ref (xad G 43))] [.int s0] (xM σ) := by
  intro s0 σ h
  refine x_istore_n hC dX9_tellThought_50 rfl (by decide) rfl <| x_aload_n hC dX9_tellThought_51 rfl (j := 1) rfl <| ?_
  obtain ⟨x6, h6, h⟩ := Option.bind_eq_some_iff.mp h
  refine x_callV hC hR dX9_tellThought_52 mK_X9_unthink wml_X9_296 (C_X9_unthink (σ := σ) h6) (by omega) rfl (by decide) rfl rfl (xlt (by decide)) rfl (Nat.le_of_ble_eq_true rfl) rfl rfl rfl <| ?_
  refine x_iload_n hC dX9_tellThought_55 rfl (j := 0) rfl <| ?_
  obtain ⟨e1, e2⟩ := xso2 h
  subst e1
  subst e2
  exact x_iret (rest := []) hC hE rfl dX9_tellThought_56
set_option maxRecDepth 100000 in
set_option maxHeartbeats 4000000 in
theorem C_X9_tellThought {G : xG} {l : Launch} {a1 : Int32} {σ : xS2} {r : Int32} {τ : xS2} (h : J_X9_tellThought a1 σ = some (r, τ)) : xC G l mM_X9_tellThought 1 [.ref (xad G 43), .int a1] (xM σ) (some (.int r)) (xM τ) := by
  refine xC_of (by decide) rfl (Nat.le_refl _) (Nat.le_of_ble_eq_true rfl) (fun K hC hE hR _ => ?_)
  refine x_iload_n hC dX9_tellThought_0 rfl (j := 1) rfl <| ?_
  refine x_if_ne (tgt := 11) hC dX9_tellThought_1 (by decide) (fun c1 => ?_) (fun c1 => ?_)
  · replace h := (if_neg c1).symm.trans h
    refine x_iload_n hC dX9_tellThought_11 rfl (j := 1) rfl <| x_iconst (v := (1 : Int32)) hC dX9_tellThought_12 (by decide) <| ?_
    refine x_icmp_ne (tgt := 23) hC dX9_tellThought_13 (by decide) (fun c2 => ?_) (fun c2 => ?_)
    · replace h := (if_neg c2).symm.trans h
      refine x_iload_n hC dX9_tellThought_23 rfl (j := 1) rfl <| x_iconst (v := (2 : Int32)) hC dX9_tellThought_24 (by decide) <| ?_
      refine x_icmp_ne (tgt := 35) hC dX9_tellThought_25 (by decide) (fun c3 => ?_) (fun c3 => ?_)
      · replace h := (if_neg c3).symm.trans h
        refine x_aload_n hC dX9_tellThought_35 rfl (j := 0) rfl <| s_getL hC dX9_tellThought_36 wfl_X9_124 rfl (by decide) (by decide) (by decide) (by decide) <| ?_
        obtain ⟨x4, h4, h⟩ := Option.bind_eq_some_iff.mp h
        refine x_callS hC hR dX9_tellThought_39 mK_X9_bitsIn wml_X9_175 (C_X9_bitsIn (a0 := (σ.2 43 11)) (σ := σ) h4) (by omega) rfl (Nat.le_of_ble_eq_true rfl) rfl rfl rfl <| ?_
        refine x_aload_n hC dX9_tellThought_42 rfl (j := 0) rfl <| s_getL hC dX9_tellThought_43 wfl_X9_270 rfl (by decide) (by decide) (by decide) (by decide) <| ?_
        obtain ⟨x5, h5, h⟩ := Option.bind_eq_some_iff.mp h
        refine x_callS hC hR dX9_tellThought_46 mK_X9_bitsIn wml_X9_175 (C_X9_bitsIn (a0 := (σ.2 43 37)) (σ := σ) h5) (by omega) rfl (Nat.le_of_ble_eq_true rfl) rfl rfl rfl <| ?_
        refine x_isub hC dX9_tellThought_49 <| ?_
        refine x_sub [0] rfl ?_
        exact B_X9_tellThought_50 hC hR hE (x4 - x5) σ h
      · replace h := (if_pos c3).symm.trans h
        refine x_aload_n hC dX9_tellThought_28 rfl (j := 0) rfl <| s_getI hC dX9_tellThought_29 wfl_X9_172 rfl (by decide) (by decide) (by decide) (by decide) <| x_goto (tgt := 50) hC dX9_tellThought_32 (by decide) <| ?_
        refine x_sub [0] rfl ?_
        exact B_X9_tellThought_50 hC hR hE (σ.1 43 10) σ h
    · replace h := (if_pos c2).symm.trans h
      refine x_aload_n hC dX9_tellThought_16 rfl (j := 0) rfl <| s_getI hC dX9_tellThought_17 wfl_X9_29 rfl (by decide) (by decide) (by decide) (by decide) <| x_goto (tgt := 50) hC dX9_tellThought_20 (by decide) <| ?_
      refine x_sub [0] rfl ?_
      exact B_X9_tellThought_50 hC hR hE (σ.1 43 9) σ h
  · replace h := (if_pos c1).symm.trans h
    refine x_aload_n hC dX9_tellThought_4 rfl (j := 0) rfl <| s_getI hC dX9_tellThought_5 wfl_X9_169 rfl (by decide) (by decide) (by decide) (by decide) <| x_goto (tgt := 50) hC dX9_tellThought_8 (by decide) <| ?_
    refine x_sub [0] rfl ?_
    exact B_X9_tellThought_50 hC hR hE (σ.1 43 8) σ h
set_option maxRecDepth 100000 in
set_option maxHeartbeats 4000000 in
theorem B_X9_lawful_41 {G : xG} {l : Launch} {K : xK} {r : Int32} {τ : xS2} (hC : xCX G mM_X9_lawful K) (hR : xRd K 5) (hE : xE G K (some (.int r)) (xM τ)) : ∀ (f : Nat) (l1 : Int32) (l2 : Int32) (l3 : Int32) (σ : xS2), J_X9_lawful_41 f l1 l2 l3 σ = some (r, τ) → xV G l mM_X9_lawful K 41 [(0, .ref (xad G 43)), (1, .int l1), (2, .int l2), (3, .int l3)] [] (xM σ) := by
  intro f
  induction f with
  | zero => intro l1 l2 l3 σ h; cases h
  | succ f ih =>
    intro l1 l2 l3 σ h
    refine x_iload_n hC dX9_lawful_41 rfl (j := 3) rfl <| x_iload_n hC dX9_lawful_42 rfl (j := 1) rfl <| ?_
    refine x_icmp_ge (tgt := 73) hC dX9_lawful_43 (by decide) (fun c7 => ?_) (fun c7 => ?_)
    · replace h := (if_pos c7).symm.trans h
      refine x_aload_n hC dX9_lawful_73 rfl (j := 0) rfl <| x_iload_n hC dX9_lawful_74 rfl (j := 2) rfl <| ?_
      obtain ⟨x8, h8, h⟩ := Option.bind_eq_some_iff.mp h
      refine x_callV hC hR dX9_lawful_75 mK_X9_tellThought wml_X9_308 (C_X9_tellThought (a1 := l2) (σ := σ) h8) (by omega) rfl (by decide) rfl rfl (xlt (by decide)) rfl (Nat.le_of_ble_eq_true rfl) rfl rfl rfl <| ?_
      obtain ⟨e1, e2⟩ := xso2 h
      subst e1
      subst e2
      exact x_iret (rest := []) hC hE rfl dX9_lawful_78
    · replace h := (if_neg c7).symm.trans h
      refine x_aload_n hC dX9_lawful_46 rfl (j := 0) rfl <| x_aload_n hC dX9_lawful_47 rfl (j := 0) rfl <| x_aload_n hC dX9_lawful_48 rfl (j := 0) rfl <| s_getI hC dX9_lawful_49 wfl_X9_166 rfl (by decide) (by decide) (by decide) (by decide) <| x_iload_n hC dX9_lawful_52 rfl (j := 3) rfl <| x_iadd hC dX9_lawful_53 <| ?_
      obtain ⟨x9, h9, h⟩ := Option.bind_eq_some_iff.mp h
      refine x_callV hC hR dX9_lawful_54 mK_X9_orderOf wml_X9_258 (C_X9_orderOf (a1 := ((σ.1 43 7) + l3)) (σ := σ) h9) (by omega) rfl (by decide) rfl rfl (xlt (by decide)) rfl (Nat.le_of_ble_eq_true rfl) rfl rfl rfl <| ?_
      refine x_aload_n hC dX9_lawful_57 rfl (j := 0) rfl <| s_getI hC dX9_lawful_58 wfl_X9_166 rfl (by decide) (by decide) (by decide) (by decide) <| x_iload_n hC dX9_lawful_61 rfl (j := 3) rfl <| x_iadd hC dX9_lawful_62 <| ?_
      obtain ⟨x10, h10, h⟩ := Option.bind_eq_some_iff.mp h
      refine x_callV hC hR dX9_lawful_63 mK_X9_goOwn wml_X9_287 (C_X9_goOwn (a1 := x9.1) (a2 := ((x9.2.1 43 7) + l3)) (σ := x9.2) h10) (by omega) rfl (by decide) rfl rfl (xlt (by decide)) rfl (Nat.le_of_ble_eq_true rfl) rfl rfl rfl <| ?_
      refine x_pop hC dX9_lawful_66 rfl <| x_iinc hC dX9_lawful_67 (j := 3) (v := (l3 + (1 : Int32))) rfl rfl (by decide) rfl <| x_goto (tgt := 41) hC dX9_lawful_70 (by decide) <| ?_
      refine x_sub [1, 2, 3, 0] rfl ?_
      exact ih l1 l2 (l3 + (1 : Int32)) x10.2 h
set_option maxRecDepth 100000 in
set_option maxHeartbeats 4000000 in
theorem C_X9_lawful {G : xG} {l : Launch} {a1 : Int32} {a2 : Int32} {σ : xS2} {r : Int32} {τ : xS2} (h : J_X9_lawful a1 a2 σ = some (r, τ)) : xC G l mM_X9_lawful 5 [.ref (xad G 43), .int a1, .int a2] (xM σ) (some (.int r)) (xM τ) := by
  refine xC_of (by decide) rfl (Nat.le_refl _) (Nat.le_of_ble_eq_true rfl) (fun K hC hE hR _ => ?_)
  refine x_iload_n hC dX9_lawful_0 rfl (j := 1) rfl <| x_iconst (v := (0 : Int32)) hC dX9_lawful_1 (by decide) <| x_bipush (v := (60 : Int32)) hC dX9_lawful_2 (by decide) <| x_callS hC hR dX9_lawful_4 mK_X9_in wml_X9_116 (C_X9_in (a0 := a1) (a1 := (0 : Int32)) (a2 := (60 : Int32)) (σ := σ)) (by omega) rfl (Nat.le_of_ble_eq_true rfl) rfl rfl rfl <| ?_
  refine x_if_eq (tgt := 19) hC dX9_lawful_7 (by decide) (fun c2 => ?_) (fun c2 => ?_)
  · replace h := (if_pos c2).symm.trans h
    refine x_iconst (v := (-1 : Int32)) hC dX9_lawful_19 (by decide) <| ?_
    obtain ⟨e1, e2⟩ := xso2 h
    subst e1
    subst e2
    exact x_iret (rest := []) hC hE rfl dX9_lawful_20
  · replace h := (if_neg c2).symm.trans h
    refine x_iload_n hC dX9_lawful_10 rfl (j := 2) rfl <| x_iconst (v := (0 : Int32)) hC dX9_lawful_11 (by decide) <| x_iconst (v := (3 : Int32)) hC dX9_lawful_12 (by decide) <| x_callS hC hR dX9_lawful_13 mK_X9_in wml_X9_116 (C_X9_in (a0 := a2) (a1 := (0 : Int32)) (a2 := (3 : Int32)) (σ := σ)) (by omega) rfl (Nat.le_of_ble_eq_true rfl) rfl rfl rfl <| ?_
    refine x_if_ne (tgt := 21) hC dX9_lawful_16 (by decide) (fun c4 => ?_) (fun c4 => ?_)
    · replace h := (if_neg c4).symm.trans h
      refine x_iload_n hC dX9_lawful_21 rfl (j := 1) rfl <| x_bipush (v := (60 : Int32)) hC dX9_lawful_22 (by decide) <| x_aload_n hC dX9_lawful_24 rfl (j := 0) rfl <| s_getI hC dX9_lawful_25 wfl_X9_166 rfl (by decide) (by decide) (by decide) (by decide) <| x_isub hC dX9_lawful_28 <| ?_
      refine x_icmp_le (tgt := 35) hC dX9_lawful_29 (by decide) (fun c5 => ?_) (fun c5 => ?_)
      · replace h := (if_pos c5).symm.trans h
        refine x_aload_n hC dX9_lawful_35 rfl (j := 0) rfl <| ?_
        obtain ⟨x6, h6, h⟩ := Option.bind_eq_some_iff.mp h
        refine x_callV hC hR dX9_lawful_36 mK_X9_think wml_X9_302 (C_X9_think (σ := σ) h6) (by omega) rfl (by decide) rfl rfl (xlt (by decide)) rfl (Nat.le_of_ble_eq_true rfl) rfl rfl rfl <| ?_
        refine x_iconst (v := (0 : Int32)) hC dX9_lawful_39 (by decide) <| x_istore_n hC dX9_lawful_40 rfl (by decide) rfl <| ?_
        refine x_sub [1, 2, 3, 0] rfl ?_
        exact B_X9_lawful_41 hC hR hE xFU a1 a2 (0 : Int32) x6 h
      · replace h := (if_neg c5).symm.trans h
        refine x_bipush (v := (-5 : Int32)) hC dX9_lawful_32 (by decide) <| ?_
        obtain ⟨e1, e2⟩ := xso2 h
        subst e1
        subst e2
        exact x_iret (rest := []) hC hE rfl dX9_lawful_34
    · replace h := (if_pos c4).symm.trans h
      refine x_iconst (v := (-1 : Int32)) hC dX9_lawful_19 (by decide) <| ?_
      obtain ⟨e1, e2⟩ := xso2 h
      subst e1
      subst e2
      exact x_iret (rest := []) hC hE rfl dX9_lawful_20
set_option maxRecDepth 100000 in
set_option maxHeartbeats 4000000 in
theorem C_X9_led {G : xG} {l : Launch} {a1 : Int32} {a2 : Int32} {σ : xS2} {r : Int32} (h : J_X9_led a1 a2 σ = some r) : xC G l mM_X9_led 1 [.ref (xad G 43), .int a1, .int a2] (xM σ) (some (.int r)) (xM σ) := by
  refine xC_of (by decide) rfl (Nat.le_refl _) (Nat.le_of_ble_eq_true rfl) (fun K hC hE hR _ => ?_)
  refine x_iload_n hC dX9_led_0 rfl (j := 1) rfl <| x_iconst (v := (0 : Int32)) hC dX9_led_1 (by decide) <| x_aload_n hC dX9_led_2 rfl (j := 0) rfl <| s_getI hC dX9_led_3 wfl_X9_166 rfl (by decide) (by decide) (by decide) (by decide) <| x_iconst (v := (1 : Int32)) hC dX9_led_6 (by decide) <| x_isub hC dX9_led_7 <| ?_
  refine x_callS hC hR dX9_led_8 mK_X9_in wml_X9_116 (C_X9_in (a0 := a1) (a1 := (0 : Int32)) (a2 := ((σ.1 43 7) - (1 : Int32))) (σ := σ)) (by omega) rfl (Nat.le_of_ble_eq_true rfl) rfl rfl rfl <| ?_
  refine x_if_eq (tgt := 23) hC dX9_led_11 (by decide) (fun c2 => ?_) (fun c2 => ?_)
  · replace h := (if_pos c2).symm.trans h
    refine x_iconst (v := (-1 : Int32)) hC dX9_led_23 (by decide) <| ?_
    have e1 := Option.some.inj h
    subst e1
    exact x_iret (rest := []) hC hE rfl dX9_led_24
  · replace h := (if_neg c2).symm.trans h
    refine x_iload_n hC dX9_led_14 rfl (j := 2) rfl <| x_iconst (v := (0 : Int32)) hC dX9_led_15 (by decide) <| x_iconst (v := (1 : Int32)) hC dX9_led_16 (by decide) <| x_callS hC hR dX9_led_17 mK_X9_in wml_X9_116 (C_X9_in (a0 := a2) (a1 := (0 : Int32)) (a2 := (1 : Int32)) (σ := σ)) (by omega) rfl (Nat.le_of_ble_eq_true rfl) rfl rfl rfl <| ?_
    refine x_if_ne (tgt := 25) hC dX9_led_20 (by decide) (fun c4 => ?_) (fun c4 => ?_)
    · replace h := (if_neg c4).symm.trans h
      refine x_iload_n hC dX9_led_25 rfl (j := 2) rfl <| ?_
      refine x_if_ne (tgt := 38) hC dX9_led_26 (by decide) (fun c5 => ?_) (fun c5 => ?_)
      · replace h := (if_neg c5).symm.trans h
        refine x_aload_n hC dX9_led_38 rfl (j := 0) rfl <| s_getR (q := 49) hC dX9_led_39 wfl_X9_35 rfl (by decide) (by decide) (by decide) (by decide) (by decide) <| x_iload_n hC dX9_led_42 rfl (j := 1) rfl <| ?_
        obtain ⟨h6, h⟩ := xgd_some h
        refine s_iald hC dX9_led_43 rfl (by decide) h6 <| ?_
        have e1 := Option.some.inj h
        subst e1
        exact x_iret (rest := []) hC hE rfl dX9_led_44
      · replace h := (if_pos c5).symm.trans h
        refine x_aload_n hC dX9_led_29 rfl (j := 0) rfl <| s_getR (q := 48) hC dX9_led_30 wfl_X9_32 rfl (by decide) (by decide) (by decide) (by decide) (by decide) <| x_iload_n hC dX9_led_33 rfl (j := 1) rfl <| ?_
        obtain ⟨h7, h⟩ := xgd_some h
        refine s_iald hC dX9_led_34 rfl (by decide) h7 <| ?_
        refine x_goto (tgt := 44) hC dX9_led_35 (by decide) <| ?_
        have e1 := Option.some.inj h
        subst e1
        exact x_iret (rest := []) hC hE rfl dX9_led_44
    · replace h := (if_pos c4).symm.trans h
      refine x_iconst (v := (-1 : Int32)) hC dX9_led_23 (by decide) <| ?_
      have e1 := Option.some.inj h
      subst e1
      exact x_iret (rest := []) hC hE rfl dX9_led_24
set_option maxRecDepth 100000 in
set_option maxHeartbeats 4000000 in
theorem B_X9_line_71 {G : xG} {l : Launch} {K : xK} {r : Int64} {σ : xS2} (hC : xCX G mM_X9_line K) (hR : xRd K 2) (hE : xE G K (some (.long r)) (xM σ)) {k33 : Int32 → Int32 → Int64 → Int32 → xS2 → Option Int64} (hk33 : ∀ (l1 : Int32) (l2 : Int32) (l3 : Int64) (l5 : Int32), k33 l1 l2 l3 l5 σ = some r → xV G l mM_X9_line K 33 [(0, .ref (xad G 43)), (1, .int l1), (2, .int l2), (3, .long l3), (5, .int l5)] [] (xM σ)) : ∀ (l1 : Int32) (l2 : Int32) (l3 : Int64) (l5 : Int32), J_X9_line_71 k33 l1 l2 l3 l5 σ = some r → xV G l mM_X9_line K 71 [(0, .ref (xad G 43)), (1, .int l1), (2, .int l2), (3, .long l3), (5, .int l5)] [] (xM σ) := by
  intro l1 l2 l3 l5 h
  refine x_iinc hC dX9_line_71 (j := 4) (v := (l5 + (1 : Int32))) rfl rfl (by decide) rfl <| x_goto (tgt := 33) hC dX9_line_74 (by decide) <| ?_
  refine x_sub [1, 2, 3, 4, 0] rfl ?_
  exact hk33 l1 l2 l3 (l5 + (1 : Int32)) h
set_option maxRecDepth 100000 in
set_option maxHeartbeats 4000000 in
theorem B_X9_line_68 {G : xG} {l : Launch} {K : xK} {r : Int64} {σ : xS2} (hC : xCX G mM_X9_line K) (hR : xRd K 2) (hE : xE G K (some (.long r)) (xM σ)) {k33 : Int32 → Int32 → Int64 → Int32 → xS2 → Option Int64} (hk33 : ∀ (l1 : Int32) (l2 : Int32) (l3 : Int64) (l5 : Int32), k33 l1 l2 l3 l5 σ = some r → xV G l mM_X9_line K 33 [(0, .ref (xad G 43)), (1, .int l1), (2, .int l2), (3, .long l3), (5, .int l5)] [] (xM σ)) : ∀ (l1 : Int32) (l2 : Int32) (l5 : Int32) (s0 : Int64) (s1 : Int64) (s2 : Int32), J_X9_line_68 k33 l1 l2 l5 s0 s1 s2 σ = some r → xV G l mM_X9_line K 68 [(0, .ref (xad G 43)), (1, .int l1), (2, .int l2), (5, .int l5)] [.int s2, .long s1, .long s0] (xM σ) := by
  intro l1 l2 l5 s0 s1 s2 h
  refine x_lshl (v := (xls s1 s2)) hC dX9_line_68 rfl <| x_lor hC dX9_line_69 <| x_lstore_n hC dX9_line_70 rfl (by decide) rfl <| ?_
  refine x_sub [1, 2, 3, 0, 4] rfl ?_
  exact B_X9_line_71 hC hR hE hk33 l1 l2 (s0 ||| (xls s1 s2)) l5 h
set_option maxRecDepth 100000 in
set_option maxHeartbeats 4000000 in
theorem B_X9_line_33 {G : xG} {l : Launch} {K : xK} {r : Int64} {σ : xS2} (hC : xCX G mM_X9_line K) (hR : xRd K 2) (hE : xE G K (some (.long r)) (xM σ)) : ∀ (f : Nat) (l1 : Int32) (l2 : Int32) (l3 : Int64) (l5 : Int32), J_X9_line_33 f l1 l2 l3 l5 σ = some r → xV G l mM_X9_line K 33 [(0, .ref (xad G 43)), (1, .int l1), (2, .int l2), (3, .long l3), (5, .int l5)] [] (xM σ) := by
  intro f
  induction f with
  | zero => intro l1 l2 l3 l5 h; cases h
  | succ f ih =>
    intro l1 l2 l3 l5 h
    refine x_iload hC dX9_line_33 (j := 4) rfl <| x_bipush (v := (36 : Int32)) hC dX9_line_35 (by decide) <| ?_
    refine x_icmp_ge (tgt := 77) hC dX9_line_37 (by decide) (fun c7 => ?_) (fun c7 => ?_)
    · replace h := (if_pos c7).symm.trans h
      refine x_lload_n hC dX9_line_77 rfl (j := 3) rfl <| ?_
      have e1 := Option.some.inj h
      subst e1
      exact x_lret (rest := []) hC hE rfl dX9_line_78
    · replace h := (if_neg c7).symm.trans h
      refine x_aload_n hC dX9_line_40 rfl (j := 0) rfl <| x_iload_n hC dX9_line_41 rfl (j := 1) rfl <| x_iload hC dX9_line_42 (j := 4) rfl <| ?_
      obtain ⟨x8, h8, h⟩ := Option.bind_eq_some_iff.mp h
      refine x_callV hC hR dX9_line_44 mK_X9_endOf wml_X9_351 (C_X9_endOf (a1 := l1) (a2 := l5) (σ := σ) h8) (by omega) rfl (by decide) rfl rfl (xlt (by decide)) rfl (Nat.le_of_ble_eq_true rfl) rfl rfl rfl <| ?_
      refine x_if_lt (tgt := 71) hC dX9_line_47 (by decide) (fun c9 => ?_) (fun c9 => ?_)
      · replace h := (if_pos c9).symm.trans h
        refine x_sub [0, 1, 2, 3, 4] rfl ?_
        exact B_X9_line_71 hC hR hE ih l1 l2 l3 l5 h
      · replace h := (if_neg c9).symm.trans h
        refine x_lload_n hC dX9_line_50 rfl (j := 3) rfl <| x_lconst (v := (1 : Int64)) hC dX9_line_51 (by decide) <| x_iload_n hC dX9_line_52 rfl (j := 2) rfl <| ?_
        refine x_if_ne (tgt := 61) hC dX9_line_53 (by decide) (fun c10 => ?_) (fun c10 => ?_)
        · replace h := (if_neg c10).symm.trans h
          refine x_aload_n hC dX9_line_61 rfl (j := 0) rfl <| x_iload_n hC dX9_line_62 rfl (j := 1) rfl <| x_iload hC dX9_line_63 (j := 4) rfl <| ?_
          obtain ⟨x11, h11, h⟩ := Option.bind_eq_some_iff.mp h
          refine x_callV hC hR dX9_line_65 mK_X9_endOf wml_X9_351 (C_X9_endOf (a1 := l1) (a2 := l5) (σ := σ) h11) (by omega) rfl (by decide) rfl rfl (xlt (by decide)) rfl (Nat.le_of_ble_eq_true rfl) rfl rfl rfl <| ?_
          refine x_sub [0, 1, 2, 4] rfl ?_
          exact B_X9_line_68 hC hR hE ih l1 l2 l5 l3 (1 : Int64) x11 h
        · replace h := (if_pos c10).symm.trans h
          refine x_iload hC dX9_line_56 (j := 4) rfl <| x_goto (tgt := 68) hC dX9_line_58 (by decide) <| ?_
          refine x_sub [0, 1, 2, 4] rfl ?_
          exact B_X9_line_68 hC hR hE ih l1 l2 l5 l3 (1 : Int64) l5 h
set_option maxRecDepth 100000 in
set_option maxHeartbeats 4000000 in
theorem C_X9_line {G : xG} {l : Launch} {a1 : Int32} {a2 : Int32} {σ : xS2} {r : Int64} (h : J_X9_line a1 a2 σ = some r) : xC G l mM_X9_line 2 [.ref (xad G 43), .int a1, .int a2] (xM σ) (some (.long r)) (xM σ) := by
  refine xC_of (by decide) rfl (Nat.le_refl _) (Nat.le_of_ble_eq_true rfl) (fun K hC hE hR _ => ?_)
  refine x_iload_n hC dX9_line_0 rfl (j := 1) rfl <| x_callS hC hR dX9_line_1 mK_X9_isShelf wml_X9_179 (C_X9_isShelf (a0 := a1) (σ := σ)) (by omega) rfl (Nat.le_of_ble_eq_true rfl) rfl rfl rfl <| ?_
  refine x_if_eq (tgt := 24) hC dX9_line_4 (by decide) (fun c2 => ?_) (fun c2 => ?_)
  · replace h := (if_pos c2).symm.trans h
    refine x_ldc2 hC dX9_line_24 wconstL_X9_341 <| ?_
    have e1 := Option.some.inj h
    subst e1
    exact x_lret (rest := []) hC hE rfl dX9_line_27
  · replace h := (if_neg c2).symm.trans h
    refine x_iload_n hC dX9_line_7 rfl (j := 2) rfl <| x_iconst (v := (0 : Int32)) hC dX9_line_8 (by decide) <| x_iconst (v := (1 : Int32)) hC dX9_line_9 (by decide) <| x_callS hC hR dX9_line_10 mK_X9_in wml_X9_116 (C_X9_in (a0 := a2) (a1 := (0 : Int32)) (a2 := (1 : Int32)) (σ := σ)) (by omega) rfl (Nat.le_of_ble_eq_true rfl) rfl rfl rfl <| ?_
    refine x_if_eq (tgt := 24) hC dX9_line_13 (by decide) (fun c4 => ?_) (fun c4 => ?_)
    · replace h := (if_pos c4).symm.trans h
      refine x_ldc2 hC dX9_line_24 wconstL_X9_341 <| ?_
      have e1 := Option.some.inj h
      subst e1
      exact x_lret (rest := []) hC hE rfl dX9_line_27
    · replace h := (if_neg c4).symm.trans h
      refine x_aload_n hC dX9_line_16 rfl (j := 0) rfl <| x_iload_n hC dX9_line_17 rfl (j := 1) rfl <| ?_
      obtain ⟨x5, h5, h⟩ := Option.bind_eq_some_iff.mp h
      refine x_callV hC hR dX9_line_18 mK_X9_rowFault wml_X9_299 (C_X9_rowFault (a1 := a1) (σ := σ) h5) (by omega) rfl (by decide) rfl rfl (xlt (by decide)) rfl (Nat.le_of_ble_eq_true rfl) rfl rfl rfl <| ?_
      refine x_if_ge (tgt := 28) hC dX9_line_21 (by decide) (fun c6 => ?_) (fun c6 => ?_)
      · replace h := (if_pos c6).symm.trans h
        refine x_lconst (v := (0 : Int64)) hC dX9_line_28 (by decide) <| x_lstore_n hC dX9_line_29 rfl (by decide) rfl <| x_iconst (v := (0 : Int32)) hC dX9_line_30 (by decide) <| x_istore hC dX9_line_31 (by decide) rfl <| ?_
        refine x_sub [2, 3, 4, 1, 0] rfl ?_
        exact B_X9_line_33 hC hR hE xFU a1 a2 (0 : Int64) (0 : Int32) h
      · replace h := (if_neg c6).symm.trans h
        refine x_ldc2 hC dX9_line_24 wconstL_X9_341 <| ?_
        have e1 := Option.some.inj h
        subst e1
        exact x_lret (rest := []) hC hE rfl dX9_line_27
set_option maxRecDepth 100000 in
set_option maxHeartbeats 4000000 in
theorem C_X9_mostOf {G : xG} {l : Launch} {a0 : Int32} {σ : xS2} : xC G l mM_X9_mostOf 0 [.int a0] (xM σ) (some (.int (J_X9_mostOf a0))) (xM σ) := by
  refine xC_of (by decide) rfl (Nat.le_refl _) (Nat.le_of_ble_eq_true rfl) (fun K hC hE hR _ => ?_)
  obtain ⟨r, h⟩ : ∃ r, J_X9_mostOf a0 = r := ⟨_, rfl⟩
  rw [h] at hE
  refine x_iload_n hC dX9_mostOf_0 rfl (j := 0) rfl <| ?_
  by_cases c1 : a0 = (1 : Int32)
  · replace h := (if_pos c1).symm.trans h
    refine x_tsw (tgt := 36) hC dX9_mostOf_1 (by decide) (by rw [c1]; decide) ?_
    refine x_iconst (v := (1 : Int32)) hC dX9_mostOf_36 (by decide) <| ?_
    subst h
    exact x_iret (rest := []) hC hE rfl dX9_mostOf_37
  · replace h := (if_neg c1).symm.trans h
    by_cases c2 : a0 = (2 : Int32)
    · replace h := (if_pos c2).symm.trans h
      refine x_tsw (tgt := 38) hC dX9_mostOf_1 (by decide) (by rw [c2]; decide) ?_
      refine x_bipush (v := (20 : Int32)) hC dX9_mostOf_38 (by decide) <| ?_
      subst h
      exact x_iret (rest := []) hC hE rfl dX9_mostOf_40
    · replace h := (if_neg c2).symm.trans h
      by_cases c3 : a0 = (4 : Int32)
      · replace h := (if_pos c3).symm.trans h
        refine x_tsw (tgt := 41) hC dX9_mostOf_1 (by decide) (by rw [c3]; decide) ?_
        refine x_bipush (v := (6 : Int32)) hC dX9_mostOf_41 (by decide) <| ?_
        subst h
        exact x_iret (rest := []) hC hE rfl dX9_mostOf_43
      · replace h := (if_neg c3).symm.trans h
        by_cases c4 : a0 = (5 : Int32)
        · replace h := (if_pos c4).symm.trans h
          refine x_tsw (tgt := 44) hC dX9_mostOf_1 (by decide) (by rw [c4]; decide) ?_
          refine x_bipush (v := (12 : Int32)) hC dX9_mostOf_44 (by decide) <| ?_
          subst h
          exact x_iret (rest := []) hC hE rfl dX9_mostOf_46
        · replace h := (if_neg c4).symm.trans h
          refine x_tsw (tgt := 47) hC dX9_mostOf_1 (by decide) ((xTs_else [1, 2, 4, 5] (by decide) (by decide +kernel) (List.forall_mem_cons.mpr ⟨lv_neT c1 (by decide), (List.forall_mem_cons.mpr ⟨lv_neT c2 (by decide), (List.forall_mem_cons.mpr ⟨lv_neT c3 (by decide), (List.forall_mem_cons.mpr ⟨lv_neT c4 (by decide), (fun _ z => absurd z List.not_mem_nil)⟩)⟩)⟩)⟩)).trans (by decide)) ?_
          refine x_bipush (v := (9 : Int32)) hC dX9_mostOf_47 (by decide) <| ?_
          subst h
          exact x_iret (rest := []) hC hE rfl dX9_mostOf_49
set_option maxRecDepth 100000 in
set_option maxHeartbeats 4000000 in
theorem B_X9_mend_20 {G : xG} {l : Launch} {K : xK} {r : Int32} {τ : xS2} (hC : xCX G mM_X9_mend K) (hR : xRd K 3) (hE : xE G K (some (.int r)) (xM τ)) : ∀ (l1 : Int32) (l2 : Int32) (l3 : Int32) (s0 : Int32) (s1 : Bool) (σ : xS2), J_X9_mend_20 l1 l2 l3 s0 s1 σ = some (r, τ) → xV G l mM_X9_mend K 20 [(0, .ref (xad G 43)), (1, .int l1), (2, .int l2), (3, .int l3)] [.int (xb s1), .int s0] (xM σ) := by
  intro l1 l2 l3 s0 s1 σ h
  refine x_iload_n hC dX9_mend_20 rfl (j := 2) rfl <| x_callS hC hR dX9_mend_21 mK_X9_mostOf wml_X9_152 (C_X9_mostOf (a0 := l2) (σ := σ)) (by omega) rfl (Nat.le_of_ble_eq_true rfl) rfl rfl rfl <| x_callS hC hR dX9_mend_24 mK_X9_in wml_X9_116 (C_X9_in (a0 := s0) (a1 := (xb s1)) (a2 := (J_X9_mostOf l2)) (σ := σ)) (by omega) rfl (Nat.le_of_ble_eq_true rfl) rfl rfl rfl <| ?_
  refine x_if_eq (tgt := 40) hC dX9_mend_27 (by decide) (fun c6 => ?_) (fun c6 => ?_)
  · replace h := (if_pos c6).symm.trans h
    refine x_iconst (v := (-1 : Int32)) hC dX9_mend_40 (by decide) <| ?_
    obtain ⟨e1, e2⟩ := xso2 h
    subst e1
    subst e2
    exact x_iret (rest := []) hC hE rfl dX9_mend_41
  · replace h := (if_neg c6).symm.trans h
    refine x_aload_n hC dX9_mend_30 rfl (j := 0) rfl <| x_iload_n hC dX9_mend_31 rfl (j := 2) rfl <| x_iload_n hC dX9_mend_32 rfl (j := 1) rfl <| x_iload_n hC dX9_mend_33 rfl (j := 3) rfl <| ?_
    obtain ⟨x7, h7, h⟩ := Option.bind_eq_some_iff.mp h
    refine x_callV hC hR dX9_mend_34 mK_X9_changes wml_X9_156 (C_X9_changes (a1 := l2) (a2 := l1) (a3 := l3) (σ := σ) h7) (by omega) rfl (by decide) rfl rfl (xlt (by decide)) rfl (Nat.le_of_ble_eq_true rfl) rfl rfl rfl <| ?_
    refine x_goto (tgt := 41) hC dX9_mend_37 (by decide) <| ?_
    obtain ⟨e1, e2⟩ := xso2 h
    subst e1
    subst e2
    exact x_iret (rest := []) hC hE rfl dX9_mend_41
set_option maxRecDepth 100000 in
set_option maxHeartbeats 4000000 in
theorem C_X9_mend {G : xG} {l : Launch} {a1 : Int32} {a2 : Int32} {a3 : Int32} {σ : xS2} {r : Int32} {τ : xS2} (h : J_X9_mend a1 a2 a3 σ = some (r, τ)) : xC G l mM_X9_mend 3 [.ref (xad G 43), .int a1, .int a2, .int a3] (xM σ) (some (.int r)) (xM τ) := by
  refine xC_of (by decide) rfl (Nat.le_refl _) (Nat.le_of_ble_eq_true rfl) (fun K hC hE hR _ => ?_)
  refine x_aload_n hC dX9_mend_0 rfl (j := 0) rfl <| x_iload_n hC dX9_mend_1 rfl (j := 1) rfl <| x_iload_n hC dX9_mend_2 rfl (j := 2) rfl <| x_callV hC hR dX9_mend_3 mK_X9_isThing wml_X9_148 (C_X9_isThing (a1 := a1) (a2 := a2) (σ := σ)) (by omega) rfl (by decide) rfl rfl (xlt (by decide)) rfl (Nat.le_of_ble_eq_true rfl) rfl rfl rfl <| ?_
  refine x_if_eq (tgt := 40) hC dX9_mend_6 (by decide) (fun c2 => ?_) (fun c2 => ?_)
  · replace h := (if_pos c2).symm.trans h
    refine x_iconst (v := (-1 : Int32)) hC dX9_mend_40 (by decide) <| ?_
    obtain ⟨e1, e2⟩ := xso2 h
    subst e1
    subst e2
    exact x_iret (rest := []) hC hE rfl dX9_mend_41
  · replace h := (if_neg c2).symm.trans h
    refine x_iload_n hC dX9_mend_9 rfl (j := 3) rfl <| x_iload_n hC dX9_mend_10 rfl (j := 2) rfl <| x_iconst (v := (4 : Int32)) hC dX9_mend_11 (by decide) <| ?_
    refine x_icmp_ne (tgt := 19) hC dX9_mend_12 (by decide) (fun c3 => ?_) (fun c3 => ?_)
    · replace h := (if_neg c3).symm.trans h
      refine x_iconst (v := (0 : Int32)) hC dX9_mend_19 (by decide) <| ?_
      refine x_sub [0, 1, 2, 3] rfl ?_
      exact B_X9_mend_20 hC hR hE a1 a2 a3 a3 false σ h
    · replace h := (if_pos c3).symm.trans h
      refine x_iconst (v := (1 : Int32)) hC dX9_mend_15 (by decide) <| x_goto (tgt := 20) hC dX9_mend_16 (by decide) <| ?_
      refine x_sub [0, 1, 2, 3] rfl ?_
      exact B_X9_mend_20 hC hR hE a1 a2 a3 a3 true σ h
set_option maxRecDepth 100000 in
set_option maxHeartbeats 4000000 in
theorem B_X9_mostIn_37 {G : xG} {l : Launch} {K : xK} {r : Int32} {σ : xS2} (hC : xCX G mM_X9_mostIn K) (hR : xRd K 0) (hE : xE G K (some (.int r)) (xM σ)) {k4 : Int32 → Int32 → Int32 → xS2 → Option Int32} (hk4 : ∀ (l1 : Int32) (l2 : Int32) (l3 : Int32), k4 l1 l2 l3 σ = some r → xV G l mM_X9_mostIn K 4 [(0, .ref (xad G 43)), (1, .int l1), (2, .int l2), (3, .int l3)] [] (xM σ)) : ∀ (l1 : Int32) (l2 : Int32) (l3 : Int32), J_X9_mostIn_37 k4 l1 l2 l3 σ = some r → xV G l mM_X9_mostIn K 37 [(0, .ref (xad G 43)), (1, .int l1), (2, .int l2), (3, .int l3)] [] (xM σ) := by
  intro l1 l2 l3 h
  refine x_iinc hC dX9_mostIn_37 (j := 3) (v := (l3 + (1 : Int32))) rfl rfl (by decide) rfl <| x_goto (tgt := 4) hC dX9_mostIn_40 (by decide) <| ?_
  refine x_sub [1, 2, 3, 0] rfl ?_
  exact hk4 l1 l2 (l3 + (1 : Int32)) h
set_option maxRecDepth 100000 in
set_option maxHeartbeats 4000000 in
theorem B_X9_mostIn_4 {G : xG} {l : Launch} {K : xK} {r : Int32} {σ : xS2} (hC : xCX G mM_X9_mostIn K) (hR : xRd K 0) (hE : xE G K (some (.int r)) (xM σ)) : ∀ (f : Nat) (l1 : Int32) (l2 : Int32) (l3 : Int32), J_X9_mostIn_4 f l1 l2 l3 σ = some r → xV G l mM_X9_mostIn K 4 [(0, .ref (xad G 43)), (1, .int l1), (2, .int l2), (3, .int l3)] [] (xM σ) := by
  intro f
  induction f with
  | zero => intro l1 l2 l3 h; cases h
  | succ f ih =>
    intro l1 l2 l3 h
    refine x_iload_n hC dX9_mostIn_4 rfl (j := 3) rfl <| x_bipush (v := (10 : Int32)) hC dX9_mostIn_5 (by decide) <| ?_
    refine x_icmp_ge (tgt := 43) hC dX9_mostIn_7 (by decide) (fun c1 => ?_) (fun c1 => ?_)
    · replace h := (if_pos c1).symm.trans h
      refine x_iload_n hC dX9_mostIn_43 rfl (j := 2) rfl <| ?_
      have e1 := Option.some.inj h
      subst e1
      exact x_iret (rest := []) hC hE rfl dX9_mostIn_44
    · replace h := (if_neg c1).symm.trans h
      refine x_aload_n hC dX9_mostIn_10 rfl (j := 0) rfl <| s_getR (q := 63) hC dX9_mostIn_11 wfl_X9_79 rfl (by decide) (by decide) (by decide) (by decide) (by decide) <| x_bipush (v := (10 : Int32)) hC dX9_mostIn_14 (by decide) <| x_iload_n hC dX9_mostIn_16 rfl (j := 1) rfl <| x_imul hC dX9_mostIn_17 <| x_iload_n hC dX9_mostIn_18 rfl (j := 3) rfl <| ?_
      refine x_iadd hC dX9_mostIn_19 <| ?_
      obtain ⟨h2, h⟩ := xgd_some h
      refine s_iald hC dX9_mostIn_20 rfl (by decide) h2 <| ?_
      refine x_iload_n hC dX9_mostIn_21 rfl (j := 2) rfl <| ?_
      refine x_icmp_le (tgt := 37) hC dX9_mostIn_22 (by decide) (fun c3 => ?_) (fun c3 => ?_)
      · replace h := (if_pos c3).symm.trans h
        refine x_sub [0, 1, 2, 3] rfl ?_
        exact B_X9_mostIn_37 hC hR hE ih l1 l2 l3 h
      · replace h := (if_neg c3).symm.trans h
        refine x_aload_n hC dX9_mostIn_25 rfl (j := 0) rfl <| s_getR (q := 63) hC dX9_mostIn_26 wfl_X9_79 rfl (by decide) (by decide) (by decide) (by decide) (by decide) <| x_bipush (v := (10 : Int32)) hC dX9_mostIn_29 (by decide) <| x_iload_n hC dX9_mostIn_31 rfl (j := 1) rfl <| x_imul hC dX9_mostIn_32 <| x_iload_n hC dX9_mostIn_33 rfl (j := 3) rfl <| ?_
        refine x_iadd hC dX9_mostIn_34 <| ?_
        obtain ⟨h4, h⟩ := xgd_some h
        refine s_iald hC dX9_mostIn_35 rfl (by decide) h4 <| ?_
        refine x_istore_n hC dX9_mostIn_36 rfl (by decide) rfl <| ?_
        refine x_sub [1, 2, 0, 3] rfl ?_
        exact B_X9_mostIn_37 hC hR hE ih l1 (σ.1 63 (((10 : Int32) * l1) + l3).toNatClampNeg) l3 h
set_option maxRecDepth 100000 in
set_option maxHeartbeats 4000000 in
theorem C_X9_mostIn {G : xG} {l : Launch} {a1 : Int32} {σ : xS2} {r : Int32} (h : J_X9_mostIn a1 σ = some r) : xC G l mM_X9_mostIn 0 [.ref (xad G 43), .int a1] (xM σ) (some (.int r)) (xM σ) := by
  refine xC_of (by decide) rfl (Nat.le_refl _) (Nat.le_of_ble_eq_true rfl) (fun K hC hE hR _ => ?_)
  refine x_iconst (v := (-1 : Int32)) hC dX9_mostIn_0 (by decide) <| x_istore_n hC dX9_mostIn_1 rfl (by decide) rfl <| x_iconst (v := (0 : Int32)) hC dX9_mostIn_2 (by decide) <| x_istore_n hC dX9_mostIn_3 rfl (by decide) rfl <| ?_
  refine x_sub [2, 3, 1, 0] rfl ?_
  exact B_X9_mostIn_4 hC hR hE xFU a1 (-1 : Int32) (0 : Int32) h
set_option maxRecDepth 100000 in
set_option maxHeartbeats 4000000 in
theorem C_X9_of {G : xG} {l : Launch} {a1 : Int32} {a2 : Int32} {σ : xS2} {r : Int32} (h : J_X9_of a1 a2 σ = some r) : xC G l mM_X9_of 3 [.ref (xad G 43), .int a1, .int a2] (xM σ) (some (.int r)) (xM σ) := by
  refine xC_of (by decide) rfl (Nat.le_refl _) (Nat.le_of_ble_eq_true rfl) (fun K hC hE hR _ => ?_)
  refine x_iload_n hC dX9_of_0 rfl (j := 2) rfl <| x_iconst (v := (0 : Int32)) hC dX9_of_1 (by decide) <| x_iconst (v := (5 : Int32)) hC dX9_of_2 (by decide) <| x_callS hC hR dX9_of_3 mK_X9_in wml_X9_116 (C_X9_in (a0 := a2) (a1 := (0 : Int32)) (a2 := (5 : Int32)) (σ := σ)) (by omega) rfl (Nat.le_of_ble_eq_true rfl) rfl rfl rfl <| ?_
  refine x_if_eq (tgt := 29) hC dX9_of_6 (by decide) (fun c2 => ?_) (fun c2 => ?_)
  · replace h := (if_pos c2).symm.trans h
    refine x_iload_n hC dX9_of_29 rfl (j := 2) rfl <| x_bipush (v := (10 : Int32)) hC dX9_of_30 (by decide) <| x_bipush (v := (11 : Int32)) hC dX9_of_32 (by decide) <| x_callS hC hR dX9_of_34 mK_X9_in wml_X9_116 (C_X9_in (a0 := a2) (a1 := (10 : Int32)) (a2 := (11 : Int32)) (σ := σ)) (by omega) rfl (Nat.le_of_ble_eq_true rfl) rfl rfl rfl <| ?_
    refine x_if_eq (tgt := 85) hC dX9_of_37 (by decide) (fun c4 => ?_) (fun c4 => ?_)
    · replace h := (if_pos c4).symm.trans h
      refine x_iload_n hC dX9_of_85 rfl (j := 1) rfl <| ?_
      refine x_if_eq (tgt := 91) hC dX9_of_86 (by decide) (fun c5 => ?_) (fun c5 => ?_)
      · replace h := (if_pos c5).symm.trans h
        refine x_iload_n hC dX9_of_91 rfl (j := 2) rfl <| ?_
        by_cases c6 : a2 = (20 : Int32)
        · replace h := (if_pos c6).symm.trans h
          refine x_tsw (tgt := 128) hC dX9_of_92 (by decide) (by rw [c6]; decide) ?_
          refine x_aload_n hC dX9_of_128 rfl (j := 0) rfl <| s_getI hC dX9_of_129 wfl_X9_166 rfl (by decide) (by decide) (by decide) (by decide) <| ?_
          have e1 := Option.some.inj h
          subst e1
          exact x_iret (rest := []) hC hE rfl dX9_of_132
        · replace h := (if_neg c6).symm.trans h
          by_cases c7 : a2 = (21 : Int32)
          · replace h := (if_pos c7).symm.trans h
            refine x_tsw (tgt := 133) hC dX9_of_92 (by decide) (by rw [c7]; decide) ?_
            refine x_aload_n hC dX9_of_133 rfl (j := 0) rfl <| s_getI hC dX9_of_134 wfl_X9_169 rfl (by decide) (by decide) (by decide) (by decide) <| ?_
            have e1 := Option.some.inj h
            subst e1
            exact x_iret (rest := []) hC hE rfl dX9_of_137
          · replace h := (if_neg c7).symm.trans h
            by_cases c8 : a2 = (22 : Int32)
            · replace h := (if_pos c8).symm.trans h
              refine x_tsw (tgt := 138) hC dX9_of_92 (by decide) (by rw [c8]; decide) ?_
              refine x_aload_n hC dX9_of_138 rfl (j := 0) rfl <| s_getI hC dX9_of_139 wfl_X9_29 rfl (by decide) (by decide) (by decide) (by decide) <| ?_
              have e1 := Option.some.inj h
              subst e1
              exact x_iret (rest := []) hC hE rfl dX9_of_142
            · replace h := (if_neg c8).symm.trans h
              by_cases c9 : a2 = (23 : Int32)
              · replace h := (if_pos c9).symm.trans h
                refine x_tsw (tgt := 143) hC dX9_of_92 (by decide) (by rw [c9]; decide) ?_
                refine x_aload_n hC dX9_of_143 rfl (j := 0) rfl <| s_getI hC dX9_of_144 wfl_X9_172 rfl (by decide) (by decide) (by decide) (by decide) <| ?_
                have e1 := Option.some.inj h
                subst e1
                exact x_iret (rest := []) hC hE rfl dX9_of_147
              · replace h := (if_neg c9).symm.trans h
                by_cases c10 : a2 = (24 : Int32)
                · replace h := (if_pos c10).symm.trans h
                  refine x_tsw (tgt := 148) hC dX9_of_92 (by decide) (by rw [c10]; decide) ?_
                  refine x_aload_n hC dX9_of_148 rfl (j := 0) rfl <| s_getL hC dX9_of_149 wfl_X9_124 rfl (by decide) (by decide) (by decide) (by decide) <| ?_
                  obtain ⟨x11, h11, h⟩ := Option.bind_eq_some_iff.mp h
                  refine x_callS hC hR dX9_of_152 mK_X9_bitsIn wml_X9_175 (C_X9_bitsIn (a0 := (σ.2 43 11)) (σ := σ) h11) (by omega) rfl (Nat.le_of_ble_eq_true rfl) rfl rfl rfl <| ?_
                  have e1 := Option.some.inj h
                  subst e1
                  exact x_iret (rest := []) hC hE rfl dX9_of_155
                · replace h := (if_neg c10).symm.trans h
                  refine x_tsw (tgt := 156) hC dX9_of_92 (by decide) ((xTs_else [20, 21, 22, 23, 24] (by decide) (by decide +kernel) (List.forall_mem_cons.mpr ⟨lv_neT c6 (by decide), (List.forall_mem_cons.mpr ⟨lv_neT c7 (by decide), (List.forall_mem_cons.mpr ⟨lv_neT c8 (by decide), (List.forall_mem_cons.mpr ⟨lv_neT c9 (by decide), (List.forall_mem_cons.mpr ⟨lv_neT c10 (by decide), (fun _ z => absurd z List.not_mem_nil)⟩)⟩)⟩)⟩)⟩)).trans (by decide)) ?_
                  refine x_iconst (v := (-1 : Int32)) hC dX9_of_156 (by decide) <| ?_
                  have e1 := Option.some.inj h
                  subst e1
                  exact x_iret (rest := []) hC hE rfl dX9_of_157
      · replace h := (if_neg c5).symm.trans h
        refine x_iconst (v := (-1 : Int32)) hC dX9_of_89 (by decide) <| ?_
        have e1 := Option.some.inj h
        subst e1
        exact x_iret (rest := []) hC hE rfl dX9_of_90
    · replace h := (if_neg c4).symm.trans h
      refine x_iload_n hC dX9_of_40 rfl (j := 1) rfl <| x_callS hC hR dX9_of_41 mK_X9_isCell wml_X9_141 (C_X9_isCell (a0 := a1) (σ := σ)) (by omega) rfl (Nat.le_of_ble_eq_true rfl) rfl rfl rfl <| ?_
      refine x_if_ne (tgt := 49) hC dX9_of_44 (by decide) (fun c13 => ?_) (fun c13 => ?_)
      · replace h := (if_neg c13).symm.trans h
        refine x_iload_n hC dX9_of_49 rfl (j := 2) rfl <| x_bipush (v := (10 : Int32)) hC dX9_of_50 (by decide) <| ?_
        refine x_icmp_ne (tgt := 71) hC dX9_of_52 (by decide) (fun c14 => ?_) (fun c14 => ?_)
        · replace h := (if_neg c14).symm.trans h
          refine x_aload_n hC dX9_of_71 rfl (j := 0) rfl <| x_iload_n hC dX9_of_72 rfl (j := 1) rfl <| x_callV hC hR dX9_of_73 mK_X9_isLooked wml_X9_163 (C_X9_isLooked (a1 := a1) (σ := σ)) (by omega) rfl (by decide) rfl rfl (xlt (by decide)) rfl (Nat.le_of_ble_eq_true rfl) rfl rfl rfl <| ?_
          refine x_if_eq (tgt := 83) hC dX9_of_76 (by decide) (fun c16 => ?_) (fun c16 => ?_)
          · replace h := (if_pos c16).symm.trans h
            refine x_iconst (v := (0 : Int32)) hC dX9_of_83 (by decide) <| ?_
            have e1 := Option.some.inj h
            subst e1
            exact x_iret (rest := []) hC hE rfl dX9_of_84
          · replace h := (if_neg c16).symm.trans h
            refine x_iconst (v := (1 : Int32)) hC dX9_of_79 (by decide) <| x_goto (tgt := 84) hC dX9_of_80 (by decide) <| ?_
            have e1 := Option.some.inj h
            subst e1
            exact x_iret (rest := []) hC hE rfl dX9_of_84
        · replace h := (if_pos c14).symm.trans h
          refine x_aload_n hC dX9_of_55 rfl (j := 0) rfl <| x_iload_n hC dX9_of_56 rfl (j := 1) rfl <| ?_
          obtain ⟨x17, h17, h⟩ := Option.bind_eq_some_iff.mp h
          refine x_callV hC hR dX9_of_57 mK_X9_isHollow wml_X9_160 (C_X9_isHollow (a1 := a1) (σ := σ) h17) (by omega) rfl (by decide) rfl rfl (xlt (by decide)) rfl (Nat.le_of_ble_eq_true rfl) rfl rfl rfl <| ?_
          refine x_if_eq (tgt := 67) hC dX9_of_60 (by decide) (fun c18 => ?_) (fun c18 => ?_)
          · replace h := (if_pos c18).symm.trans h
            refine x_iconst (v := (0 : Int32)) hC dX9_of_67 (by decide) <| x_goto (tgt := 84) hC dX9_of_68 (by decide) <| ?_
            have e1 := Option.some.inj h
            subst e1
            exact x_iret (rest := []) hC hE rfl dX9_of_84
          · replace h := (if_neg c18).symm.trans h
            refine x_iconst (v := (1 : Int32)) hC dX9_of_63 (by decide) <| x_goto (tgt := 84) hC dX9_of_64 (by decide) <| ?_
            have e1 := Option.some.inj h
            subst e1
            exact x_iret (rest := []) hC hE rfl dX9_of_84
      · replace h := (if_pos c13).symm.trans h
        refine x_iconst (v := (-1 : Int32)) hC dX9_of_47 (by decide) <| ?_
        have e1 := Option.some.inj h
        subst e1
        exact x_iret (rest := []) hC hE rfl dX9_of_48
  · replace h := (if_neg c2).symm.trans h
    refine x_aload_n hC dX9_of_9 rfl (j := 0) rfl <| x_iload_n hC dX9_of_10 rfl (j := 1) rfl <| x_iload_n hC dX9_of_11 rfl (j := 2) rfl <| x_callV hC hR dX9_of_12 mK_X9_isThing wml_X9_148 (C_X9_isThing (a1 := a1) (a2 := a2) (σ := σ)) (by omega) rfl (by decide) rfl rfl (xlt (by decide)) rfl (Nat.le_of_ble_eq_true rfl) rfl rfl rfl <| ?_
    refine x_if_eq (tgt := 27) hC dX9_of_15 (by decide) (fun c20 => ?_) (fun c20 => ?_)
    · replace h := (if_pos c20).symm.trans h
      refine x_iconst (v := (-1 : Int32)) hC dX9_of_27 (by decide) <| ?_
      have e1 := Option.some.inj h
      subst e1
      exact x_iret (rest := []) hC hE rfl dX9_of_28
    · replace h := (if_neg c20).symm.trans h
      refine x_aload_n hC dX9_of_18 rfl (j := 0) rfl <| x_iload_n hC dX9_of_19 rfl (j := 2) rfl <| x_iload_n hC dX9_of_20 rfl (j := 1) rfl <| ?_
      obtain ⟨x21, h21, h⟩ := Option.bind_eq_some_iff.mp h
      refine x_callV hC hR dX9_of_21 mK_X9_valueAt wml_X9_128 (C_X9_valueAt (a1 := a2) (a2 := a1) (σ := σ) h21) (by omega) rfl (by decide) rfl rfl (xlt (by decide)) rfl (Nat.le_of_ble_eq_true rfl) rfl rfl rfl <| ?_
      refine x_goto (tgt := 28) hC dX9_of_24 (by decide) <| ?_
      have e1 := Option.some.inj h
      subst e1
      exact x_iret (rest := []) hC hE rfl dX9_of_28
set_option maxRecDepth 100000 in
set_option maxHeartbeats 4000000 in
theorem C_X9_order {G : xG} {l : Launch} {σ : xS2} {r : Int32} {τ : xS2} (h : J_X9_order σ = some (r, τ)) : xC G l mM_X9_order 4 [.ref (xad G 43)] (xM σ) (some (.int r)) (xM τ) := by
  refine xC_of (by decide) rfl (Nat.le_refl _) (Nat.le_of_ble_eq_true rfl) (fun K hC hE hR _ => ?_)
  refine x_aload_n hC dX9_order_0 rfl (j := 0) rfl <| s_getI hC dX9_order_1 wfl_X9_166 rfl (by decide) (by decide) (by decide) (by decide) <| x_bipush (v := (60 : Int32)) hC dX9_order_4 (by decide) <| ?_
  refine x_icmp_ne (tgt := 14) hC dX9_order_6 (by decide) (fun c1 => ?_) (fun c1 => ?_)
  · replace h := (if_neg c1).symm.trans h
    refine x_aload_n hC dX9_order_14 rfl (j := 0) rfl <| x_aload_n hC dX9_order_15 rfl (j := 0) rfl <| s_getI hC dX9_order_16 wfl_X9_166 rfl (by decide) (by decide) (by decide) (by decide) <| ?_
    obtain ⟨x2, h2, h⟩ := Option.bind_eq_some_iff.mp h
    refine x_callV hC hR dX9_order_19 mK_X9_orderOf wml_X9_258 (C_X9_orderOf (a1 := (σ.1 43 7)) (σ := σ) h2) (by omega) rfl (by decide) rfl rfl (xlt (by decide)) rfl (Nat.le_of_ble_eq_true rfl) rfl rfl rfl <| ?_
    obtain ⟨e1, e2⟩ := xso2 h
    subst e1
    subst e2
    exact x_iret (rest := []) hC hE rfl dX9_order_22
  · replace h := (if_pos c1).symm.trans h
    refine x_bipush (v := (-5 : Int32)) hC dX9_order_9 (by decide) <| x_goto (tgt := 22) hC dX9_order_11 (by decide) <| ?_
    obtain ⟨e1, e2⟩ := xso2 h
    subst e1
    subst e2
    exact x_iret (rest := []) hC hE rfl dX9_order_22
set_option maxRecDepth 100000 in
set_option maxHeartbeats 4000000 in
theorem B_X9_put_95 {G : xG} {l : Launch} {K : xK} {r : Int32} {τ : xS2} (hC : xCX G mM_X9_put K) (hR : xRd K 3) (hE : xE G K (some (.int r)) (xM τ)) : ∀ (s1 : Int32) (s2 : Int64) (σ : xS2), J_X9_put_95 s1 s2 σ = some (r, τ) → xV G l mM_X9_put K 95 [] [.long s2, .int s1, .ref (xad G 72)] (xM σ) := by
  intro s1 s2 σ h
  obtain ⟨h9, h⟩ := xgd_some h
  refine s_last hC dX9_put_95 rfl (by decide) h9 <| ?_
  refine x_iconst (v := (1 : Int32)) hC dX9_put_96 (by decide) <| ?_
  obtain ⟨e1, e2⟩ := xso2 h
  subst e1
  subst e2
  exact x_iret (rest := []) hC hE rfl dX9_put_97
set_option maxRecDepth 100000 in
set_option maxHeartbeats 4000000 in
theorem C_X9_put {G : xG} {l : Launch} {a1 : Int32} {a2 : Int32} {a3 : Int64} {σ : xS2} {r : Int32} {τ : xS2} (h : J_X9_put a1 a2 a3 σ = some (r, τ)) : xC G l mM_X9_put 3 [.ref (xad G 43), .int a1, .int a2, .long a3] (xM σ) (some (.int r)) (xM τ) := by
  refine xC_of (by decide) rfl (Nat.le_refl _) (Nat.le_of_ble_eq_true rfl) (fun K hC hE hR _ => ?_)
  refine x_aload_n hC dX9_put_0 rfl (j := 0) rfl <| x_iload_n hC dX9_put_1 rfl (j := 1) rfl <| x_iload_n hC dX9_put_2 rfl (j := 2) rfl <| ?_
  obtain ⟨x1, h1, h⟩ := Option.bind_eq_some_iff.mp h
  refine x_callV hC hR dX9_put_3 mK_X9_whyNoPlace wml_X9_427 (C_X9_whyNoPlace (a1 := a1) (a2 := a2) (σ := σ) h1) (by omega) rfl (by decide) rfl rfl (xlt (by decide)) rfl (Nat.le_of_ble_eq_true rfl) rfl rfl rfl <| ?_
  refine x_istore hC dX9_put_6 (by decide) rfl <| x_iload hC dX9_put_8 (j := 0) rfl <| ?_
  refine x_if_ge (tgt := 16) hC dX9_put_10 (by decide) (fun c2 => ?_) (fun c2 => ?_)
  · replace h := (if_pos c2).symm.trans h
    refine x_bipush (v := (-2 : Int32)) hC dX9_put_16 (by decide) <| x_aload_n hC dX9_put_18 rfl (j := 1) rfl <| s_getR (q := 70) hC dX9_put_19 wfl_X9_100 rfl (by decide) (by decide) (by decide) (by decide) (by decide) <| x_iload_n hC dX9_put_22 rfl (j := 2) rfl <| ?_
    obtain ⟨h3, h⟩ := xgd_some h
    refine s_iald hC dX9_put_23 rfl (by decide) h3 <| ?_
    refine x_isub hC dX9_put_24 <| x_istore hC dX9_put_25 (by decide) rfl <| x_aload_n hC dX9_put_27 rfl (j := 2) rfl <| s_getR (q := 72) hC dX9_put_28 wfl_X9_106 rfl (by decide) (by decide) (by decide) (by decide) (by decide) <| x_bipush (v := (60 : Int32)) hC dX9_put_31 (by decide) <| x_iload_n hC dX9_put_33 rfl (j := 3) rfl <| ?_
    refine x_imul hC dX9_put_34 <| x_iload_n hC dX9_put_35 rfl (j := 4) rfl <| x_iadd hC dX9_put_36 <| x_iload hC dX9_put_37 (j := 0) rfl <| ?_
    refine x_if_ne (tgt := 49) hC dX9_put_39 (by decide) (fun c4 => ?_) (fun c4 => ?_)
    · replace h := (if_neg c4).symm.trans h
      refine x_iload hC dX9_put_49 (j := 0) rfl <| x_iconst (v := (1 : Int32)) hC dX9_put_51 (by decide) <| ?_
      refine x_icmp_ne (tgt := 62) hC dX9_put_52 (by decide) (fun c5 => ?_) (fun c5 => ?_)
      · replace h := (if_neg c5).symm.trans h
        refine x_iload hC dX9_put_62 (j := 0) rfl <| x_iconst (v := (2 : Int32)) hC dX9_put_64 (by decide) <| ?_
        refine x_icmp_ne (tgt := 74) hC dX9_put_65 (by decide) (fun c6 => ?_) (fun c6 => ?_)
        · replace h := (if_neg c6).symm.trans h
          refine x_iload hC dX9_put_74 (j := 0) rfl <| x_iconst (v := (3 : Int32)) hC dX9_put_76 (by decide) <| ?_
          refine x_icmp_ne (tgt := 84) hC dX9_put_77 (by decide) (fun c7 => ?_) (fun c7 => ?_)
          · replace h := (if_neg c7).symm.trans h
            refine x_lload_n hC dX9_put_84 rfl (j := 5) rfl <| x_lconst (v := (0 : Int64)) hC dX9_put_85 (by decide) <| x_lcmp hC dX9_put_86 <| ?_
            refine x_if_eq (tgt := 94) hC dX9_put_87 (by decide) (fun c8 => ?_) (fun c8 => ?_)
            · replace h := (if_pos c8).symm.trans h
              refine x_lconst (v := (0 : Int64)) hC dX9_put_94 (by decide) <| ?_
              refine x_sub [] rfl ?_
              exact B_X9_put_95 hC hR hE (((60 : Int32) * a1) + a2) (0 : Int64) σ h
            · replace h := (if_neg c8).symm.trans h
              refine x_lconst (v := (1 : Int64)) hC dX9_put_90 (by decide) <| x_goto (tgt := 95) hC dX9_put_91 (by decide) <| ?_
              refine x_sub [] rfl ?_
              exact B_X9_put_95 hC hR hE (((60 : Int32) * a1) + a2) (1 : Int64) σ h
          · replace h := (if_pos c7).symm.trans h
            refine x_lload_n hC dX9_put_80 rfl (j := 5) rfl <| x_goto (tgt := 95) hC dX9_put_81 (by decide) <| ?_
            refine x_sub [] rfl ?_
            exact B_X9_put_95 hC hR hE (((60 : Int32) * a1) + a2) a3 σ h
        · replace h := (if_pos c6).symm.trans h
          refine x_lload_n hC dX9_put_68 rfl (j := 5) rfl <| x_l2i (v := (a3.toInt32)) hC dX9_put_69 rfl <| x_i2l (v := ((a3.toInt32).toInt64)) hC dX9_put_70 rfl <| x_goto (tgt := 95) hC dX9_put_71 (by decide) <| ?_
          refine x_sub [] rfl ?_
          exact B_X9_put_95 hC hR hE (((60 : Int32) * a1) + a2) ((a3.toInt32).toInt64) σ h
      · replace h := (if_pos c5).symm.trans h
        refine x_lload_n hC dX9_put_55 rfl (j := 5) rfl <| x_l2i (v := (a3.toInt32)) hC dX9_put_56 rfl <| x_i2s (v := ((a3.toInt32).toInt16.toInt32)) hC dX9_put_57 rfl <| x_i2l (v := (((a3.toInt32).toInt16.toInt32).toInt64)) hC dX9_put_58 rfl <| x_goto (tgt := 95) hC dX9_put_59 (by decide) <| ?_
        refine x_sub [] rfl ?_
        exact B_X9_put_95 hC hR hE (((60 : Int32) * a1) + a2) (((a3.toInt32).toInt16.toInt32).toInt64) σ h
    · replace h := (if_pos c4).symm.trans h
      refine x_lload_n hC dX9_put_42 rfl (j := 5) rfl <| x_l2i (v := (a3.toInt32)) hC dX9_put_43 rfl <| x_i2b (v := ((a3.toInt32).toInt8.toInt32)) hC dX9_put_44 rfl <| x_i2l (v := (((a3.toInt32).toInt8.toInt32).toInt64)) hC dX9_put_45 rfl <| x_goto (tgt := 95) hC dX9_put_46 (by decide) <| ?_
      refine x_sub [] rfl ?_
      exact B_X9_put_95 hC hR hE (((60 : Int32) * a1) + a2) (((a3.toInt32).toInt8.toInt32).toInt64) σ h
  · replace h := (if_neg c2).symm.trans h
    refine x_iload hC dX9_put_13 (j := 0) rfl <| ?_
    obtain ⟨e1, e2⟩ := xso2 h
    subst e1
    subst e2
    exact x_iret (rest := []) hC hE rfl dX9_put_15
set_option maxRecDepth 100000 in
set_option maxHeartbeats 4000000 in
theorem C_X9_redo {G : xG} {l : Launch} {σ : xS2} {r : Int32} {τ : xS2} (h : J_X9_redo σ = some (r, τ)) : xC G l mM_X9_redo 1 [.ref (xad G 43)] (xM σ) (some (.int r)) (xM τ) := by
  refine xC_of (by decide) rfl (Nat.le_refl _) (Nat.le_of_ble_eq_true rfl) (fun K hC hE hR _ => ?_)
  refine x_aload_n hC dX9_redo_0 rfl (j := 0) rfl <| s_getI hC dX9_redo_1 wfl_X9_131 rfl (by decide) (by decide) (by decide) (by decide) <| ?_
  refine x_if_ne (tgt := 10) hC dX9_redo_4 (by decide) (fun c1 => ?_) (fun c1 => ?_)
  · replace h := (if_neg c1).symm.trans h
    refine x_aload_n hC dX9_redo_10 rfl (j := 0) rfl <| x_aload_n hC dX9_redo_11 rfl (j := 0) rfl <| s_getR (q := 50) hC dX9_redo_12 wfl_X9_38 rfl (by decide) (by decide) (by decide) (by decide) (by decide) <| x_aload_n hC dX9_redo_15 rfl (j := 0) rfl <| s_getI hC dX9_redo_16 wfl_X9_134 rfl (by decide) (by decide) (by decide) (by decide) <| ?_
    obtain ⟨h2, h⟩ := xgd_some h
    refine s_iald hC dX9_redo_19 rfl (by decide) h2 <| ?_
    refine x_aload_n hC dX9_redo_20 rfl (j := 0) rfl <| s_getR (q := 51) hC dX9_redo_21 wfl_X9_41 rfl (by decide) (by decide) (by decide) (by decide) (by decide) <| x_aload_n hC dX9_redo_24 rfl (j := 0) rfl <| s_getI hC dX9_redo_25 wfl_X9_134 rfl (by decide) (by decide) (by decide) (by decide) <| ?_
    obtain ⟨h3, h⟩ := xgd_some h
    refine s_iald hC dX9_redo_28 rfl (by decide) h3 <| ?_
    refine x_aload_n hC dX9_redo_29 rfl (j := 0) rfl <| s_getR (q := 53) hC dX9_redo_30 wfl_X9_47 rfl (by decide) (by decide) (by decide) (by decide) (by decide) <| x_aload_n hC dX9_redo_33 rfl (j := 0) rfl <| s_getI hC dX9_redo_34 wfl_X9_134 rfl (by decide) (by decide) (by decide) (by decide) <| ?_
    obtain ⟨h4, h⟩ := xgd_some h
    refine s_iald hC dX9_redo_37 rfl (by decide) h4 <| ?_
    obtain ⟨x5, h5, h⟩ := Option.bind_eq_some_iff.mp h
    refine x_callV hC hR dX9_redo_38 mK_X9_lays wml_X9_137 (C_X9_lays (a1 := (σ.1 50 (σ.1 43 14).toNatClampNeg)) (a2 := (σ.1 51 (σ.1 43 14).toNatClampNeg)) (a3 := (σ.1 53 (σ.1 43 14).toNatClampNeg)) (σ := σ) h5) (by omega) rfl (by decide) rfl rfl (xlt (by decide)) rfl (Nat.le_of_ble_eq_true rfl) rfl rfl rfl <| ?_
    refine x_aload_n hC dX9_redo_41 rfl (j := 0) rfl <| x_dup hC dX9_redo_42 rfl <| s_getI hC dX9_redo_43 wfl_X9_134 rfl (by decide) (by decide) (by decide) (by decide) <| x_iconst (v := (1 : Int32)) hC dX9_redo_46 (by decide) <| x_iadd hC dX9_redo_47 <| s_putI hC dX9_redo_48 wfl_X9_134 rfl (by decide) (by decide) (by decide) (by decide) (by decide) <| ?_
    refine x_aload_n hC dX9_redo_51 rfl (j := 0) rfl <| x_dup hC dX9_redo_52 rfl <| s_getI hC dX9_redo_53 wfl_X9_131 rfl (by decide) (by decide) (by decide) (by decide) <| x_iconst (v := (1 : Int32)) hC dX9_redo_56 (by decide) <| x_isub hC dX9_redo_57 <| s_putI hC dX9_redo_58 wfl_X9_131 rfl (by decide) (by decide) (by decide) (by decide) (by decide) <| ?_
    refine x_aload_n hC dX9_redo_61 rfl (j := 0) rfl <| s_getI hC dX9_redo_62 wfl_X9_131 rfl (by decide) (by decide) (by decide) (by decide) <| ?_
    obtain ⟨e1, e2⟩ := xso2 h
    subst e1
    subst e2
    exact x_iret (rest := []) hC hE rfl dX9_redo_65
  · replace h := (if_pos c1).symm.trans h
    refine x_bipush (v := (-5 : Int32)) hC dX9_redo_7 (by decide) <| ?_
    obtain ⟨e1, e2⟩ := xso2 h
    subst e1
    subst e2
    exact x_iret (rest := []) hC hE rfl dX9_redo_9
set_option maxRecDepth 100000 in
set_option maxHeartbeats 4000000 in
theorem B_X9_toNorth_34 {G : xG} {l : Launch} {K : xK} {r : Int32} {τ : xS2} (hC : xCX G mM_X9_toNorth K) (hR : xRd K 3) (hE : xE G K (some (.int r)) (xM τ)) {k6 : Int32 → Int32 → Int32 → xS2 → Option (Int32 × xS2)} (hk6 : ∀ (l1 : Int32) (l2 : Int32) (l3 : Int32) (σ : xS2), k6 l1 l2 l3 σ = some (r, τ) → xV G l mM_X9_toNorth K 6 [(0, .ref (xad G 43)), (1, .int l1), (2, .int l2), (3, .int l3)] [] (xM σ)) : ∀ (l1 : Int32) (l2 : Int32) (l3 : Int32) (σ : xS2), J_X9_toNorth_34 k6 l1 l2 l3 σ = some (r, τ) → xV G l mM_X9_toNorth K 34 [(0, .ref (xad G 43)), (1, .int l1), (2, .int l2), (3, .int l3)] [] (xM σ) := by
  intro l1 l2 l3 σ h
  refine x_iinc hC dX9_toNorth_34 (j := 3) (v := (l3 + (1 : Int32))) rfl rfl (by decide) rfl <| x_goto (tgt := 6) hC dX9_toNorth_37 (by decide) <| ?_
  refine x_sub [1, 2, 3, 0] rfl ?_
  exact hk6 l1 l2 (l3 + (1 : Int32)) σ h
set_option maxRecDepth 100000 in
set_option maxHeartbeats 4000000 in
theorem B_X9_toNorth_6 {G : xG} {l : Launch} {K : xK} {r : Int32} {τ : xS2} (hC : xCX G mM_X9_toNorth K) (hR : xRd K 3) (hE : xE G K (some (.int r)) (xM τ)) : ∀ (f : Nat) (l1 : Int32) (l2 : Int32) (l3 : Int32) (σ : xS2), J_X9_toNorth_6 f l1 l2 l3 σ = some (r, τ) → xV G l mM_X9_toNorth K 6 [(0, .ref (xad G 43)), (1, .int l1), (2, .int l2), (3, .int l3)] [] (xM σ) := by
  intro f
  induction f with
  | zero => intro l1 l2 l3 σ h; cases h
  | succ f ih =>
    intro l1 l2 l3 σ h
    refine x_iload_n hC dX9_toNorth_6 rfl (j := 3) rfl <| x_bipush (v := (6 : Int32)) hC dX9_toNorth_7 (by decide) <| ?_
    refine x_icmp_ge (tgt := 40) hC dX9_toNorth_9 (by decide) (fun c1 => ?_) (fun c1 => ?_)
    · replace h := (if_pos c1).symm.trans h
      refine x_iload_n hC dX9_toNorth_40 rfl (j := 2) rfl <| ?_
      obtain ⟨e1, e2⟩ := xso2 h
      subst e1
      subst e2
      exact x_iret (rest := []) hC hE rfl dX9_toNorth_41
    · replace h := (if_neg c1).symm.trans h
      refine x_aload_n hC dX9_toNorth_12 rfl (j := 0) rfl <| x_iload_n hC dX9_toNorth_13 rfl (j := 3) rfl <| ?_
      obtain ⟨x2, h2, h⟩ := Option.bind_eq_some_iff.mp h
      refine x_callV hC hR dX9_toNorth_14 mK_X9_findFar wml_X9_312 (C_X9_findFar (a1 := l3) (σ := σ) h2) (by omega) rfl (by decide) rfl rfl (xlt (by decide)) rfl (Nat.le_of_ble_eq_true rfl) rfl rfl rfl <| ?_
      refine x_aload_n hC dX9_toNorth_17 rfl (j := 0) rfl <| s_getR (q := 62) hC dX9_toNorth_18 wfl_X9_76 rfl (by decide) (by decide) (by decide) (by decide) (by decide) <| x_iload_n hC dX9_toNorth_21 rfl (j := 1) rfl <| ?_
      obtain ⟨h3, h⟩ := xgd_some h
      refine s_iald hC dX9_toNorth_22 rfl (by decide) h3 <| ?_
      refine x_iload_n hC dX9_toNorth_23 rfl (j := 2) rfl <| ?_
      refine x_icmp_ge (tgt := 34) hC dX9_toNorth_24 (by decide) (fun c4 => ?_) (fun c4 => ?_)
      · replace h := (if_pos c4).symm.trans h
        refine x_sub [0, 1, 2, 3] rfl ?_
        exact B_X9_toNorth_34 hC hR hE ih l1 l2 l3 x2 h
      · replace h := (if_neg c4).symm.trans h
        refine x_aload_n hC dX9_toNorth_27 rfl (j := 0) rfl <| s_getR (q := 62) hC dX9_toNorth_28 wfl_X9_76 rfl (by decide) (by decide) (by decide) (by decide) (by decide) <| x_iload_n hC dX9_toNorth_31 rfl (j := 1) rfl <| ?_
        obtain ⟨h5, h⟩ := xgd_some h
        refine s_iald hC dX9_toNorth_32 rfl (by decide) h5 <| ?_
        refine x_istore_n hC dX9_toNorth_33 rfl (by decide) rfl <| ?_
        refine x_sub [1, 2, 0, 3] rfl ?_
        exact B_X9_toNorth_34 hC hR hE ih l1 (x2.1 62 l1.toNatClampNeg) l3 x2 h
set_option maxRecDepth 100000 in
set_option maxHeartbeats 4000000 in
theorem C_X9_toNorth {G : xG} {l : Launch} {a1 : Int32} {σ : xS2} {r : Int32} {τ : xS2} (h : J_X9_toNorth a1 σ = some (r, τ)) : xC G l mM_X9_toNorth 3 [.ref (xad G 43), .int a1] (xM σ) (some (.int r)) (xM τ) := by
  refine xC_of (by decide) rfl (Nat.le_refl _) (Nat.le_of_ble_eq_true rfl) (fun K hC hE hR _ => ?_)
  refine x_ldcw hC dX9_toNorth_0 wconst_X9_311 <| x_istore_n hC dX9_toNorth_3 rfl (by decide) rfl <| x_iconst (v := (0 : Int32)) hC dX9_toNorth_4 (by decide) <| x_istore_n hC dX9_toNorth_5 rfl (by decide) rfl <| ?_
  refine x_sub [2, 3, 1, 0] rfl ?_
  exact B_X9_toNorth_6 hC hR hE xFU a1 (1000000 : Int32) (0 : Int32) σ h
set_option maxRecDepth 100000 in
set_option maxHeartbeats 4000000 in
theorem B_X9_round_168 {G : xG} {l : Launch} {K : xK} {r : Int32} {τ : xS2} (hC : xCX G mM_X9_round K) (hR : xRd K 102) (hE : xE G K (some (.int r)) (xM τ)) : ∀ (f : Nat) (l1 : Int32) (l2 : Int32) (l3 : Int32) (σ : xS2), J_X9_round_168 f l1 l2 l3 σ = some (r, τ) → xV G l mM_X9_round K 168 [(0, .ref (xad G 43)), (1, .int l1), (2, .int l2), (3, .int l3)] [] (xM σ) := by
  intro f
  induction f with
  | zero => intro l1 l2 l3 σ h; cases h
  | succ f ih =>
    intro l1 l2 l3 σ h
    refine x_iload_n hC dX9_round_168 rfl (j := 3) rfl <| x_iload_n hC dX9_round_169 rfl (j := 2) rfl <| ?_
    refine x_icmp_ge (tgt := 195) hC dX9_round_170 (by decide) (fun c6 => ?_) (fun c6 => ?_)
    · replace h := (if_pos c6).symm.trans h
      refine x_aload_n hC dX9_round_195 rfl (j := 0) rfl <| x_ldcw hC dX9_round_196 wconst_X9_311 <| s_putI hC dX9_round_199 wfl_X9_326 rfl (by decide) (by decide) (by decide) (by decide) (by decide) <| x_aload_n hC dX9_round_202 rfl (j := 0) rfl <| x_bipush (v := (36 : Int32)) hC dX9_round_203 (by decide) <| s_putI hC dX9_round_205 wfl_X9_329 rfl (by decide) (by decide) (by decide) (by decide) (by decide) <| ?_
      refine x_aload_n hC dX9_round_208 rfl (j := 0) rfl <| x_iload_n hC dX9_round_209 rfl (j := 2) rfl <| x_iconst (v := (0 : Int32)) hC dX9_round_210 (by decide) <| x_iconst (v := (-1 : Int32)) hC dX9_round_211 (by decide) <| x_iconst (v := (0 : Int32)) hC dX9_round_212 (by decide) <| x_iconst (v := (-1 : Int32)) hC dX9_round_213 (by decide) <| ?_
      obtain ⟨x7, h7, h⟩ := Option.bind_eq_some_iff.mp h
      refine x_callV hC hR dX9_round_214 mK_X9_goRound wml_X9_332 (C_X9_goRound (a1 := l2) (a2 := (0 : Int32)) (a3 := (-1 : Int32)) (a4 := (0 : Int32)) (a5 := (-1 : Int32)) (σ := (yI (yI σ 43 44 (1000000 : Int32)) 43 45 (36 : Int32))) h7) (by omega) rfl (by decide) rfl rfl (xlt (by decide)) rfl (Nat.le_of_ble_eq_true rfl) rfl rfl rfl <| ?_
      refine x_iload_n hC dX9_round_217 rfl (j := 1) rfl <| ?_
      refine x_if_ne (tgt := 228) hC dX9_round_218 (by decide) (fun c8 => ?_) (fun c8 => ?_)
      · replace h := (if_neg c8).symm.trans h
        refine x_aload_n hC dX9_round_228 rfl (j := 0) rfl <| s_getI hC dX9_round_229 wfl_X9_329 rfl (by decide) (by decide) (by decide) (by decide) <| ?_
        obtain ⟨e1, e2⟩ := xso2 h
        subst e1
        subst e2
        exact x_iret (rest := []) hC hE rfl dX9_round_232
      · replace h := (if_pos c8).symm.trans h
        refine x_aload_n hC dX9_round_221 rfl (j := 0) rfl <| s_getI hC dX9_round_222 wfl_X9_326 rfl (by decide) (by decide) (by decide) (by decide) <| x_goto (tgt := 232) hC dX9_round_225 (by decide) <| ?_
        obtain ⟨e1, e2⟩ := xso2 h
        subst e1
        subst e2
        exact x_iret (rest := []) hC hE rfl dX9_round_232
    · replace h := (if_neg c6).symm.trans h
      refine x_aload_n hC dX9_round_173 rfl (j := 0) rfl <| s_getR (q := 67) hC dX9_round_174 wfl_X9_91 rfl (by decide) (by decide) (by decide) (by decide) (by decide) <| x_iload_n hC dX9_round_177 rfl (j := 3) rfl <| x_aload_n hC dX9_round_178 rfl (j := 0) rfl <| x_aload_n hC dX9_round_179 rfl (j := 0) rfl <| s_getR (q := 65) hC dX9_round_180 wfl_X9_85 rfl (by decide) (by decide) (by decide) (by decide) (by decide) <| ?_
      refine x_iload_n hC dX9_round_183 rfl (j := 3) rfl <| ?_
      obtain ⟨h9, h⟩ := xgd_some h
      refine s_iald hC dX9_round_184 rfl (by decide) h9 <| ?_
      obtain ⟨x10, h10, h⟩ := Option.bind_eq_some_iff.mp h
      refine x_callV hC hR dX9_round_185 mK_X9_toNorth wml_X9_336 (C_X9_toNorth (a1 := (σ.1 65 l3.toNatClampNeg)) (σ := σ) h10) (by omega) rfl (by decide) rfl rfl (xlt (by decide)) rfl (Nat.le_of_ble_eq_true rfl) rfl rfl rfl <| ?_
      obtain ⟨h11, h⟩ := xgd_some h
      refine s_iast hC dX9_round_188 rfl (by decide) h11 <| ?_
      refine x_iinc hC dX9_round_189 (j := 3) (v := (l3 + (1 : Int32))) rfl rfl (by decide) rfl <| x_goto (tgt := 168) hC dX9_round_192 (by decide) <| ?_
      refine x_sub [1, 2, 3, 0] rfl ?_
      exact ih l1 l2 (l3 + (1 : Int32)) (yI x10.2 67 l3.toNatClampNeg x10.1) h
set_option maxRecDepth 100000 in
set_option maxHeartbeats 4000000 in
theorem B_X9_round_107 {G : xG} {l : Launch} {K : xK} {r : Int32} {τ : xS2} (hC : xCX G mM_X9_round K) (hR : xRd K 102) (hE : xE G K (some (.int r)) (xM τ)) {k89 : Int32 → Int32 → Int32 → xS2 → Option (Int32 × xS2)} (hk89 : ∀ (l1 : Int32) (l2 : Int32) (l3 : Int32) (σ : xS2), k89 l1 l2 l3 σ = some (r, τ) → xV G l mM_X9_round K 89 [(0, .ref (xad G 43)), (1, .int l1), (2, .int l2), (3, .int l3)] [] (xM σ)) : ∀ (f : Nat) (l1 : Int32) (l2 : Int32) (l3 : Int32) (l4 : Int32) (σ : xS2), J_X9_round_107 k89 f l1 l2 l3 l4 σ = some (r, τ) → xV G l mM_X9_round K 107 [(0, .ref (xad G 43)), (1, .int l1), (2, .int l2), (3, .int l3), (4, .int l4)] [] (xM σ) := by
  intro f
  induction f with
  | zero => intro l1 l2 l3 l4 σ h; cases h
  | succ f ih =>
    intro l1 l2 l3 l4 σ h
    refine x_iload hC dX9_round_107 (j := 4) rfl <| x_iload_n hC dX9_round_109 rfl (j := 2) rfl <| ?_
    refine x_icmp_ge (tgt := 142) hC dX9_round_110 (by decide) (fun c14 => ?_) (fun c14 => ?_)
    · replace h := (if_pos c14).symm.trans h
      refine x_aload_n hC dX9_round_142 rfl (j := 0) rfl <| s_getR (q := 66) hC dX9_round_143 wfl_X9_88 rfl (by decide) (by decide) (by decide) (by decide) (by decide) <| x_bipush (v := (25 : Int32)) hC dX9_round_146 (by decide) <| x_iload_n hC dX9_round_148 rfl (j := 3) rfl <| x_iadd hC dX9_round_149 <| x_aload_n hC dX9_round_150 rfl (j := 0) rfl <| ?_
      refine s_getR (q := 62) hC dX9_round_151 wfl_X9_76 rfl (by decide) (by decide) (by decide) (by decide) (by decide) <| x_aload_n hC dX9_round_154 rfl (j := 0) rfl <| s_getI hC dX9_round_155 wfl_X9_169 rfl (by decide) (by decide) (by decide) (by decide) <| ?_
      obtain ⟨h15, h⟩ := xgd_some h
      refine s_iald hC dX9_round_158 rfl (by decide) h15 <| ?_
      obtain ⟨h16, h⟩ := xgd_some h
      refine s_iast hC dX9_round_159 rfl (by decide) h16 <| ?_
      refine x_iinc hC dX9_round_160 (j := 3) (v := (l3 + (1 : Int32))) rfl rfl (by decide) rfl <| x_goto (tgt := 89) hC dX9_round_163 (by decide) <| ?_
      refine x_sub [1, 2, 3, 0] rfl ?_
      exact hk89 l1 l2 (l3 + (1 : Int32)) (yI σ 66 ((25 : Int32) + l3).toNatClampNeg (σ.1 62 (σ.1 43 8).toNatClampNeg)) h
    · replace h := (if_neg c14).symm.trans h
      refine x_aload_n hC dX9_round_113 rfl (j := 0) rfl <| s_getR (q := 66) hC dX9_round_114 wfl_X9_88 rfl (by decide) (by decide) (by decide) (by decide) (by decide) <| x_iconst (v := (5 : Int32)) hC dX9_round_117 (by decide) <| x_iload hC dX9_round_118 (j := 4) rfl <| x_imul hC dX9_round_120 <| x_iload_n hC dX9_round_121 rfl (j := 3) rfl <| ?_
      refine x_iadd hC dX9_round_122 <| x_aload_n hC dX9_round_123 rfl (j := 0) rfl <| s_getR (q := 62) hC dX9_round_124 wfl_X9_76 rfl (by decide) (by decide) (by decide) (by decide) (by decide) <| x_aload_n hC dX9_round_127 rfl (j := 0) rfl <| s_getR (q := 65) hC dX9_round_128 wfl_X9_85 rfl (by decide) (by decide) (by decide) (by decide) (by decide) <| x_iload hC dX9_round_131 (j := 4) rfl <| ?_
      obtain ⟨h17, h⟩ := xgd_some h
      refine s_iald hC dX9_round_133 rfl (by decide) h17 <| ?_
      obtain ⟨h18, h⟩ := xgd_some h
      refine s_iald hC dX9_round_134 rfl (by decide) h18 <| ?_
      obtain ⟨h19, h⟩ := xgd_some h
      refine s_iast hC dX9_round_135 rfl (by decide) h19 <| ?_
      refine x_iinc hC dX9_round_136 (j := 4) (v := (l4 + (1 : Int32))) rfl rfl (by decide) rfl <| x_goto (tgt := 107) hC dX9_round_139 (by decide) <| ?_
      refine x_sub [1, 2, 3, 4, 0] rfl ?_
      exact ih l1 l2 l3 (l4 + (1 : Int32)) (yI σ 66 (((5 : Int32) * l4) + l3).toNatClampNeg (σ.1 62 (σ.1 65 l4.toNatClampNeg).toNatClampNeg)) h
set_option maxRecDepth 100000 in
set_option maxHeartbeats 4000000 in
theorem B_X9_round_89 {G : xG} {l : Launch} {K : xK} {r : Int32} {τ : xS2} (hC : xCX G mM_X9_round K) (hR : xRd K 102) (hE : xE G K (some (.int r)) (xM τ)) : ∀ (f : Nat) (l1 : Int32) (l2 : Int32) (l3 : Int32) (σ : xS2), J_X9_round_89 f l1 l2 l3 σ = some (r, τ) → xV G l mM_X9_round K 89 [(0, .ref (xad G 43)), (1, .int l1), (2, .int l2), (3, .int l3)] [] (xM σ) := by
  intro f
  induction f with
  | zero => intro l1 l2 l3 σ h; cases h
  | succ f ih =>
    intro l1 l2 l3 σ h
    refine x_iload_n hC dX9_round_89 rfl (j := 3) rfl <| x_iload_n hC dX9_round_90 rfl (j := 2) rfl <| ?_
    refine x_icmp_ge (tgt := 166) hC dX9_round_91 (by decide) (fun c5 => ?_) (fun c5 => ?_)
    · replace h := (if_pos c5).symm.trans h
      refine x_iconst (v := (0 : Int32)) hC dX9_round_166 (by decide) <| x_istore_n hC dX9_round_167 rfl (by decide) rfl <| ?_
      refine x_sub [1, 2, 3, 0] rfl ?_
      exact B_X9_round_168 hC hR hE xFU l1 l2 (0 : Int32) σ h
    · replace h := (if_neg c5).symm.trans h
      refine x_aload_n hC dX9_round_94 rfl (j := 0) rfl <| x_aload_n hC dX9_round_95 rfl (j := 0) rfl <| s_getR (q := 65) hC dX9_round_96 wfl_X9_85 rfl (by decide) (by decide) (by decide) (by decide) (by decide) <| x_iload_n hC dX9_round_99 rfl (j := 3) rfl <| ?_
      obtain ⟨h12, h⟩ := xgd_some h
      refine s_iald hC dX9_round_100 rfl (by decide) h12 <| ?_
      obtain ⟨x13, h13, h⟩ := Option.bind_eq_some_iff.mp h
      refine x_callV hC hR dX9_round_101 mK_X9_findFar wml_X9_312 (C_X9_findFar (a1 := (σ.1 65 l3.toNatClampNeg)) (σ := σ) h13) (by omega) rfl (by decide) rfl rfl (xlt (by decide)) rfl (Nat.le_of_ble_eq_true rfl) rfl rfl rfl <| ?_
      refine x_iconst (v := (0 : Int32)) hC dX9_round_104 (by decide) <| x_istore hC dX9_round_105 (by decide) rfl <| ?_
      refine x_sub [1, 2, 3, 4, 0] rfl ?_
      exact B_X9_round_107 hC hR hE ih xFU l1 l2 l3 (0 : Int32) x13 h
set_option maxRecDepth 100000 in
set_option maxHeartbeats 4000000 in
theorem B_X9_round_59 {G : xG} {l : Launch} {K : xK} {r : Int32} {τ : xS2} (hC : xCX G mM_X9_round K) (hR : xRd K 102) (hE : xE G K (some (.int r)) (xM τ)) {k15 : Int32 → Int32 → Int32 → xS2 → Option (Int32 × xS2)} (hk15 : ∀ (l1 : Int32) (l2 : Int32) (l3 : Int32) (σ : xS2), k15 l1 l2 l3 σ = some (r, τ) → xV G l mM_X9_round K 15 [(0, .ref (xad G 43)), (1, .int l1), (2, .int l2), (3, .int l3)] [] (xM σ)) : ∀ (l1 : Int32) (l2 : Int32) (l3 : Int32) (σ : xS2), J_X9_round_59 k15 l1 l2 l3 σ = some (r, τ) → xV G l mM_X9_round K 59 [(0, .ref (xad G 43)), (1, .int l1), (2, .int l2), (3, .int l3)] [] (xM σ) := by
  intro l1 l2 l3 σ h
  refine x_iinc hC dX9_round_59 (j := 3) (v := (l3 + (1 : Int32))) rfl rfl (by decide) rfl <| x_goto (tgt := 15) hC dX9_round_62 (by decide) <| ?_
  refine x_sub [1, 2, 3, 0] rfl ?_
  exact hk15 l1 l2 (l3 + (1 : Int32)) σ h
set_option maxRecDepth 100000 in
set_option maxHeartbeats 4000000 in
theorem B_X9_round_15 {G : xG} {l : Launch} {K : xK} {r : Int32} {τ : xS2} (hC : xCX G mM_X9_round K) (hR : xRd K 102) (hE : xE G K (some (.int r)) (xM τ)) : ∀ (f : Nat) (l1 : Int32) (l2 : Int32) (l3 : Int32) (σ : xS2), J_X9_round_15 f l1 l2 l3 σ = some (r, τ) → xV G l mM_X9_round K 15 [(0, .ref (xad G 43)), (1, .int l1), (2, .int l2), (3, .int l3)] [] (xM σ) := by
  intro f
  induction f with
  | zero => intro l1 l2 l3 σ h; cases h
  | succ f ih =>
    intro l1 l2 l3 σ h
    refine x_iload_n hC dX9_round_15 rfl (j := 3) rfl <| x_bipush (v := (36 : Int32)) hC dX9_round_16 (by decide) <| ?_
    refine x_icmp_ge (tgt := 65) hC dX9_round_18 (by decide) (fun c3 => ?_) (fun c3 => ?_)
    · replace h := (if_pos c3).symm.trans h
      refine x_iload_n hC dX9_round_65 rfl (j := 2) rfl <| ?_
      refine x_if_ne (tgt := 87) hC dX9_round_66 (by decide) (fun c4 => ?_) (fun c4 => ?_)
      · replace h := (if_neg c4).symm.trans h
        refine x_iconst (v := (0 : Int32)) hC dX9_round_87 (by decide) <| x_istore_n hC dX9_round_88 rfl (by decide) rfl <| ?_
        refine x_sub [1, 2, 3, 0] rfl ?_
        exact B_X9_round_89 hC hR hE xFU l1 l2 (0 : Int32) σ h
      · replace h := (if_pos c4).symm.trans h
        refine x_iload_n hC dX9_round_69 rfl (j := 1) rfl <| ?_
        refine x_if_ne (tgt := 84) hC dX9_round_70 (by decide) (fun c20 => ?_) (fun c20 => ?_)
        · replace h := (if_neg c20).symm.trans h
          refine x_bipush (v := (-2 : Int32)) hC dX9_round_84 (by decide) <| ?_
          obtain ⟨e1, e2⟩ := xso2 h
          subst e1
          subst e2
          exact x_iret (rest := []) hC hE rfl dX9_round_86
        · replace h := (if_pos c20).symm.trans h
          refine x_aload_n hC dX9_round_73 rfl (j := 0) rfl <| x_aload_n hC dX9_round_74 rfl (j := 0) rfl <| s_getI hC dX9_round_75 wfl_X9_169 rfl (by decide) (by decide) (by decide) (by decide) <| ?_
          obtain ⟨x21, h21, h⟩ := Option.bind_eq_some_iff.mp h
          refine x_callV hC hR dX9_round_78 mK_X9_toNorth wml_X9_336 (C_X9_toNorth (a1 := (σ.1 43 8)) (σ := σ) h21) (by omega) rfl (by decide) rfl rfl (xlt (by decide)) rfl (Nat.le_of_ble_eq_true rfl) rfl rfl rfl <| ?_
          refine x_goto (tgt := 86) hC dX9_round_81 (by decide) <| ?_
          obtain ⟨e1, e2⟩ := xso2 h
          subst e1
          subst e2
          exact x_iret (rest := []) hC hE rfl dX9_round_86
    · replace h := (if_neg c3).symm.trans h
      refine x_aload_n hC dX9_round_21 rfl (j := 0) rfl <| s_getR (q := 45) hC dX9_round_22 wfl_X9_13 rfl (by decide) (by decide) (by decide) (by decide) (by decide) <| x_iload_n hC dX9_round_25 rfl (j := 3) rfl <| ?_
      obtain ⟨h22, h⟩ := xgd_some h
      refine s_iald hC dX9_round_26 rfl (by decide) h22 <| ?_
      refine x_if_eq (tgt := 59) hC dX9_round_27 (by decide) (fun c23 => ?_) (fun c23 => ?_)
      · replace h := (if_pos c23).symm.trans h
        refine x_sub [0, 1, 2, 3] rfl ?_
        exact B_X9_round_59 hC hR hE ih l1 l2 l3 σ h
      · replace h := (if_neg c23).symm.trans h
        refine x_aload_n hC dX9_round_30 rfl (j := 0) rfl <| x_iload_n hC dX9_round_31 rfl (j := 3) rfl <| x_callV hC hR dX9_round_32 mK_X9_isLooked wml_X9_163 (C_X9_isLooked (a1 := l3) (σ := σ)) (by omega) rfl (by decide) rfl rfl (xlt (by decide)) rfl (Nat.le_of_ble_eq_true rfl) rfl rfl rfl <| ?_
        refine x_if_eq (tgt := 41) hC dX9_round_35 (by decide) (fun c25 => ?_) (fun c25 => ?_)
        · replace h := (if_pos c25).symm.trans h
          refine x_iload_n hC dX9_round_41 rfl (j := 2) rfl <| x_iconst (v := (5 : Int32)) hC dX9_round_42 (by decide) <| ?_
          refine x_icmp_ne (tgt := 49) hC dX9_round_43 (by decide) (fun c26 => ?_) (fun c26 => ?_)
          · replace h := (if_neg c26).symm.trans h
            refine x_aload_n hC dX9_round_49 rfl (j := 0) rfl <| s_getR (q := 65) hC dX9_round_50 wfl_X9_85 rfl (by decide) (by decide) (by decide) (by decide) (by decide) <| x_iload_n hC dX9_round_53 rfl (j := 2) rfl <| x_iload_n hC dX9_round_54 rfl (j := 3) rfl <| ?_
            obtain ⟨h27, h⟩ := xgd_some h
            refine s_iast hC dX9_round_55 rfl (by decide) h27 <| ?_
            refine x_iinc hC dX9_round_56 (j := 2) (v := (l2 + (1 : Int32))) rfl rfl (by decide) rfl <| ?_
            refine x_sub [1, 2, 0, 3] rfl ?_
            exact B_X9_round_59 hC hR hE ih l1 (l2 + (1 : Int32)) l3 (yI σ 65 l2.toNatClampNeg l3) h
          · replace h := (if_pos c26).symm.trans h
            refine x_bipush (v := (-5 : Int32)) hC dX9_round_46 (by decide) <| ?_
            obtain ⟨e1, e2⟩ := xso2 h
            subst e1
            subst e2
            exact x_iret (rest := []) hC hE rfl dX9_round_48
        · replace h := (if_neg c25).symm.trans h
          refine x_goto (tgt := 59) hC dX9_round_38 (by decide) <| ?_
          refine x_sub [0, 1, 2, 3] rfl ?_
          exact B_X9_round_59 hC hR hE ih l1 l2 l3 σ h
set_option maxRecDepth 100000 in
set_option maxHeartbeats 4000000 in
theorem C_X9_round {G : xG} {l : Launch} {a1 : Int32} {σ : xS2} {r : Int32} {τ : xS2} (h : J_X9_round a1 σ = some (r, τ)) : xC G l mM_X9_round 102 [.ref (xad G 43), .int a1] (xM σ) (some (.int r)) (xM τ) := by
  refine xC_of (by decide) rfl (Nat.le_refl _) (Nat.le_of_ble_eq_true rfl) (fun K hC hE hR _ => ?_)
  refine x_iload_n hC dX9_round_0 rfl (j := 1) rfl <| x_iconst (v := (0 : Int32)) hC dX9_round_1 (by decide) <| x_iconst (v := (1 : Int32)) hC dX9_round_2 (by decide) <| x_callS hC hR dX9_round_3 mK_X9_in wml_X9_116 (C_X9_in (a0 := a1) (a1 := (0 : Int32)) (a2 := (1 : Int32)) (σ := σ)) (by omega) rfl (Nat.le_of_ble_eq_true rfl) rfl rfl rfl <| ?_
  refine x_if_ne (tgt := 11) hC dX9_round_6 (by decide) (fun c2 => ?_) (fun c2 => ?_)
  · replace h := (if_neg c2).symm.trans h
    refine x_iconst (v := (0 : Int32)) hC dX9_round_11 (by decide) <| x_istore_n hC dX9_round_12 rfl (by decide) rfl <| x_iconst (v := (0 : Int32)) hC dX9_round_13 (by decide) <| x_istore_n hC dX9_round_14 rfl (by decide) rfl <| ?_
    refine x_sub [2, 3, 1, 0] rfl ?_
    exact B_X9_round_15 hC hR hE xFU a1 (0 : Int32) (0 : Int32) σ h
  · replace h := (if_pos c2).symm.trans h
    refine x_iconst (v := (-1 : Int32)) hC dX9_round_9 (by decide) <| ?_
    obtain ⟨e1, e2⟩ := xso2 h
    subst e1
    subst e2
    exact x_iret (rest := []) hC hE rfl dX9_round_10
set_option maxRecDepth 100000 in
set_option maxHeartbeats 4000000 in
theorem B_X9_row_54 {G : xG} {l : Launch} {K : xK} {r : Int32} {τ : xS2} (hC : xCX G mM_X9_row K) (hR : xRd K 2) (hE : xE G K (some (.int r)) (xM τ)) : ∀ (f : Nat) (l1 : Int32) (l4 : Int32) (σ : xS2), J_X9_row_54 f l1 l4 σ = some (r, τ) → xV G l mM_X9_row K 54 [(0, .ref (xad G 43)), (1, .int l1), (4, .int l4)] [] (xM σ) := by
  intro f
  induction f with
  | zero => intro l1 l4 σ h; cases h
  | succ f ih =>
    intro l1 l4 σ h
    refine x_iload hC dX9_row_54 (j := 2) rfl <| x_bipush (v := (60 : Int32)) hC dX9_row_56 (by decide) <| x_iload_n hC dX9_row_58 rfl (j := 1) rfl <| x_imul hC dX9_row_59 <| x_bipush (v := (60 : Int32)) hC dX9_row_60 (by decide) <| x_iadd hC dX9_row_62 <| ?_
    refine x_icmp_ge (tgt := 80) hC dX9_row_63 (by decide) (fun c9 => ?_) (fun c9 => ?_)
    · replace h := (if_pos c9).symm.trans h
      refine x_iconst (v := (1 : Int32)) hC dX9_row_80 (by decide) <| ?_
      obtain ⟨e1, e2⟩ := xso2 h
      subst e1
      subst e2
      exact x_iret (rest := []) hC hE rfl dX9_row_81
    · replace h := (if_neg c9).symm.trans h
      refine x_aload_n hC dX9_row_66 rfl (j := 0) rfl <| s_getR (q := 72) hC dX9_row_67 wfl_X9_106 rfl (by decide) (by decide) (by decide) (by decide) (by decide) <| x_iload hC dX9_row_70 (j := 2) rfl <| x_lconst (v := (0 : Int64)) hC dX9_row_72 (by decide) <| ?_
      obtain ⟨h10, h⟩ := xgd_some h
      refine s_last hC dX9_row_73 rfl (by decide) h10 <| ?_
      refine x_iinc hC dX9_row_74 (j := 2) (v := (l4 + (1 : Int32))) rfl rfl (by decide) rfl <| x_goto (tgt := 54) hC dX9_row_77 (by decide) <| ?_
      refine x_sub [1, 2, 0] rfl ?_
      exact ih l1 (l4 + (1 : Int32)) (yL σ 72 l4.toNatClampNeg (0 : Int64)) h
set_option maxRecDepth 100000 in
set_option maxHeartbeats 4000000 in
theorem C_X9_row {G : xG} {l : Launch} {a1 : Int32} {a2 : Int32} {a3 : Int32} {σ : xS2} {r : Int32} {τ : xS2} (h : J_X9_row a1 a2 a3 σ = some (r, τ)) : xC G l mM_X9_row 2 [.ref (xad G 43), .int a1, .int a2, .int a3] (xM σ) (some (.int r)) (xM τ) := by
  refine xC_of (by decide) rfl (Nat.le_refl _) (Nat.le_of_ble_eq_true rfl) (fun K hC hE hR _ => ?_)
  refine x_iload_n hC dX9_row_0 rfl (j := 1) rfl <| x_callS hC hR dX9_row_1 mK_X9_isShelf wml_X9_179 (C_X9_isShelf (a0 := a1) (σ := σ)) (by omega) rfl (Nat.le_of_ble_eq_true rfl) rfl rfl rfl <| ?_
  refine x_if_eq (tgt := 22) hC dX9_row_4 (by decide) (fun c2 => ?_) (fun c2 => ?_)
  · replace h := (if_pos c2).symm.trans h
    refine x_iconst (v := (-1 : Int32)) hC dX9_row_22 (by decide) <| ?_
    obtain ⟨e1, e2⟩ := xso2 h
    subst e1
    subst e2
    exact x_iret (rest := []) hC hE rfl dX9_row_23
  · replace h := (if_neg c2).symm.trans h
    refine x_iload_n hC dX9_row_7 rfl (j := 2) rfl <| x_iconst (v := (0 : Int32)) hC dX9_row_8 (by decide) <| x_iconst (v := (4 : Int32)) hC dX9_row_9 (by decide) <| x_callS hC hR dX9_row_10 mK_X9_in wml_X9_116 (C_X9_in (a0 := a2) (a1 := (0 : Int32)) (a2 := (4 : Int32)) (σ := σ)) (by omega) rfl (Nat.le_of_ble_eq_true rfl) rfl rfl rfl <| ?_
    refine x_if_eq (tgt := 22) hC dX9_row_13 (by decide) (fun c4 => ?_) (fun c4 => ?_)
    · replace h := (if_pos c4).symm.trans h
      refine x_iconst (v := (-1 : Int32)) hC dX9_row_22 (by decide) <| ?_
      obtain ⟨e1, e2⟩ := xso2 h
      subst e1
      subst e2
      exact x_iret (rest := []) hC hE rfl dX9_row_23
    · replace h := (if_neg c4).symm.trans h
      refine x_iload_n hC dX9_row_16 rfl (j := 3) rfl <| x_bipush (v := (60 : Int32)) hC dX9_row_17 (by decide) <| ?_
      refine x_icmp_le (tgt := 24) hC dX9_row_19 (by decide) (fun c5 => ?_) (fun c5 => ?_)
      · replace h := (if_pos c5).symm.trans h
        refine x_iload_n hC dX9_row_24 rfl (j := 3) rfl <| ?_
        refine x_if_ge (tgt := 31) hC dX9_row_25 (by decide) (fun c6 => ?_) (fun c6 => ?_)
        · replace h := (if_pos c6).symm.trans h
          refine x_aload_n hC dX9_row_31 rfl (j := 0) rfl <| s_getR (q := 70) hC dX9_row_32 wfl_X9_100 rfl (by decide) (by decide) (by decide) (by decide) (by decide) <| x_iload_n hC dX9_row_35 rfl (j := 1) rfl <| x_bipush (v := (-2 : Int32)) hC dX9_row_36 (by decide) <| x_iload_n hC dX9_row_38 rfl (j := 2) rfl <| x_isub hC dX9_row_39 <| ?_
          obtain ⟨h7, h⟩ := xgd_some h
          refine s_iast hC dX9_row_40 rfl (by decide) h7 <| ?_
          refine x_aload_n hC dX9_row_41 rfl (j := 0) rfl <| s_getR (q := 71) hC dX9_row_42 wfl_X9_103 rfl (by decide) (by decide) (by decide) (by decide) (by decide) <| x_iload_n hC dX9_row_45 rfl (j := 1) rfl <| x_iload_n hC dX9_row_46 rfl (j := 3) rfl <| ?_
          obtain ⟨h8, h⟩ := xgd_some h
          refine s_iast hC dX9_row_47 rfl (by decide) h8 <| ?_
          refine x_bipush (v := (60 : Int32)) hC dX9_row_48 (by decide) <| x_iload_n hC dX9_row_50 rfl (j := 1) rfl <| x_imul hC dX9_row_51 <| x_istore hC dX9_row_52 (by decide) rfl <| ?_
          refine x_sub [1, 2, 0] rfl ?_
          exact B_X9_row_54 hC hR hE xFU a1 ((60 : Int32) * a1) (yI (yI σ 70 a1.toNatClampNeg ((-2 : Int32) - a2)) 71 a1.toNatClampNeg a3) h
        · replace h := (if_neg c6).symm.trans h
          refine x_bipush (v := (-14 : Int32)) hC dX9_row_28 (by decide) <| ?_
          obtain ⟨e1, e2⟩ := xso2 h
          subst e1
          subst e2
          exact x_iret (rest := []) hC hE rfl dX9_row_30
      · replace h := (if_neg c5).symm.trans h
        refine x_iconst (v := (-1 : Int32)) hC dX9_row_22 (by decide) <| ?_
        obtain ⟨e1, e2⟩ := xso2 h
        subst e1
        subst e2
        exact x_iret (rest := []) hC hE rfl dX9_row_23
set_option maxRecDepth 100000 in
set_option maxHeartbeats 4000000 in
theorem B_X9_run_67 {G : xG} {l : Launch} {K : xK} {r : Int32} {τ : xS2} (hC : xCX G mM_X9_run K) (hR : xRd K 5) (hE : xE G K (some (.int r)) (xM τ)) : ∀ (f : Nat) (l1 : Int32) (l2 : Int32) (l3 : Int32) (l4 : Int32) (σ : xS2), J_X9_run_67 f l1 l2 l3 l4 σ = some (r, τ) → xV G l mM_X9_run K 67 [(0, .ref (xad G 43)), (1, .int l1), (2, .int l2), (3, .int l3), (4, .int l4)] [] (xM σ) := by
  intro f
  induction f with
  | zero => intro l1 l2 l3 l4 σ h; cases h
  | succ f ih =>
    intro l1 l2 l3 l4 σ h
    refine x_iload hC dX9_run_67 (j := 4) rfl <| x_iload_n hC dX9_run_69 rfl (j := 2) rfl <| ?_
    refine x_icmp_ge (tgt := 98) hC dX9_run_70 (by decide) (fun c12 => ?_) (fun c12 => ?_)
    · replace h := (if_pos c12).symm.trans h
      refine x_aload_n hC dX9_run_98 rfl (j := 0) rfl <| x_iload_n hC dX9_run_99 rfl (j := 3) rfl <| ?_
      obtain ⟨x13, h13, h⟩ := Option.bind_eq_some_iff.mp h
      refine x_callV hC hR dX9_run_100 mK_X9_tellThought wml_X9_308 (C_X9_tellThought (a1 := l3) (σ := σ) h13) (by omega) rfl (by decide) rfl rfl (xlt (by decide)) rfl (Nat.le_of_ble_eq_true rfl) rfl rfl rfl <| ?_
      obtain ⟨e1, e2⟩ := xso2 h
      subst e1
      subst e2
      exact x_iret (rest := []) hC hE rfl dX9_run_103
    · replace h := (if_neg c12).symm.trans h
      refine x_aload_n hC dX9_run_73 rfl (j := 0) rfl <| x_aload_n hC dX9_run_74 rfl (j := 0) rfl <| x_iload_n hC dX9_run_75 rfl (j := 1) rfl <| x_iload hC dX9_run_76 (j := 4) rfl <| ?_
      obtain ⟨x14, h14, h⟩ := Option.bind_eq_some_iff.mp h
      refine x_callV hC hR dX9_run_78 mK_X9_orderAt wml_X9_305 (C_X9_orderAt (a1 := l1) (a2 := l4) (σ := σ) h14) (by omega) rfl (by decide) rfl rfl (xlt (by decide)) rfl (Nat.le_of_ble_eq_true rfl) rfl rfl rfl <| ?_
      refine x_aload_n hC dX9_run_81 rfl (j := 0) rfl <| s_getI hC dX9_run_82 wfl_X9_166 rfl (by decide) (by decide) (by decide) (by decide) <| x_iload hC dX9_run_85 (j := 4) rfl <| x_iadd hC dX9_run_87 <| ?_
      obtain ⟨x15, h15, h⟩ := Option.bind_eq_some_iff.mp h
      refine x_callV hC hR dX9_run_88 mK_X9_goOwn wml_X9_287 (C_X9_goOwn (a1 := x14) (a2 := ((σ.1 43 7) + l4)) (σ := σ) h15) (by omega) rfl (by decide) rfl rfl (xlt (by decide)) rfl (Nat.le_of_ble_eq_true rfl) rfl rfl rfl <| ?_
      refine x_pop hC dX9_run_91 rfl <| x_iinc hC dX9_run_92 (j := 4) (v := (l4 + (1 : Int32))) rfl rfl (by decide) rfl <| x_goto (tgt := 67) hC dX9_run_95 (by decide) <| ?_
      refine x_sub [1, 2, 3, 4, 0] rfl ?_
      exact ih l1 l2 l3 (l4 + (1 : Int32)) x15.2 h
set_option maxRecDepth 100000 in
set_option maxHeartbeats 4000000 in
theorem C_X9_run {G : xG} {l : Launch} {a1 : Int32} {a2 : Int32} {a3 : Int32} {σ : xS2} {r : Int32} {τ : xS2} (h : J_X9_run a1 a2 a3 σ = some (r, τ)) : xC G l mM_X9_run 5 [.ref (xad G 43), .int a1, .int a2, .int a3] (xM σ) (some (.int r)) (xM τ) := by
  refine xC_of (by decide) rfl (Nat.le_refl _) (Nat.le_of_ble_eq_true rfl) (fun K hC hE hR _ => ?_)
  refine x_iload_n hC dX9_run_0 rfl (j := 1) rfl <| x_callS hC hR dX9_run_1 mK_X9_isShelf wml_X9_179 (C_X9_isShelf (a0 := a1) (σ := σ)) (by omega) rfl (Nat.le_of_ble_eq_true rfl) rfl rfl rfl <| ?_
  refine x_if_eq (tgt := 20) hC dX9_run_4 (by decide) (fun c2 => ?_) (fun c2 => ?_)
  · replace h := (if_pos c2).symm.trans h
    refine x_iconst (v := (-1 : Int32)) hC dX9_run_20 (by decide) <| ?_
    obtain ⟨e1, e2⟩ := xso2 h
    subst e1
    subst e2
    exact x_iret (rest := []) hC hE rfl dX9_run_21
  · replace h := (if_neg c2).symm.trans h
    refine x_iload_n hC dX9_run_7 rfl (j := 2) rfl <| ?_
    refine x_if_lt (tgt := 20) hC dX9_run_8 (by decide) (fun c3 => ?_) (fun c3 => ?_)
    · replace h := (if_pos c3).symm.trans h
      refine x_iconst (v := (-1 : Int32)) hC dX9_run_20 (by decide) <| ?_
      obtain ⟨e1, e2⟩ := xso2 h
      subst e1
      subst e2
      exact x_iret (rest := []) hC hE rfl dX9_run_21
    · replace h := (if_neg c3).symm.trans h
      refine x_iload_n hC dX9_run_11 rfl (j := 3) rfl <| x_iconst (v := (0 : Int32)) hC dX9_run_12 (by decide) <| x_iconst (v := (3 : Int32)) hC dX9_run_13 (by decide) <| x_callS hC hR dX9_run_14 mK_X9_in wml_X9_116 (C_X9_in (a0 := a3) (a1 := (0 : Int32)) (a2 := (3 : Int32)) (σ := σ)) (by omega) rfl (Nat.le_of_ble_eq_true rfl) rfl rfl rfl <| ?_
      refine x_if_ne (tgt := 22) hC dX9_run_17 (by decide) (fun c5 => ?_) (fun c5 => ?_)
      · replace h := (if_neg c5).symm.trans h
        refine x_aload_n hC dX9_run_22 rfl (j := 0) rfl <| x_iload_n hC dX9_run_23 rfl (j := 1) rfl <| ?_
        obtain ⟨x6, h6, h⟩ := Option.bind_eq_some_iff.mp h
        refine x_callV hC hR dX9_run_24 mK_X9_rowFault wml_X9_299 (C_X9_rowFault (a1 := a1) (σ := σ) h6) (by omega) rfl (by decide) rfl rfl (xlt (by decide)) rfl (Nat.le_of_ble_eq_true rfl) rfl rfl rfl <| ?_
        refine x_if_ge (tgt := 36) hC dX9_run_27 (by decide) (fun c7 => ?_) (fun c7 => ?_)
        · replace h := (if_pos c7).symm.trans h
          refine x_iload_n hC dX9_run_36 rfl (j := 2) rfl <| x_aload_n hC dX9_run_37 rfl (j := 0) rfl <| s_getR (q := 71) hC dX9_run_38 wfl_X9_103 rfl (by decide) (by decide) (by decide) (by decide) (by decide) <| x_iload_n hC dX9_run_41 rfl (j := 1) rfl <| ?_
          obtain ⟨h8, h⟩ := xgd_some h
          refine s_iald hC dX9_run_42 rfl (by decide) h8 <| ?_
          refine x_icmp_gt (tgt := 57) hC dX9_run_43 (by decide) (fun c9 => ?_) (fun c9 => ?_)
          · replace h := (if_pos c9).symm.trans h
            refine x_bipush (v := (-5 : Int32)) hC dX9_run_57 (by decide) <| ?_
            obtain ⟨e1, e2⟩ := xso2 h
            subst e1
            subst e2
            exact x_iret (rest := []) hC hE rfl dX9_run_59
          · replace h := (if_neg c9).symm.trans h
            refine x_iload_n hC dX9_run_46 rfl (j := 2) rfl <| x_bipush (v := (60 : Int32)) hC dX9_run_47 (by decide) <| x_aload_n hC dX9_run_49 rfl (j := 0) rfl <| s_getI hC dX9_run_50 wfl_X9_166 rfl (by decide) (by decide) (by decide) (by decide) <| x_isub hC dX9_run_53 <| ?_
            refine x_icmp_le (tgt := 60) hC dX9_run_54 (by decide) (fun c10 => ?_) (fun c10 => ?_)
            · replace h := (if_pos c10).symm.trans h
              refine x_aload_n hC dX9_run_60 rfl (j := 0) rfl <| ?_
              obtain ⟨x11, h11, h⟩ := Option.bind_eq_some_iff.mp h
              refine x_callV hC hR dX9_run_61 mK_X9_think wml_X9_302 (C_X9_think (σ := σ) h11) (by omega) rfl (by decide) rfl rfl (xlt (by decide)) rfl (Nat.le_of_ble_eq_true rfl) rfl rfl rfl <| ?_
              refine x_iconst (v := (0 : Int32)) hC dX9_run_64 (by decide) <| x_istore hC dX9_run_65 (by decide) rfl <| ?_
              refine x_sub [1, 2, 3, 4, 0] rfl ?_
              exact B_X9_run_67 hC hR hE xFU a1 a2 a3 (0 : Int32) x11 h
            · replace h := (if_neg c10).symm.trans h
              refine x_bipush (v := (-5 : Int32)) hC dX9_run_57 (by decide) <| ?_
              obtain ⟨e1, e2⟩ := xso2 h
              subst e1
              subst e2
              exact x_iret (rest := []) hC hE rfl dX9_run_59
        · replace h := (if_neg c7).symm.trans h
          refine x_aload_n hC dX9_run_30 rfl (j := 0) rfl <| x_iload_n hC dX9_run_31 rfl (j := 1) rfl <| ?_
          obtain ⟨x16, h16, h⟩ := Option.bind_eq_some_iff.mp h
          refine x_callV hC hR dX9_run_32 mK_X9_rowFault wml_X9_299 (C_X9_rowFault (a1 := a1) (σ := σ) h16) (by omega) rfl (by decide) rfl rfl (xlt (by decide)) rfl (Nat.le_of_ble_eq_true rfl) rfl rfl rfl <| ?_
          obtain ⟨e1, e2⟩ := xso2 h
          subst e1
          subst e2
          exact x_iret (rest := []) hC hE rfl dX9_run_35
      · replace h := (if_pos c5).symm.trans h
        refine x_iconst (v := (-1 : Int32)) hC dX9_run_20 (by decide) <| ?_
        obtain ⟨e1, e2⟩ := xso2 h
        subst e1
        subst e2
        exact x_iret (rest := []) hC hE rfl dX9_run_21
set_option maxRecDepth 100000 in
set_option maxHeartbeats 4000000 in
theorem B_X9_shift_150 {G : xG} {l : Launch} {K : xK} {r : Int32} {τ : xS2} (hC : xCX G mM_X9_shift K) (hR : xRd K 2) (hE : xE G K (some (.int r)) (xM τ)) : ∀ (f : Nat) (l3 : Int32) (l4 : Int32) (l5 : Int32) (l6 : Int32) (σ : xS2), J_X9_shift_150 f l3 l4 l5 l6 σ = some (r, τ) → xV G l mM_X9_shift K 150 [(0, .ref (xad G 43)), (3, .int l3), (4, .int l4), (5, .int l5), (6, .int l6)] [] (xM σ) := by
  intro f
  induction f with
  | zero => intro l3 l4 l5 l6 σ h; cases h
  | succ f ih =>
    intro l3 l4 l5 l6 σ h
    refine x_iload hC dX9_shift_150 (j := 4) rfl <| x_iload hC dX9_shift_152 (j := 3) rfl <| ?_
    refine x_icmp_ge (tgt := 185) hC dX9_shift_154 (by decide) (fun c22 => ?_) (fun c22 => ?_)
    · replace h := (if_pos c22).symm.trans h
      refine x_iload hC dX9_shift_185 (j := 3) rfl <| ?_
      obtain ⟨e1, e2⟩ := xso2 h
      subst e1
      subst e2
      exact x_iret (rest := []) hC hE rfl dX9_shift_187
    · replace h := (if_neg c22).symm.trans h
      refine x_aload_n hC dX9_shift_157 rfl (j := 0) rfl <| s_getR (q := 72) hC dX9_shift_158 wfl_X9_106 rfl (by decide) (by decide) (by decide) (by decide) (by decide) <| x_bipush (v := (60 : Int32)) hC dX9_shift_161 (by decide) <| x_iload_n hC dX9_shift_163 rfl (j := 1) rfl <| x_imul hC dX9_shift_164 <| x_iload hC dX9_shift_165 (j := 2) rfl <| ?_
      refine x_iadd hC dX9_shift_167 <| x_iload hC dX9_shift_168 (j := 4) rfl <| x_iadd hC dX9_shift_170 <| x_aload_n hC dX9_shift_171 rfl (j := 0) rfl <| s_getR (q := 73) hC dX9_shift_172 wfl_X9_110 rfl (by decide) (by decide) (by decide) (by decide) (by decide) <| x_iload hC dX9_shift_175 (j := 4) rfl <| ?_
      obtain ⟨h23, h⟩ := xgd_some h
      refine s_lald hC dX9_shift_177 rfl (by decide) h23 <| ?_
      obtain ⟨h24, h⟩ := xgd_some h
      refine s_last hC dX9_shift_178 rfl (by decide) h24 <| ?_
      refine x_iinc hC dX9_shift_179 (j := 4) (v := (l6 + (1 : Int32))) rfl rfl (by decide) rfl <| x_goto (tgt := 150) hC dX9_shift_182 (by decide) <| ?_
      refine x_sub [1, 2, 3, 4, 0] rfl ?_
      exact ih l3 l4 l5 (l6 + (1 : Int32)) (yL σ 72 ((((60 : Int32) * l3) + l4) + l6).toNatClampNeg (σ.2 73 l6.toNatClampNeg)) h
set_option maxRecDepth 100000 in
set_option maxHeartbeats 4000000 in
theorem B_X9_shift_113 {G : xG} {l : Launch} {K : xK} {r : Int32} {τ : xS2} (hC : xCX G mM_X9_shift K) (hR : xRd K 2) (hE : xE G K (some (.int r)) (xM τ)) : ∀ (f : Nat) (l1 : Int32) (l2 : Int32) (l3 : Int32) (l4 : Int32) (l5 : Int32) (l6 : Int32) (σ : xS2), J_X9_shift_113 f l1 l2 l3 l4 l5 l6 σ = some (r, τ) → xV G l mM_X9_shift K 113 [(0, .ref (xad G 43)), (1, .int l1), (2, .int l2), (3, .int l3), (4, .int l4), (5, .int l5), (6, .int l6)] [] (xM σ) := by
  intro f
  induction f with
  | zero => intro l1 l2 l3 l4 l5 l6 σ h; cases h
  | succ f ih =>
    intro l1 l2 l3 l4 l5 l6 σ h
    refine x_iload hC dX9_shift_113 (j := 6) rfl <| x_iload hC dX9_shift_115 (j := 5) rfl <| ?_
    refine x_icmp_ge (tgt := 147) hC dX9_shift_117 (by decide) (fun c21 => ?_) (fun c21 => ?_)
    · replace h := (if_pos c21).symm.trans h
      refine x_iconst (v := (0 : Int32)) hC dX9_shift_147 (by decide) <| x_istore hC dX9_shift_148 (by decide) rfl <| ?_
      refine x_sub [1, 4, 5, 6, 0] rfl ?_
      exact B_X9_shift_150 hC hR hE xFU l3 l4 l5 (0 : Int32) σ h
    · replace h := (if_neg c21).symm.trans h
      refine x_aload_n hC dX9_shift_120 rfl (j := 0) rfl <| s_getR (q := 73) hC dX9_shift_121 wfl_X9_110 rfl (by decide) (by decide) (by decide) (by decide) (by decide) <| x_iload hC dX9_shift_124 (j := 6) rfl <| x_aload_n hC dX9_shift_126 rfl (j := 0) rfl <| s_getR (q := 72) hC dX9_shift_127 wfl_X9_106 rfl (by decide) (by decide) (by decide) (by decide) (by decide) <| x_bipush (v := (60 : Int32)) hC dX9_shift_130 (by decide) <| ?_
      refine x_iload_n hC dX9_shift_132 rfl (j := 1) rfl <| x_imul hC dX9_shift_133 <| x_iload_n hC dX9_shift_134 rfl (j := 2) rfl <| x_iadd hC dX9_shift_135 <| x_iload hC dX9_shift_136 (j := 6) rfl <| x_iadd hC dX9_shift_138 <| ?_
      obtain ⟨h25, h⟩ := xgd_some h
      refine s_lald hC dX9_shift_139 rfl (by decide) h25 <| ?_
      obtain ⟨h26, h⟩ := xgd_some h
      refine s_last hC dX9_shift_140 rfl (by decide) h26 <| ?_
      refine x_iinc hC dX9_shift_141 (j := 6) (v := (l6 + (1 : Int32))) rfl rfl (by decide) rfl <| x_goto (tgt := 113) hC dX9_shift_144 (by decide) <| ?_
      refine x_sub [1, 2, 3, 4, 5, 6, 0] rfl ?_
      exact ih l1 l2 l3 l4 l5 (l6 + (1 : Int32)) (yL σ 73 l6.toNatClampNeg (σ.2 72 ((((60 : Int32) * l1) + l2) + l6).toNatClampNeg)) h
set_option maxRecDepth 100000 in
set_option maxHeartbeats 4000000 in
theorem C_X9_shift {G : xG} {l : Launch} {a1 : Int32} {a2 : Int32} {a3 : Int32} {a4 : Int32} {a5 : Int32} {σ : xS2} {r : Int32} {τ : xS2} (h : J_X9_shift a1 a2 a3 a4 a5 σ = some (r, τ)) : xC G l mM_X9_shift 2 [.ref (xad G 43), .int a1, .int a2, .int a3, .int a4, .int a5] (xM σ) (some (.int r)) (xM τ) := by
  refine xC_of (by decide) rfl (Nat.le_refl _) (Nat.le_of_ble_eq_true rfl) (fun K hC hE hR _ => ?_)
  refine x_iload_n hC dX9_shift_0 rfl (j := 1) rfl <| x_callS hC hR dX9_shift_1 mK_X9_isShelf wml_X9_179 (C_X9_isShelf (a0 := a1) (σ := σ)) (by omega) rfl (Nat.le_of_ble_eq_true rfl) rfl rfl rfl <| ?_
  refine x_if_eq (tgt := 14) hC dX9_shift_4 (by decide) (fun c2 => ?_) (fun c2 => ?_)
  · replace h := (if_pos c2).symm.trans h
    refine x_iconst (v := (-1 : Int32)) hC dX9_shift_14 (by decide) <| ?_
    obtain ⟨e1, e2⟩ := xso2 h
    subst e1
    subst e2
    exact x_iret (rest := []) hC hE rfl dX9_shift_15
  · replace h := (if_neg c2).symm.trans h
    refine x_iload_n hC dX9_shift_7 rfl (j := 3) rfl <| x_callS hC hR dX9_shift_8 mK_X9_isShelf wml_X9_179 (C_X9_isShelf (a0 := a3) (σ := σ)) (by omega) rfl (Nat.le_of_ble_eq_true rfl) rfl rfl rfl <| ?_
    refine x_if_ne (tgt := 16) hC dX9_shift_11 (by decide) (fun c4 => ?_) (fun c4 => ?_)
    · replace h := (if_neg c4).symm.trans h
      refine x_aload_n hC dX9_shift_16 rfl (j := 0) rfl <| s_getR (q := 70) hC dX9_shift_17 wfl_X9_100 rfl (by decide) (by decide) (by decide) (by decide) (by decide) <| x_iload_n hC dX9_shift_20 rfl (j := 1) rfl <| ?_
      obtain ⟨h5, h⟩ := xgd_some h
      refine s_iald hC dX9_shift_21 rfl (by decide) h5 <| ?_
      refine x_iconst (v := (-1 : Int32)) hC dX9_shift_22 (by decide) <| ?_
      refine x_icmp_eq (tgt := 36) hC dX9_shift_23 (by decide) (fun c6 => ?_) (fun c6 => ?_)
      · replace h := (if_pos c6).symm.trans h
        refine x_bipush (v := (-11 : Int32)) hC dX9_shift_36 (by decide) <| ?_
        obtain ⟨e1, e2⟩ := xso2 h
        subst e1
        subst e2
        exact x_iret (rest := []) hC hE rfl dX9_shift_38
      · replace h := (if_neg c6).symm.trans h
        refine x_aload_n hC dX9_shift_26 rfl (j := 0) rfl <| s_getR (q := 70) hC dX9_shift_27 wfl_X9_100 rfl (by decide) (by decide) (by decide) (by decide) (by decide) <| x_iload_n hC dX9_shift_30 rfl (j := 3) rfl <| ?_
        obtain ⟨h7, h⟩ := xgd_some h
        refine s_iald hC dX9_shift_31 rfl (by decide) h7 <| ?_
        refine x_iconst (v := (-1 : Int32)) hC dX9_shift_32 (by decide) <| ?_
        refine x_icmp_ne (tgt := 39) hC dX9_shift_33 (by decide) (fun c8 => ?_) (fun c8 => ?_)
        · replace h := (if_neg c8).symm.trans h
          refine x_aload_n hC dX9_shift_39 rfl (j := 0) rfl <| s_getR (q := 70) hC dX9_shift_40 wfl_X9_100 rfl (by decide) (by decide) (by decide) (by decide) (by decide) <| x_iload_n hC dX9_shift_43 rfl (j := 1) rfl <| ?_
          obtain ⟨h9, h⟩ := xgd_some h
          refine s_iald hC dX9_shift_44 rfl (by decide) h9 <| ?_
          refine x_if_ge (tgt := 63) hC dX9_shift_45 (by decide) (fun c10 => ?_) (fun c10 => ?_)
          · replace h := (if_pos c10).symm.trans h
            refine x_bipush (v := (-12 : Int32)) hC dX9_shift_63 (by decide) <| ?_
            obtain ⟨e1, e2⟩ := xso2 h
            subst e1
            subst e2
            exact x_iret (rest := []) hC hE rfl dX9_shift_65
          · replace h := (if_neg c10).symm.trans h
            refine x_aload_n hC dX9_shift_48 rfl (j := 0) rfl <| s_getR (q := 70) hC dX9_shift_49 wfl_X9_100 rfl (by decide) (by decide) (by decide) (by decide) (by decide) <| x_iload_n hC dX9_shift_52 rfl (j := 1) rfl <| ?_
            obtain ⟨h11, h⟩ := xgd_some h
            refine s_iald hC dX9_shift_53 rfl (by decide) h11 <| ?_
            refine x_aload_n hC dX9_shift_54 rfl (j := 0) rfl <| s_getR (q := 70) hC dX9_shift_55 wfl_X9_100 rfl (by decide) (by decide) (by decide) (by decide) (by decide) <| x_iload_n hC dX9_shift_58 rfl (j := 3) rfl <| ?_
            obtain ⟨h12, h⟩ := xgd_some h
            refine s_iald hC dX9_shift_59 rfl (by decide) h12 <| ?_
            refine x_icmp_eq (tgt := 66) hC dX9_shift_60 (by decide) (fun c13 => ?_) (fun c13 => ?_)
            · replace h := (if_pos c13).symm.trans h
              refine x_iload hC dX9_shift_66 (j := 5) rfl <| ?_
              refine x_if_lt (tgt := 107) hC dX9_shift_68 (by decide) (fun c14 => ?_) (fun c14 => ?_)
              · replace h := (if_pos c14).symm.trans h
                refine x_bipush (v := (-13 : Int32)) hC dX9_shift_107 (by decide) <| ?_
                obtain ⟨e1, e2⟩ := xso2 h
                subst e1
                subst e2
                exact x_iret (rest := []) hC hE rfl dX9_shift_109
              · replace h := (if_neg c14).symm.trans h
                refine x_iload_n hC dX9_shift_71 rfl (j := 2) rfl <| ?_
                refine x_if_lt (tgt := 107) hC dX9_shift_72 (by decide) (fun c15 => ?_) (fun c15 => ?_)
                · replace h := (if_pos c15).symm.trans h
                  refine x_bipush (v := (-13 : Int32)) hC dX9_shift_107 (by decide) <| ?_
                  obtain ⟨e1, e2⟩ := xso2 h
                  subst e1
                  subst e2
                  exact x_iret (rest := []) hC hE rfl dX9_shift_109
                · replace h := (if_neg c15).symm.trans h
                  refine x_iload hC dX9_shift_75 (j := 4) rfl <| ?_
                  refine x_if_lt (tgt := 107) hC dX9_shift_77 (by decide) (fun c16 => ?_) (fun c16 => ?_)
                  · replace h := (if_pos c16).symm.trans h
                    refine x_bipush (v := (-13 : Int32)) hC dX9_shift_107 (by decide) <| ?_
                    obtain ⟨e1, e2⟩ := xso2 h
                    subst e1
                    subst e2
                    exact x_iret (rest := []) hC hE rfl dX9_shift_109
                  · replace h := (if_neg c16).symm.trans h
                    refine x_iload_n hC dX9_shift_80 rfl (j := 2) rfl <| x_aload_n hC dX9_shift_81 rfl (j := 0) rfl <| s_getR (q := 71) hC dX9_shift_82 wfl_X9_103 rfl (by decide) (by decide) (by decide) (by decide) (by decide) <| x_iload_n hC dX9_shift_85 rfl (j := 1) rfl <| ?_
                    obtain ⟨h17, h⟩ := xgd_some h
                    refine s_iald hC dX9_shift_86 rfl (by decide) h17 <| ?_
                    refine x_iload hC dX9_shift_87 (j := 5) rfl <| x_isub hC dX9_shift_89 <| ?_
                    refine x_icmp_gt (tgt := 107) hC dX9_shift_90 (by decide) (fun c18 => ?_) (fun c18 => ?_)
                    · replace h := (if_pos c18).symm.trans h
                      refine x_bipush (v := (-13 : Int32)) hC dX9_shift_107 (by decide) <| ?_
                      obtain ⟨e1, e2⟩ := xso2 h
                      subst e1
                      subst e2
                      exact x_iret (rest := []) hC hE rfl dX9_shift_109
                    · replace h := (if_neg c18).symm.trans h
                      refine x_iload hC dX9_shift_93 (j := 4) rfl <| x_aload_n hC dX9_shift_95 rfl (j := 0) rfl <| s_getR (q := 71) hC dX9_shift_96 wfl_X9_103 rfl (by decide) (by decide) (by decide) (by decide) (by decide) <| x_iload_n hC dX9_shift_99 rfl (j := 3) rfl <| ?_
                      obtain ⟨h19, h⟩ := xgd_some h
                      refine s_iald hC dX9_shift_100 rfl (by decide) h19 <| ?_
                      refine x_iload hC dX9_shift_101 (j := 5) rfl <| x_isub hC dX9_shift_103 <| ?_
                      refine x_icmp_le (tgt := 110) hC dX9_shift_104 (by decide) (fun c20 => ?_) (fun c20 => ?_)
                      · replace h := (if_pos c20).symm.trans h
                        refine x_iconst (v := (0 : Int32)) hC dX9_shift_110 (by decide) <| x_istore hC dX9_shift_111 (by decide) rfl <| ?_
                        refine x_sub [1, 2, 3, 4, 5, 6, 0] rfl ?_
                        exact B_X9_shift_113 hC hR hE xFU a1 a2 a3 a4 a5 (0 : Int32) σ h
                      · replace h := (if_neg c20).symm.trans h
                        refine x_bipush (v := (-13 : Int32)) hC dX9_shift_107 (by decide) <| ?_
                        obtain ⟨e1, e2⟩ := xso2 h
                        subst e1
                        subst e2
                        exact x_iret (rest := []) hC hE rfl dX9_shift_109
            · replace h := (if_neg c13).symm.trans h
              refine x_bipush (v := (-12 : Int32)) hC dX9_shift_63 (by decide) <| ?_
              obtain ⟨e1, e2⟩ := xso2 h
              subst e1
              subst e2
              exact x_iret (rest := []) hC hE rfl dX9_shift_65
        · replace h := (if_pos c8).symm.trans h
          refine x_bipush (v := (-11 : Int32)) hC dX9_shift_36 (by decide) <| ?_
          obtain ⟨e1, e2⟩ := xso2 h
          subst e1
          subst e2
          exact x_iret (rest := []) hC hE rfl dX9_shift_38
    · replace h := (if_pos c4).symm.trans h
      refine x_iconst (v := (-1 : Int32)) hC dX9_shift_14 (by decide) <| ?_
      obtain ⟨e1, e2⟩ := xso2 h
      subst e1
      subst e2
      exact x_iret (rest := []) hC hE rfl dX9_shift_15
set_option maxRecDepth 100000 in
set_option maxHeartbeats 4000000 in
theorem B_X9_soonest_63 {G : xG} {l : Launch} {K : xK} {r : Int32} {τ : xS2} (hC : xCX G mM_X9_soonest K) (hR : xRd K 4) (hE : xE G K (some (.int r)) (xM τ)) : ∀ (f : Nat) (l1 : Int32) (l2 : Int32) (l3 : Int32) (σ : xS2), J_X9_soonest_63 f l1 l2 l3 σ = some (r, τ) → xV G l mM_X9_soonest K 63 [(0, .ref (xad G 43)), (1, .int l1), (2, .int l2), (3, .int l3)] [] (xM σ) := by
  intro f
  induction f with
  | zero => intro l1 l2 l3 σ h; cases h
  | succ f ih =>
    intro l1 l2 l3 σ h
    refine x_iload_n hC dX9_soonest_63 rfl (j := 3) rfl <| x_bipush (v := (20 : Int32)) hC dX9_soonest_64 (by decide) <| ?_
    refine x_icmp_gt (tgt := 121) hC dX9_soonest_66 (by decide) (fun c7 => ?_) (fun c7 => ?_)
    · replace h := (if_pos c7).symm.trans h
      refine x_bipush (v := (-2 : Int32)) hC dX9_soonest_121 (by decide) <| ?_
      obtain ⟨e1, e2⟩ := xso2 h
      subst e1
      subst e2
      exact x_iret (rest := []) hC hE rfl dX9_soonest_123
    · replace h := (if_neg c7).symm.trans h
      refine x_aload_n hC dX9_soonest_69 rfl (j := 0) rfl <| x_iload_n hC dX9_soonest_70 rfl (j := 1) rfl <| ?_
      obtain ⟨x8, h8, h⟩ := Option.bind_eq_some_iff.mp h
      refine x_callV hC hR dX9_soonest_71 mK_X9_mostIn wml_X9_320 (C_X9_mostIn (a1 := l1) (σ := σ) h8) (by omega) rfl (by decide) rfl rfl (xlt (by decide)) rfl (Nat.le_of_ble_eq_true rfl) rfl rfl rfl <| ?_
      refine x_if_lt (tgt := 91) hC dX9_soonest_74 (by decide) (fun c9 => ?_) (fun c9 => ?_)
      · replace h := (if_pos c9).symm.trans h
        refine x_aload_n hC dX9_soonest_91 rfl (j := 0) rfl <| s_getI hC dX9_soonest_92 wfl_X9_166 rfl (by decide) (by decide) (by decide) (by decide) <| x_iload_n hC dX9_soonest_95 rfl (j := 3) rfl <| x_iadd hC dX9_soonest_96 <| x_bipush (v := (60 : Int32)) hC dX9_soonest_97 (by decide) <| ?_
        refine x_icmp_lt (tgt := 105) hC dX9_soonest_99 (by decide) (fun c10 => ?_) (fun c10 => ?_)
        · replace h := (if_pos c10).symm.trans h
          refine x_aload_n hC dX9_soonest_105 rfl (j := 0) rfl <| x_aload_n hC dX9_soonest_106 rfl (j := 0) rfl <| s_getI hC dX9_soonest_107 wfl_X9_166 rfl (by decide) (by decide) (by decide) (by decide) <| x_iload_n hC dX9_soonest_110 rfl (j := 3) rfl <| x_iadd hC dX9_soonest_111 <| ?_
          obtain ⟨x11, h11, h⟩ := Option.bind_eq_some_iff.mp h
          refine x_callV hC hR dX9_soonest_112 mK_X9_goOn wml_X9_323 (C_X9_goOn (a1 := ((σ.1 43 7) + l3)) (σ := σ) h11) (by omega) rfl (by decide) rfl rfl (xlt (by decide)) rfl (Nat.le_of_ble_eq_true rfl) rfl rfl rfl <| ?_
          refine x_iinc hC dX9_soonest_115 (j := 3) (v := (l3 + (1 : Int32))) rfl rfl (by decide) rfl <| x_goto (tgt := 63) hC dX9_soonest_118 (by decide) <| ?_
          refine x_sub [1, 2, 3, 0] rfl ?_
          exact ih l1 l2 (l3 + (1 : Int32)) x11 h
        · replace h := (if_neg c10).symm.trans h
          refine x_bipush (v := (-2 : Int32)) hC dX9_soonest_102 (by decide) <| ?_
          obtain ⟨e1, e2⟩ := xso2 h
          subst e1
          subst e2
          exact x_iret (rest := []) hC hE rfl dX9_soonest_104
      · replace h := (if_neg c9).symm.trans h
        refine x_iload_n hC dX9_soonest_77 rfl (j := 2) rfl <| ?_
        refine x_if_ne (tgt := 85) hC dX9_soonest_78 (by decide) (fun c12 => ?_) (fun c12 => ?_)
        · replace h := (if_neg c12).symm.trans h
          refine x_aload_n hC dX9_soonest_85 rfl (j := 0) rfl <| x_iload_n hC dX9_soonest_86 rfl (j := 1) rfl <| ?_
          obtain ⟨x13, h13, h⟩ := Option.bind_eq_some_iff.mp h
          refine x_callV hC hR dX9_soonest_87 mK_X9_mostIn wml_X9_320 (C_X9_mostIn (a1 := l1) (σ := σ) h13) (by omega) rfl (by decide) rfl rfl (xlt (by decide)) rfl (Nat.le_of_ble_eq_true rfl) rfl rfl rfl <| ?_
          obtain ⟨e1, e2⟩ := xso2 h
          subst e1
          subst e2
          exact x_iret (rest := []) hC hE rfl dX9_soonest_90
        · replace h := (if_pos c12).symm.trans h
          refine x_iload_n hC dX9_soonest_81 rfl (j := 3) rfl <| x_goto (tgt := 90) hC dX9_soonest_82 (by decide) <| ?_
          obtain ⟨e1, e2⟩ := xso2 h
          subst e1
          subst e2
          exact x_iret (rest := []) hC hE rfl dX9_soonest_90
set_option maxRecDepth 100000 in
set_option maxHeartbeats 4000000 in
theorem B_X9_soonest_20 {G : xG} {l : Launch} {K : xK} {r : Int32} {τ : xS2} (hC : xCX G mM_X9_soonest K) (hR : xRd K 4) (hE : xE G K (some (.int r)) (xM τ)) : ∀ (f : Nat) (l1 : Int32) (l2 : Int32) (l3 : Int32) (σ : xS2), J_X9_soonest_20 f l1 l2 l3 σ = some (r, τ) → xV G l mM_X9_soonest K 20 [(0, .ref (xad G 43)), (1, .int l1), (2, .int l2), (3, .int l3)] [] (xM σ) := by
  intro f
  induction f with
  | zero => intro l1 l2 l3 σ h; cases h
  | succ f ih =>
    intro l1 l2 l3 σ h
    refine x_iload_n hC dX9_soonest_20 rfl (j := 3) rfl <| x_sipush (v := (360 : Int32)) hC dX9_soonest_21 (by decide) <| ?_
    refine x_icmp_ge (tgt := 40) hC dX9_soonest_24 (by decide) (fun c5 => ?_) (fun c5 => ?_)
    · replace h := (if_pos c5).symm.trans h
      refine x_aload_n hC dX9_soonest_40 rfl (j := 0) rfl <| s_getR (q := 63) hC dX9_soonest_41 wfl_X9_79 rfl (by decide) (by decide) (by decide) (by decide) (by decide) <| x_bipush (v := (10 : Int32)) hC dX9_soonest_44 (by decide) <| x_aload_n hC dX9_soonest_46 rfl (j := 0) rfl <| s_getI hC dX9_soonest_47 wfl_X9_169 rfl (by decide) (by decide) (by decide) (by decide) <| x_imul hC dX9_soonest_50 <| ?_
      refine x_aload_n hC dX9_soonest_51 rfl (j := 0) rfl <| s_getI hC dX9_soonest_52 wfl_X9_172 rfl (by decide) (by decide) (by decide) (by decide) <| x_iadd hC dX9_soonest_55 <| x_aload_n hC dX9_soonest_56 rfl (j := 0) rfl <| s_getI hC dX9_soonest_57 wfl_X9_29 rfl (by decide) (by decide) (by decide) (by decide) <| ?_
      obtain ⟨h6, h⟩ := xgd_some h
      refine s_iast hC dX9_soonest_60 rfl (by decide) h6 <| ?_
      refine x_iconst (v := (0 : Int32)) hC dX9_soonest_61 (by decide) <| x_istore_n hC dX9_soonest_62 rfl (by decide) rfl <| ?_
      refine x_sub [1, 2, 3, 0] rfl ?_
      exact B_X9_soonest_63 hC hR hE xFU l1 l2 (0 : Int32) (yI σ 63 (((10 : Int32) * (σ.1 43 8)) + (σ.1 43 10)).toNatClampNeg (σ.1 43 9)) h
    · replace h := (if_neg c5).symm.trans h
      refine x_aload_n hC dX9_soonest_27 rfl (j := 0) rfl <| s_getR (q := 63) hC dX9_soonest_28 wfl_X9_79 rfl (by decide) (by decide) (by decide) (by decide) (by decide) <| x_iload_n hC dX9_soonest_31 rfl (j := 3) rfl <| x_iconst (v := (-1 : Int32)) hC dX9_soonest_32 (by decide) <| ?_
      obtain ⟨h14, h⟩ := xgd_some h
      refine s_iast hC dX9_soonest_33 rfl (by decide) h14 <| ?_
      refine x_iinc hC dX9_soonest_34 (j := 3) (v := (l3 + (1 : Int32))) rfl rfl (by decide) rfl <| x_goto (tgt := 20) hC dX9_soonest_37 (by decide) <| ?_
      refine x_sub [1, 2, 3, 0] rfl ?_
      exact ih l1 l2 (l3 + (1 : Int32)) (yI σ 63 l3.toNatClampNeg (-1 : Int32)) h
set_option maxRecDepth 100000 in
set_option maxHeartbeats 4000000 in
theorem C_X9_soonest {G : xG} {l : Launch} {a1 : Int32} {a2 : Int32} {σ : xS2} {r : Int32} {τ : xS2} (h : J_X9_soonest a1 a2 σ = some (r, τ)) : xC G l mM_X9_soonest 4 [.ref (xad G 43), .int a1, .int a2] (xM σ) (some (.int r)) (xM τ) := by
  refine xC_of (by decide) rfl (Nat.le_refl _) (Nat.le_of_ble_eq_true rfl) (fun K hC hE hR _ => ?_)
  refine x_iload_n hC dX9_soonest_0 rfl (j := 1) rfl <| x_callS hC hR dX9_soonest_1 mK_X9_isCell wml_X9_141 (C_X9_isCell (a0 := a1) (σ := σ)) (by omega) rfl (Nat.le_of_ble_eq_true rfl) rfl rfl rfl <| ?_
  refine x_if_eq (tgt := 16) hC dX9_soonest_4 (by decide) (fun c2 => ?_) (fun c2 => ?_)
  · replace h := (if_pos c2).symm.trans h
    refine x_iconst (v := (-1 : Int32)) hC dX9_soonest_16 (by decide) <| ?_
    obtain ⟨e1, e2⟩ := xso2 h
    subst e1
    subst e2
    exact x_iret (rest := []) hC hE rfl dX9_soonest_17
  · replace h := (if_neg c2).symm.trans h
    refine x_iload_n hC dX9_soonest_7 rfl (j := 2) rfl <| x_iconst (v := (0 : Int32)) hC dX9_soonest_8 (by decide) <| x_iconst (v := (1 : Int32)) hC dX9_soonest_9 (by decide) <| x_callS hC hR dX9_soonest_10 mK_X9_in wml_X9_116 (C_X9_in (a0 := a2) (a1 := (0 : Int32)) (a2 := (1 : Int32)) (σ := σ)) (by omega) rfl (Nat.le_of_ble_eq_true rfl) rfl rfl rfl <| ?_
    refine x_if_ne (tgt := 18) hC dX9_soonest_13 (by decide) (fun c4 => ?_) (fun c4 => ?_)
    · replace h := (if_neg c4).symm.trans h
      refine x_iconst (v := (0 : Int32)) hC dX9_soonest_18 (by decide) <| x_istore_n hC dX9_soonest_19 rfl (by decide) rfl <| ?_
      refine x_sub [1, 2, 3, 0] rfl ?_
      exact B_X9_soonest_20 hC hR hE xFU a1 a2 (0 : Int32) σ h
    · replace h := (if_pos c4).symm.trans h
      refine x_iconst (v := (-1 : Int32)) hC dX9_soonest_16 (by decide) <| ?_
      obtain ⟨e1, e2⟩ := xso2 h
      subst e1
      subst e2
      exact x_iret (rest := []) hC hE rfl dX9_soonest_17
set_option maxRecDepth 100000 in
set_option maxHeartbeats 4000000 in
theorem C_X9_taken {G : xG} {l : Launch} {a1 : Int32} {a2 : Int32} {σ : xS2} {r : Int32} (h : J_X9_taken a1 a2 σ = some r) : xC G l mM_X9_taken 2 [.ref (xad G 43), .int a1, .int a2] (xM σ) (some (.int r)) (xM σ) := by
  refine xC_of (by decide) rfl (Nat.le_refl _) (Nat.le_of_ble_eq_true rfl) (fun K hC hE hR _ => ?_)
  refine x_iload_n hC dX9_taken_0 rfl (j := 1) rfl <| x_callS hC hR dX9_taken_1 mK_X9_isShelf wml_X9_179 (C_X9_isShelf (a0 := a1) (σ := σ)) (by omega) rfl (Nat.le_of_ble_eq_true rfl) rfl rfl rfl <| ?_
  refine x_if_eq (tgt := 17) hC dX9_taken_4 (by decide) (fun c2 => ?_) (fun c2 => ?_)
  · replace h := (if_pos c2).symm.trans h
    refine x_iconst (v := (-1 : Int32)) hC dX9_taken_17 (by decide) <| ?_
    have e1 := Option.some.inj h
    subst e1
    exact x_iret (rest := []) hC hE rfl dX9_taken_18
  · replace h := (if_neg c2).symm.trans h
    refine x_iload_n hC dX9_taken_7 rfl (j := 2) rfl <| x_iconst (v := (0 : Int32)) hC dX9_taken_8 (by decide) <| x_bipush (v := (7 : Int32)) hC dX9_taken_9 (by decide) <| x_callS hC hR dX9_taken_11 mK_X9_in wml_X9_116 (C_X9_in (a0 := a2) (a1 := (0 : Int32)) (a2 := (7 : Int32)) (σ := σ)) (by omega) rfl (Nat.le_of_ble_eq_true rfl) rfl rfl rfl <| ?_
    refine x_if_ne (tgt := 19) hC dX9_taken_14 (by decide) (fun c4 => ?_) (fun c4 => ?_)
    · replace h := (if_neg c4).symm.trans h
      refine x_aload_n hC dX9_taken_19 rfl (j := 0) rfl <| s_getR (q := 70) hC dX9_taken_20 wfl_X9_100 rfl (by decide) (by decide) (by decide) (by decide) (by decide) <| x_iload_n hC dX9_taken_23 rfl (j := 1) rfl <| ?_
      obtain ⟨h5, h⟩ := xgd_some h
      refine s_iald hC dX9_taken_24 rfl (by decide) h5 <| ?_
      refine x_iconst (v := (-1 : Int32)) hC dX9_taken_25 (by decide) <| ?_
      refine x_icmp_ne (tgt := 32) hC dX9_taken_26 (by decide) (fun c6 => ?_) (fun c6 => ?_)
      · replace h := (if_neg c6).symm.trans h
        refine x_aload_n hC dX9_taken_32 rfl (j := 0) rfl <| s_getR (q := 70) hC dX9_taken_33 wfl_X9_100 rfl (by decide) (by decide) (by decide) (by decide) (by decide) <| x_iload_n hC dX9_taken_36 rfl (j := 1) rfl <| ?_
        obtain ⟨h7, h⟩ := xgd_some h
        refine s_iald hC dX9_taken_37 rfl (by decide) h7 <| ?_
        refine x_if_lt (tgt := 73) hC dX9_taken_38 (by decide) (fun c8 => ?_) (fun c8 => ?_)
        · replace h := (if_pos c8).symm.trans h
          refine x_bipush (v := (-12 : Int32)) hC dX9_taken_73 (by decide) <| ?_
          have e1 := Option.some.inj h
          subst e1
          exact x_iret (rest := []) hC hE rfl dX9_taken_75
        · replace h := (if_neg c8).symm.trans h
          refine x_aload_n hC dX9_taken_41 rfl (j := 0) rfl <| s_getR (q := 68) hC dX9_taken_42 wfl_X9_94 rfl (by decide) (by decide) (by decide) (by decide) (by decide) <| x_aload_n hC dX9_taken_45 rfl (j := 0) rfl <| s_getR (q := 70) hC dX9_taken_46 wfl_X9_100 rfl (by decide) (by decide) (by decide) (by decide) (by decide) <| x_iload_n hC dX9_taken_49 rfl (j := 1) rfl <| ?_
          obtain ⟨h9, h⟩ := xgd_some h
          refine s_iald hC dX9_taken_50 rfl (by decide) h9 <| ?_
          obtain ⟨h10, h⟩ := xgd_some h
          refine s_iald hC dX9_taken_51 rfl (by decide) h10 <| ?_
          refine x_iload_n hC dX9_taken_52 rfl (j := 2) rfl <| x_callS hC hR dX9_taken_53 mK_X9_isUnder wml_X9_385 (C_X9_isUnder (a0 := (σ.1 68 (σ.1 70 a1.toNatClampNeg).toNatClampNeg)) (a1 := a2) (σ := σ)) (by omega) rfl (Nat.le_of_ble_eq_true rfl) rfl rfl rfl <| ?_
          refine x_if_eq (tgt := 73) hC dX9_taken_56 (by decide) (fun c12 => ?_) (fun c12 => ?_)
          · replace h := (if_pos c12).symm.trans h
            refine x_bipush (v := (-12 : Int32)) hC dX9_taken_73 (by decide) <| ?_
            have e1 := Option.some.inj h
            subst e1
            exact x_iret (rest := []) hC hE rfl dX9_taken_75
          · replace h := (if_neg c12).symm.trans h
            refine x_aload_n hC dX9_taken_59 rfl (j := 0) rfl <| s_getR (q := 68) hC dX9_taken_60 wfl_X9_94 rfl (by decide) (by decide) (by decide) (by decide) (by decide) <| x_aload_n hC dX9_taken_63 rfl (j := 0) rfl <| s_getR (q := 70) hC dX9_taken_64 wfl_X9_100 rfl (by decide) (by decide) (by decide) (by decide) (by decide) <| x_iload_n hC dX9_taken_67 rfl (j := 1) rfl <| ?_
            obtain ⟨h13, h⟩ := xgd_some h
            refine s_iald hC dX9_taken_68 rfl (by decide) h13 <| ?_
            obtain ⟨h14, h⟩ := xgd_some h
            refine s_iald hC dX9_taken_69 rfl (by decide) h14 <| ?_
            refine x_goto (tgt := 75) hC dX9_taken_70 (by decide) <| ?_
            have e1 := Option.some.inj h
            subst e1
            exact x_iret (rest := []) hC hE rfl dX9_taken_75
      · replace h := (if_pos c6).symm.trans h
        refine x_bipush (v := (-11 : Int32)) hC dX9_taken_29 (by decide) <| ?_
        have e1 := Option.some.inj h
        subst e1
        exact x_iret (rest := []) hC hE rfl dX9_taken_31
    · replace h := (if_pos c4).symm.trans h
      refine x_iconst (v := (-1 : Int32)) hC dX9_taken_17 (by decide) <| ?_
      have e1 := Option.some.inj h
      subst e1
      exact x_iret (rest := []) hC hE rfl dX9_taken_18
set_option maxRecDepth 100000 in
set_option maxHeartbeats 4000000 in
theorem C_X9_trace {G : xG} {l : Launch} {a1 : Int32} {σ : xS2} {r : Int32} (h : J_X9_trace a1 σ = some r) : xC G l mM_X9_trace 0 [.ref (xad G 43), .int a1] (xM σ) (some (.int r)) (xM σ) := by
  refine xC_of (by decide) rfl (Nat.le_refl _) (Nat.le_of_ble_eq_true rfl) (fun K hC hE hR _ => ?_)
  refine x_iload_n hC dX9_trace_0 rfl (j := 1) rfl <| ?_
  refine x_if_lt (tgt := 27) hC dX9_trace_1 (by decide) (fun c1 => ?_) (fun c1 => ?_)
  · replace h := (if_pos c1).symm.trans h
    refine x_iconst (v := (-1 : Int32)) hC dX9_trace_27 (by decide) <| ?_
    have e1 := Option.some.inj h
    subst e1
    exact x_iret (rest := []) hC hE rfl dX9_trace_28
  · replace h := (if_neg c1).symm.trans h
    refine x_iload_n hC dX9_trace_4 rfl (j := 1) rfl <| x_aload_n hC dX9_trace_5 rfl (j := 0) rfl <| s_getI hC dX9_trace_6 wfl_X9_376 rfl (by decide) (by decide) (by decide) (by decide) <| ?_
    refine x_icmp_ge (tgt := 27) hC dX9_trace_9 (by decide) (fun c2 => ?_) (fun c2 => ?_)
    · replace h := (if_pos c2).symm.trans h
      refine x_iconst (v := (-1 : Int32)) hC dX9_trace_27 (by decide) <| ?_
      have e1 := Option.some.inj h
      subst e1
      exact x_iret (rest := []) hC hE rfl dX9_trace_28
    · replace h := (if_neg c2).symm.trans h
      refine x_iload_n hC dX9_trace_12 rfl (j := 1) rfl <| x_bipush (v := (24 : Int32)) hC dX9_trace_13 (by decide) <| ?_
      refine x_icmp_ge (tgt := 27) hC dX9_trace_15 (by decide) (fun c3 => ?_) (fun c3 => ?_)
      · replace h := (if_pos c3).symm.trans h
        refine x_iconst (v := (-1 : Int32)) hC dX9_trace_27 (by decide) <| ?_
        have e1 := Option.some.inj h
        subst e1
        exact x_iret (rest := []) hC hE rfl dX9_trace_28
      · replace h := (if_neg c3).symm.trans h
        refine x_aload_n hC dX9_trace_18 rfl (j := 0) rfl <| s_getR (q := 69) hC dX9_trace_19 wfl_X9_97 rfl (by decide) (by decide) (by decide) (by decide) (by decide) <| x_iload_n hC dX9_trace_22 rfl (j := 1) rfl <| ?_
        obtain ⟨h4, h⟩ := xgd_some h
        refine s_iald hC dX9_trace_23 rfl (by decide) h4 <| ?_
        refine x_goto (tgt := 28) hC dX9_trace_24 (by decide) <| ?_
        have e1 := Option.some.inj h
        subst e1
        exact x_iret (rest := []) hC hE rfl dX9_trace_28
set_option maxRecDepth 100000 in
set_option maxHeartbeats 4000000 in
theorem C_X9_undo {G : xG} {l : Launch} {σ : xS2} {r : Int32} {τ : xS2} (h : J_X9_undo σ = some (r, τ)) : xC G l mM_X9_undo 1 [.ref (xad G 43)] (xM σ) (some (.int r)) (xM τ) := by
  refine xC_of (by decide) rfl (Nat.le_refl _) (Nat.le_of_ble_eq_true rfl) (fun K hC hE hR _ => ?_)
  refine x_aload_n hC dX9_undo_0 rfl (j := 0) rfl <| s_getI hC dX9_undo_1 wfl_X9_134 rfl (by decide) (by decide) (by decide) (by decide) <| ?_
  refine x_if_ne (tgt := 10) hC dX9_undo_4 (by decide) (fun c1 => ?_) (fun c1 => ?_)
  · replace h := (if_neg c1).symm.trans h
    refine x_aload_n hC dX9_undo_10 rfl (j := 0) rfl <| x_dup hC dX9_undo_11 rfl <| s_getI hC dX9_undo_12 wfl_X9_134 rfl (by decide) (by decide) (by decide) (by decide) <| x_iconst (v := (1 : Int32)) hC dX9_undo_15 (by decide) <| x_isub hC dX9_undo_16 <| s_putI hC dX9_undo_17 wfl_X9_134 rfl (by decide) (by decide) (by decide) (by decide) (by decide) <| ?_
    refine x_aload_n hC dX9_undo_20 rfl (j := 0) rfl <| x_dup hC dX9_undo_21 rfl <| s_getI hC dX9_undo_22 wfl_X9_131 rfl (by decide) (by decide) (by decide) (by decide) <| x_iconst (v := (1 : Int32)) hC dX9_undo_25 (by decide) <| x_iadd hC dX9_undo_26 <| s_putI hC dX9_undo_27 wfl_X9_131 rfl (by decide) (by decide) (by decide) (by decide) (by decide) <| ?_
    refine x_aload_n hC dX9_undo_30 rfl (j := 0) rfl <| x_aload_n hC dX9_undo_31 rfl (j := 0) rfl <| s_getR (q := 50) hC dX9_undo_32 wfl_X9_38 rfl (by decide) (by decide) (by decide) (by decide) (by decide) <| x_aload_n hC dX9_undo_35 rfl (j := 0) rfl <| s_getI hC dX9_undo_36 wfl_X9_134 rfl (by decide) (by decide) (by decide) (by decide) <| ?_
    obtain ⟨h2, h⟩ := xgd_some h
    refine s_iald hC dX9_undo_39 rfl (by decide) h2 <| ?_
    refine x_aload_n hC dX9_undo_40 rfl (j := 0) rfl <| s_getR (q := 51) hC dX9_undo_41 wfl_X9_41 rfl (by decide) (by decide) (by decide) (by decide) (by decide) <| x_aload_n hC dX9_undo_44 rfl (j := 0) rfl <| s_getI hC dX9_undo_45 wfl_X9_134 rfl (by decide) (by decide) (by decide) (by decide) <| ?_
    obtain ⟨h3, h⟩ := xgd_some h
    refine s_iald hC dX9_undo_48 rfl (by decide) h3 <| ?_
    refine x_aload_n hC dX9_undo_49 rfl (j := 0) rfl <| s_getR (q := 52) hC dX9_undo_50 wfl_X9_44 rfl (by decide) (by decide) (by decide) (by decide) (by decide) <| x_aload_n hC dX9_undo_53 rfl (j := 0) rfl <| s_getI hC dX9_undo_54 wfl_X9_134 rfl (by decide) (by decide) (by decide) (by decide) <| ?_
    obtain ⟨h4, h⟩ := xgd_some h
    refine s_iald hC dX9_undo_57 rfl (by decide) h4 <| ?_
    obtain ⟨x5, h5, h⟩ := Option.bind_eq_some_iff.mp h
    refine x_callV hC hR dX9_undo_58 mK_X9_lays wml_X9_137 (C_X9_lays (a1 := (σ.1 50 ((σ.1 43 14) - (1 : Int32)).toNatClampNeg)) (a2 := (σ.1 51 ((σ.1 43 14) - (1 : Int32)).toNatClampNeg)) (a3 := (σ.1 52 ((σ.1 43 14) - (1 : Int32)).toNatClampNeg)) (σ := (yI (yI σ 43 14 ((σ.1 43 14) - (1 : Int32))) 43 15 ((σ.1 43 15) + (1 : Int32)))) h5) (by omega) rfl (by decide) rfl rfl (xlt (by decide)) rfl (Nat.le_of_ble_eq_true rfl) rfl rfl rfl <| ?_
    refine x_aload_n hC dX9_undo_61 rfl (j := 0) rfl <| s_getI hC dX9_undo_62 wfl_X9_134 rfl (by decide) (by decide) (by decide) (by decide) <| ?_
    obtain ⟨e1, e2⟩ := xso2 h
    subst e1
    subst e2
    exact x_iret (rest := []) hC hE rfl dX9_undo_65
  · replace h := (if_pos c1).symm.trans h
    refine x_bipush (v := (-5 : Int32)) hC dX9_undo_7 (by decide) <| ?_
    obtain ⟨e1, e2⟩ := xso2 h
    subst e1
    subst e2
    exact x_iret (rest := []) hC hE rfl dX9_undo_9
