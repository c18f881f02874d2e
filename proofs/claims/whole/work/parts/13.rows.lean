set_option maxRecDepth 100000 in
set_option maxHeartbeats 4000000 in
theorem C_X9_byteAt {G : xG} {l : Launch} {a1 : Int32} {a2 : Int32} {σ : xS2} {r : Int32} (h : J_X9_byteAt a1 a2 σ = some r) : xC G l mM_X9_byteAt 0 [.ref (xad G 43), .int a1, .int a2] (xM σ) (some (.int r)) (xM σ) := by
  refine xC_of (by decide) rfl (Nat.le_refl _) (Nat.le_of_ble_eq_true rfl) (fun K hC hE hR _ => ?_)
  refine x_aload_n hC dX9_byteAt_0 rfl (j := 0) rfl <| s_getR (q := 72) hC dX9_byteAt_1 wfl_X9_106 rfl (by decide) (by decide) (by decide) (by decide) (by decide) <| x_bipush (v := (60 : Int32)) hC dX9_byteAt_4 (by decide) <| x_iload_n hC dX9_byteAt_6 rfl (j := 1) rfl <| x_imul hC dX9_byteAt_7 <| x_iload_n hC dX9_byteAt_8 rfl (j := 2) rfl <| ?_
  refine x_iadd hC dX9_byteAt_9 <| ?_
  obtain ⟨h1, h⟩ := xgd_some h
  refine s_lald hC dX9_byteAt_10 rfl (by decide) h1 <| ?_
  refine x_l2i (v := ((σ.2 72 (((60 : Int32) * a1) + a2).toNatClampNeg).toInt32)) hC dX9_byteAt_11 rfl <| ?_
  have e1 := Option.some.inj h
  subst e1
  exact x_iret (rest := []) hC hE rfl dX9_byteAt_12
set_option maxRecDepth 100000 in
set_option maxHeartbeats 4000000 in
theorem C_X9_lays {G : xG} {l : Launch} {a1 : Int32} {a2 : Int32} {a3 : Int32} {σ : xS2} {τ : xS2} (h : J_X9_lays a1 a2 a3 σ = some τ) : xC G l mM_X9_lays 0 [.ref (xad G 43), .int a1, .int a2, .int a3] (xM σ) none (xM τ) := by
  refine xC_of (by decide) rfl (Nat.le_refl _) (Nat.le_of_ble_eq_true rfl) (fun K hC hE hR _ => ?_)
  refine x_iload_n hC dX9_lays_0 rfl (j := 1) rfl <| ?_
  by_cases c1 : a1 = (0 : Int32)
  · replace h := (if_pos c1).symm.trans h
    refine x_tsw (tgt := 36) hC dX9_lays_1 (by decide) (by rw [c1]; decide) ?_
    refine x_aload_n hC dX9_lays_36 rfl (j := 0) rfl <| s_getR (q := 44) hC dX9_lays_37 wfl_X9_7 rfl (by decide) (by decide) (by decide) (by decide) (by decide) <| x_iload_n hC dX9_lays_40 rfl (j := 2) rfl <| x_iload_n hC dX9_lays_41 rfl (j := 3) rfl <| ?_
    obtain ⟨h2, h⟩ := xgd_some h
    refine s_iast hC dX9_lays_42 rfl (by decide) h2 <| ?_
    refine x_goto (tgt := 89) hC dX9_lays_43 (by decide) <| ?_
    have e1 := Option.some.inj h
    subst e1
    exact x_vret (rest := []) hC hE rfl dX9_lays_89
  · replace h := (if_neg c1).symm.trans h
    by_cases c3 : a1 = (1 : Int32)
    · replace h := (if_pos c3).symm.trans h
      refine x_tsw (tgt := 46) hC dX9_lays_1 (by decide) (by rw [c3]; decide) ?_
      refine x_aload_n hC dX9_lays_46 rfl (j := 0) rfl <| s_getR (q := 45) hC dX9_lays_47 wfl_X9_13 rfl (by decide) (by decide) (by decide) (by decide) (by decide) <| x_iload_n hC dX9_lays_50 rfl (j := 2) rfl <| x_iload_n hC dX9_lays_51 rfl (j := 3) rfl <| ?_
      obtain ⟨h4, h⟩ := xgd_some h
      refine s_iast hC dX9_lays_52 rfl (by decide) h4 <| ?_
      refine x_goto (tgt := 89) hC dX9_lays_53 (by decide) <| ?_
      have e1 := Option.some.inj h
      subst e1
      exact x_vret (rest := []) hC hE rfl dX9_lays_89
    · replace h := (if_neg c3).symm.trans h
      by_cases c5 : a1 = (2 : Int32)
      · replace h := (if_pos c5).symm.trans h
        refine x_tsw (tgt := 56) hC dX9_lays_1 (by decide) (by rw [c5]; decide) ?_
        refine x_aload_n hC dX9_lays_56 rfl (j := 0) rfl <| s_getR (q := 46) hC dX9_lays_57 wfl_X9_16 rfl (by decide) (by decide) (by decide) (by decide) (by decide) <| x_iload_n hC dX9_lays_60 rfl (j := 2) rfl <| x_iload_n hC dX9_lays_61 rfl (j := 3) rfl <| ?_
        obtain ⟨h6, h⟩ := xgd_some h
        refine s_iast hC dX9_lays_62 rfl (by decide) h6 <| ?_
        refine x_goto (tgt := 89) hC dX9_lays_63 (by decide) <| ?_
        have e1 := Option.some.inj h
        subst e1
        exact x_vret (rest := []) hC hE rfl dX9_lays_89
      · replace h := (if_neg c5).symm.trans h
        by_cases c7 : a1 = (3 : Int32)
        · replace h := (if_pos c7).symm.trans h
          refine x_tsw (tgt := 66) hC dX9_lays_1 (by decide) (by rw [c7]; decide) ?_
          refine x_aload_n hC dX9_lays_66 rfl (j := 0) rfl <| s_getR (q := 47) hC dX9_lays_67 wfl_X9_19 rfl (by decide) (by decide) (by decide) (by decide) (by decide) <| x_iload_n hC dX9_lays_70 rfl (j := 2) rfl <| x_iload_n hC dX9_lays_71 rfl (j := 3) rfl <| ?_
          obtain ⟨h8, h⟩ := xgd_some h
          refine s_iast hC dX9_lays_72 rfl (by decide) h8 <| ?_
          refine x_goto (tgt := 89) hC dX9_lays_73 (by decide) <| ?_
          have e1 := Option.some.inj h
          subst e1
          exact x_vret (rest := []) hC hE rfl dX9_lays_89
        · replace h := (if_neg c7).symm.trans h
          by_cases c9 : a1 = (4 : Int32)
          · replace h := (if_pos c9).symm.trans h
            refine x_tsw (tgt := 76) hC dX9_lays_1 (by decide) (by rw [c9]; decide) ?_
            refine x_aload_n hC dX9_lays_76 rfl (j := 0) rfl <| x_iload_n hC dX9_lays_77 rfl (j := 3) rfl <| s_putI hC dX9_lays_78 wfl_X9_22 rfl (by decide) (by decide) (by decide) (by decide) (by decide) <| x_goto (tgt := 89) hC dX9_lays_81 (by decide) <| ?_
            have e1 := Option.some.inj h
            subst e1
            exact x_vret (rest := []) hC hE rfl dX9_lays_89
          · replace h := (if_neg c9).symm.trans h
            refine x_tsw (tgt := 84) hC dX9_lays_1 (by decide) ((xTs_else [0, 1, 2, 3, 4] (by decide) (by decide +kernel) (List.forall_mem_cons.mpr ⟨lv_neT c1 (by decide), (List.forall_mem_cons.mpr ⟨lv_neT c3 (by decide), (List.forall_mem_cons.mpr ⟨lv_neT c5 (by decide), (List.forall_mem_cons.mpr ⟨lv_neT c7 (by decide), (List.forall_mem_cons.mpr ⟨lv_neT c9 (by decide), (fun _ z => absurd z List.not_mem_nil)⟩)⟩)⟩)⟩)⟩)).trans (by decide)) ?_
            refine x_aload_n hC dX9_lays_84 rfl (j := 0) rfl <| x_iload_n hC dX9_lays_85 rfl (j := 3) rfl <| s_putI hC dX9_lays_86 wfl_X9_26 rfl (by decide) (by decide) (by decide) (by decide) (by decide) <| ?_
            have e1 := Option.some.inj h
            subst e1
            exact x_vret (rest := []) hC hE rfl dX9_lays_89
set_option maxRecDepth 100000 in
set_option maxHeartbeats 4000000 in
theorem C_X9_valueAt {G : xG} {l : Launch} {a1 : Int32} {a2 : Int32} {σ : xS2} {r : Int32} (h : J_X9_valueAt a1 a2 σ = some r) : xC G l mM_X9_valueAt 0 [.ref (xad G 43), .int a1, .int a2] (xM σ) (some (.int r)) (xM σ) := by
  refine xC_of (by decide) rfl (Nat.le_refl _) (Nat.le_of_ble_eq_true rfl) (fun K hC hE hR _ => ?_)
  refine x_iload_n hC dX9_valueAt_0 rfl (j := 1) rfl <| ?_
  by_cases c1 : a1 = (0 : Int32)
  · replace h := (if_pos c1).symm.trans h
    refine x_tsw (tgt := 36) hC dX9_valueAt_1 (by decide) (by rw [c1]; decide) ?_
    refine x_aload_n hC dX9_valueAt_36 rfl (j := 0) rfl <| s_getR (q := 44) hC dX9_valueAt_37 wfl_X9_7 rfl (by decide) (by decide) (by decide) (by decide) (by decide) <| x_iload_n hC dX9_valueAt_40 rfl (j := 2) rfl <| ?_
    obtain ⟨h2, h⟩ := xgd_some h
    refine s_iald hC dX9_valueAt_41 rfl (by decide) h2 <| ?_
    have e1 := Option.some.inj h
    subst e1
    exact x_iret (rest := []) hC hE rfl dX9_valueAt_42
  · replace h := (if_neg c1).symm.trans h
    by_cases c3 : a1 = (1 : Int32)
    · replace h := (if_pos c3).symm.trans h
      refine x_tsw (tgt := 43) hC dX9_valueAt_1 (by decide) (by rw [c3]; decide) ?_
      refine x_aload_n hC dX9_valueAt_43 rfl (j := 0) rfl <| s_getR (q := 45) hC dX9_valueAt_44 wfl_X9_13 rfl (by decide) (by decide) (by decide) (by decide) (by decide) <| x_iload_n hC dX9_valueAt_47 rfl (j := 2) rfl <| ?_
      obtain ⟨h4, h⟩ := xgd_some h
      refine s_iald hC dX9_valueAt_48 rfl (by decide) h4 <| ?_
      have e1 := Option.some.inj h
      subst e1
      exact x_iret (rest := []) hC hE rfl dX9_valueAt_49
    · replace h := (if_neg c3).symm.trans h
      by_cases c5 : a1 = (2 : Int32)
      · replace h := (if_pos c5).symm.trans h
        refine x_tsw (tgt := 50) hC dX9_valueAt_1 (by decide) (by rw [c5]; decide) ?_
        refine x_aload_n hC dX9_valueAt_50 rfl (j := 0) rfl <| s_getR (q := 46) hC dX9_valueAt_51 wfl_X9_16 rfl (by decide) (by decide) (by decide) (by decide) (by decide) <| x_iload_n hC dX9_valueAt_54 rfl (j := 2) rfl <| ?_
        obtain ⟨h6, h⟩ := xgd_some h
        refine s_iald hC dX9_valueAt_55 rfl (by decide) h6 <| ?_
        have e1 := Option.some.inj h
        subst e1
        exact x_iret (rest := []) hC hE rfl dX9_valueAt_56
      · replace h := (if_neg c5).symm.trans h
        by_cases c7 : a1 = (3 : Int32)
        · replace h := (if_pos c7).symm.trans h
          refine x_tsw (tgt := 57) hC dX9_valueAt_1 (by decide) (by rw [c7]; decide) ?_
          refine x_aload_n hC dX9_valueAt_57 rfl (j := 0) rfl <| s_getR (q := 47) hC dX9_valueAt_58 wfl_X9_19 rfl (by decide) (by decide) (by decide) (by decide) (by decide) <| x_iload_n hC dX9_valueAt_61 rfl (j := 2) rfl <| ?_
          obtain ⟨h8, h⟩ := xgd_some h
          refine s_iald hC dX9_valueAt_62 rfl (by decide) h8 <| ?_
          have e1 := Option.some.inj h
          subst e1
          exact x_iret (rest := []) hC hE rfl dX9_valueAt_63
        · replace h := (if_neg c7).symm.trans h
          by_cases c9 : a1 = (4 : Int32)
          · replace h := (if_pos c9).symm.trans h
            refine x_tsw (tgt := 64) hC dX9_valueAt_1 (by decide) (by rw [c9]; decide) ?_
            refine x_aload_n hC dX9_valueAt_64 rfl (j := 0) rfl <| s_getI hC dX9_valueAt_65 wfl_X9_22 rfl (by decide) (by decide) (by decide) (by decide) <| ?_
            have e1 := Option.some.inj h
            subst e1
            exact x_iret (rest := []) hC hE rfl dX9_valueAt_68
          · replace h := (if_neg c9).symm.trans h
            refine x_tsw (tgt := 69) hC dX9_valueAt_1 (by decide) ((xTs_else [0, 1, 2, 3, 4] (by decide) (by decide +kernel) (List.forall_mem_cons.mpr ⟨lv_neT c1 (by decide), (List.forall_mem_cons.mpr ⟨lv_neT c3 (by decide), (List.forall_mem_cons.mpr ⟨lv_neT c5 (by decide), (List.forall_mem_cons.mpr ⟨lv_neT c7 (by decide), (List.forall_mem_cons.mpr ⟨lv_neT c9 (by decide), (fun _ z => absurd z List.not_mem_nil)⟩)⟩)⟩)⟩)⟩)).trans (by decide)) ?_
            refine x_aload_n hC dX9_valueAt_69 rfl (j := 0) rfl <| s_getI hC dX9_valueAt_70 wfl_X9_26 rfl (by decide) (by decide) (by decide) (by decide) <| ?_
            have e1 := Option.some.inj h
            subst e1
            exact x_iret (rest := []) hC hE rfl dX9_valueAt_73
set_option maxRecDepth 100000 in
set_option maxHeartbeats 4000000 in
theorem B_X9_changes_121 {G : xG} {l : Launch} {K : xK} {r : Int32} {τ : xS2} (hC : xCX G mM_X9_changes K) (hR : xRd K 1) (hE : xE G K (some (.int r)) (xM τ)) : ∀ (l1 : Int32) (l2 : Int32) (l3 : Int32) (l4 : Int32) (σ : xS2), J_X9_changes_121 l1 l2 l3 l4 σ = some (r, τ) → xV G l mM_X9_changes K 121 [(0, .ref (xad G 43)), (1, .int l1), (2, .int l2), (3, .int l3), (4, .int l4)] [] (xM σ) := by
  intro l1 l2 l3 l4 σ h
  refine x_aload_n hC dX9_changes_121 rfl (j := 0) rfl <| s_getR (q := 50) hC dX9_changes_122 wfl_X9_38 rfl (by decide) (by decide) (by decide) (by decide) (by decide) <| x_aload_n hC dX9_changes_125 rfl (j := 0) rfl <| s_getI hC dX9_changes_126 wfl_X9_134 rfl (by decide) (by decide) (by decide) (by decide) <| x_iload_n hC dX9_changes_129 rfl (j := 1) rfl <| ?_
  obtain ⟨h4, h⟩ := xgd_some h
  refine s_iast hC dX9_changes_130 rfl (by decide) h4 <| ?_
  refine x_aload_n hC dX9_changes_131 rfl (j := 0) rfl <| s_getR (q := 51) hC dX9_changes_132 wfl_X9_41 rfl (by decide) (by decide) (by decide) (by decide) (by decide) <| x_aload_n hC dX9_changes_135 rfl (j := 0) rfl <| s_getI hC dX9_changes_136 wfl_X9_134 rfl (by decide) (by decide) (by decide) (by decide) <| x_iload_n hC dX9_changes_139 rfl (j := 2) rfl <| ?_
  obtain ⟨h5, h⟩ := xgd_some h
  refine s_iast hC dX9_changes_140 rfl (by decide) h5 <| ?_
  refine x_aload_n hC dX9_changes_141 rfl (j := 0) rfl <| s_getR (q := 52) hC dX9_changes_142 wfl_X9_44 rfl (by decide) (by decide) (by decide) (by decide) (by decide) <| x_aload_n hC dX9_changes_145 rfl (j := 0) rfl <| s_getI hC dX9_changes_146 wfl_X9_134 rfl (by decide) (by decide) (by decide) (by decide) <| x_iload hC dX9_changes_149 (j := 4) rfl <| ?_
  obtain ⟨h6, h⟩ := xgd_some h
  refine s_iast hC dX9_changes_151 rfl (by decide) h6 <| ?_
  refine x_aload_n hC dX9_changes_152 rfl (j := 0) rfl <| s_getR (q := 53) hC dX9_changes_153 wfl_X9_47 rfl (by decide) (by decide) (by decide) (by decide) (by decide) <| x_aload_n hC dX9_changes_156 rfl (j := 0) rfl <| s_getI hC dX9_changes_157 wfl_X9_134 rfl (by decide) (by decide) (by decide) (by decide) <| x_iload_n hC dX9_changes_160 rfl (j := 3) rfl <| ?_
  obtain ⟨h7, h⟩ := xgd_some h
  refine s_iast hC dX9_changes_161 rfl (by decide) h7 <| ?_
  refine x_aload_n hC dX9_changes_162 rfl (j := 0) rfl <| x_dup hC dX9_changes_163 rfl <| s_getI hC dX9_changes_164 wfl_X9_134 rfl (by decide) (by decide) (by decide) (by decide) <| x_iconst (v := (1 : Int32)) hC dX9_changes_167 (by decide) <| x_iadd hC dX9_changes_168 <| s_putI hC dX9_changes_169 wfl_X9_134 rfl (by decide) (by decide) (by decide) (by decide) (by decide) <| ?_
  refine x_aload_n hC dX9_changes_172 rfl (j := 0) rfl <| x_iload_n hC dX9_changes_173 rfl (j := 1) rfl <| x_iload_n hC dX9_changes_174 rfl (j := 2) rfl <| x_iload_n hC dX9_changes_175 rfl (j := 3) rfl <| ?_
  obtain ⟨x8, h8, h⟩ := Option.bind_eq_some_iff.mp h
  refine x_callV hC hR dX9_changes_176 mK_X9_lays wml_X9_137 (C_X9_lays (a1 := l1) (a2 := l2) (a3 := l3) (σ := (yI (yI (yI (yI (yI σ 50 (σ.1 43 14).toNatClampNeg l1) 51 (σ.1 43 14).toNatClampNeg l2) 52 (σ.1 43 14).toNatClampNeg l4) 53 (σ.1 43 14).toNatClampNeg l3) 43 14 ((σ.1 43 14) + (1 : Int32)))) h8) (by omega) rfl (by decide) rfl rfl (xlt (by decide)) rfl (Nat.le_of_ble_eq_true rfl) rfl rfl rfl <| ?_
  refine x_iload hC dX9_changes_179 (j := 4) rfl <| ?_
  obtain ⟨e1, e2⟩ := xso2 h
  subst e1
  subst e2
  exact x_iret (rest := []) hC hE rfl dX9_changes_181
set_option maxRecDepth 100000 in
set_option maxHeartbeats 4000000 in
theorem B_X9_changes_34 {G : xG} {l : Launch} {K : xK} {r : Int32} {τ : xS2} (hC : xCX G mM_X9_changes K) (hR : xRd K 1) (hE : xE G K (some (.int r)) (xM τ)) : ∀ (f : Nat) (l1 : Int32) (l2 : Int32) (l3 : Int32) (l4 : Int32) (l5 : Int32) (σ : xS2), J_X9_changes_34 f l1 l2 l3 l4 l5 σ = some (r, τ) → xV G l mM_X9_changes K 34 [(0, .ref (xad G 43)), (1, .int l1), (2, .int l2), (3, .int l3), (4, .int l4), (5, .int l5)] [] (xM σ) := by
  intro f
  induction f with
  | zero => intro l1 l2 l3 l4 l5 σ h; cases h
  | succ f ih =>
    intro l1 l2 l3 l4 l5 σ h
    refine x_iload hC dX9_changes_34 (j := 5) rfl <| x_bipush (v := (40 : Int32)) hC dX9_changes_36 (by decide) <| ?_
    refine x_icmp_ge (tgt := 111) hC dX9_changes_38 (by decide) (fun c9 => ?_) (fun c9 => ?_)
    · replace h := (if_pos c9).symm.trans h
      refine x_aload_n hC dX9_changes_111 rfl (j := 0) rfl <| x_dup hC dX9_changes_112 rfl <| s_getI hC dX9_changes_113 wfl_X9_134 rfl (by decide) (by decide) (by decide) (by decide) <| x_iconst (v := (1 : Int32)) hC dX9_changes_116 (by decide) <| x_isub hC dX9_changes_117 <| s_putI hC dX9_changes_118 wfl_X9_134 rfl (by decide) (by decide) (by decide) (by decide) (by decide) <| ?_
      refine x_sub [0, 1, 2, 3, 4] rfl ?_
      exact B_X9_changes_121 hC hR hE l1 l2 l3 l4 (yI σ 43 14 ((σ.1 43 14) - (1 : Int32))) h
    · replace h := (if_neg c9).symm.trans h
      refine x_aload_n hC dX9_changes_41 rfl (j := 0) rfl <| s_getR (q := 50) hC dX9_changes_42 wfl_X9_38 rfl (by decide) (by decide) (by decide) (by decide) (by decide) <| x_iload hC dX9_changes_45 (j := 5) rfl <| x_iconst (v := (1 : Int32)) hC dX9_changes_47 (by decide) <| x_isub hC dX9_changes_48 <| x_aload_n hC dX9_changes_49 rfl (j := 0) rfl <| ?_
      refine s_getR (q := 50) hC dX9_changes_50 wfl_X9_38 rfl (by decide) (by decide) (by decide) (by decide) (by decide) <| x_iload hC dX9_changes_53 (j := 5) rfl <| ?_
      obtain ⟨h10, h⟩ := xgd_some h
      refine s_iald hC dX9_changes_55 rfl (by decide) h10 <| ?_
      obtain ⟨h11, h⟩ := xgd_some h
      refine s_iast hC dX9_changes_56 rfl (by decide) h11 <| ?_
      refine x_aload_n hC dX9_changes_57 rfl (j := 0) rfl <| s_getR (q := 51) hC dX9_changes_58 wfl_X9_41 rfl (by decide) (by decide) (by decide) (by decide) (by decide) <| x_iload hC dX9_changes_61 (j := 5) rfl <| x_iconst (v := (1 : Int32)) hC dX9_changes_63 (by decide) <| x_isub hC dX9_changes_64 <| x_aload_n hC dX9_changes_65 rfl (j := 0) rfl <| ?_
      refine s_getR (q := 51) hC dX9_changes_66 wfl_X9_41 rfl (by decide) (by decide) (by decide) (by decide) (by decide) <| x_iload hC dX9_changes_69 (j := 5) rfl <| ?_
      obtain ⟨h12, h⟩ := xgd_some h
      refine s_iald hC dX9_changes_71 rfl (by decide) h12 <| ?_
      obtain ⟨h13, h⟩ := xgd_some h
      refine s_iast hC dX9_changes_72 rfl (by decide) h13 <| ?_
      refine x_aload_n hC dX9_changes_73 rfl (j := 0) rfl <| s_getR (q := 52) hC dX9_changes_74 wfl_X9_44 rfl (by decide) (by decide) (by decide) (by decide) (by decide) <| x_iload hC dX9_changes_77 (j := 5) rfl <| x_iconst (v := (1 : Int32)) hC dX9_changes_79 (by decide) <| x_isub hC dX9_changes_80 <| x_aload_n hC dX9_changes_81 rfl (j := 0) rfl <| ?_
      refine s_getR (q := 52) hC dX9_changes_82 wfl_X9_44 rfl (by decide) (by decide) (by decide) (by decide) (by decide) <| x_iload hC dX9_changes_85 (j := 5) rfl <| ?_
      obtain ⟨h14, h⟩ := xgd_some h
      refine s_iald hC dX9_changes_87 rfl (by decide) h14 <| ?_
      obtain ⟨h15, h⟩ := xgd_some h
      refine s_iast hC dX9_changes_88 rfl (by decide) h15 <| ?_
      refine x_aload_n hC dX9_changes_89 rfl (j := 0) rfl <| s_getR (q := 53) hC dX9_changes_90 wfl_X9_47 rfl (by decide) (by decide) (by decide) (by decide) (by decide) <| x_iload hC dX9_changes_93 (j := 5) rfl <| x_iconst (v := (1 : Int32)) hC dX9_changes_95 (by decide) <| x_isub hC dX9_changes_96 <| x_aload_n hC dX9_changes_97 rfl (j := 0) rfl <| ?_
      refine s_getR (q := 53) hC dX9_changes_98 wfl_X9_47 rfl (by decide) (by decide) (by decide) (by decide) (by decide) <| x_iload hC dX9_changes_101 (j := 5) rfl <| ?_
      obtain ⟨h16, h⟩ := xgd_some h
      refine s_iald hC dX9_changes_103 rfl (by decide) h16 <| ?_
      obtain ⟨h17, h⟩ := xgd_some h
      refine s_iast hC dX9_changes_104 rfl (by decide) h17 <| ?_
      refine x_iinc hC dX9_changes_105 (j := 5) (v := (l5 + (1 : Int32))) rfl rfl (by decide) rfl <| x_goto (tgt := 34) hC dX9_changes_108 (by decide) <| ?_
      refine x_sub [1, 2, 3, 4, 5, 0] rfl ?_
      exact ih l1 l2 l3 l4 (l5 + (1 : Int32)) (yI (yI (yI (yI σ 50 (l5 - (1 : Int32)).toNatClampNeg (σ.1 50 l5.toNatClampNeg)) 51 (l5 - (1 : Int32)).toNatClampNeg (σ.1 51 l5.toNatClampNeg)) 52 (l5 - (1 : Int32)).toNatClampNeg (σ.1 52 l5.toNatClampNeg)) 53 (l5 - (1 : Int32)).toNatClampNeg (σ.1 53 l5.toNatClampNeg)) h
set_option maxRecDepth 100000 in
set_option maxHeartbeats 4000000 in
theorem C_X9_changes {G : xG} {l : Launch} {a1 : Int32} {a2 : Int32} {a3 : Int32} {σ : xS2} {r : Int32} {τ : xS2} (h : J_X9_changes a1 a2 a3 σ = some (r, τ)) : xC G l mM_X9_changes 1 [.ref (xad G 43), .int a1, .int a2, .int a3] (xM σ) (some (.int r)) (xM τ) := by
  refine xC_of (by decide) rfl (Nat.le_refl _) (Nat.le_of_ble_eq_true rfl) (fun K hC hE hR _ => ?_)
  refine x_aload_n hC dX9_changes_0 rfl (j := 0) rfl <| x_iload_n hC dX9_changes_1 rfl (j := 1) rfl <| x_iload_n hC dX9_changes_2 rfl (j := 2) rfl <| ?_
  obtain ⟨x1, h1, h⟩ := Option.bind_eq_some_iff.mp h
  refine x_callV hC hR dX9_changes_3 mK_X9_valueAt wml_X9_128 (C_X9_valueAt (a1 := a1) (a2 := a2) (σ := σ) h1) (by omega) rfl (by decide) rfl rfl (xlt (by decide)) rfl (Nat.le_of_ble_eq_true rfl) rfl rfl rfl <| ?_
  refine x_istore hC dX9_changes_6 (by decide) rfl <| x_iload hC dX9_changes_8 (j := 0) rfl <| x_iload_n hC dX9_changes_10 rfl (j := 4) rfl <| ?_
  refine x_icmp_ne (tgt := 17) hC dX9_changes_11 (by decide) (fun c2 => ?_) (fun c2 => ?_)
  · replace h := (if_neg c2).symm.trans h
    refine x_aload_n hC dX9_changes_17 rfl (j := 1) rfl <| x_iconst (v := (0 : Int32)) hC dX9_changes_18 (by decide) <| s_putI hC dX9_changes_19 wfl_X9_131 rfl (by decide) (by decide) (by decide) (by decide) (by decide) <| x_aload_n hC dX9_changes_22 rfl (j := 1) rfl <| s_getI hC dX9_changes_23 wfl_X9_134 rfl (by decide) (by decide) (by decide) (by decide) <| x_bipush (v := (40 : Int32)) hC dX9_changes_26 (by decide) <| ?_
    refine x_icmp_ne (tgt := 121) hC dX9_changes_28 (by decide) (fun c3 => ?_) (fun c3 => ?_)
    · replace h := (if_neg c3).symm.trans h
      refine x_sub [1, 2, 3, 4, 0] rfl ?_
      exact B_X9_changes_121 hC hR hE a1 a2 a3 x1 (yI σ 43 15 (0 : Int32)) h
    · replace h := (if_pos c3).symm.trans h
      refine x_iconst (v := (1 : Int32)) hC dX9_changes_31 (by decide) <| x_istore hC dX9_changes_32 (by decide) rfl <| ?_
      refine x_sub [2, 3, 4, 5, 1, 0] rfl ?_
      exact B_X9_changes_34 hC hR hE xFU a1 a2 a3 x1 (1 : Int32) (yI σ 43 15 (0 : Int32)) h
  · replace h := (if_pos c2).symm.trans h
    refine x_iload hC dX9_changes_14 (j := 0) rfl <| ?_
    obtain ⟨e1, e2⟩ := xso2 h
    subst e1
    subst e2
    exact x_iret (rest := []) hC hE rfl dX9_changes_16
set_option maxRecDepth 100000 in
set_option maxHeartbeats 4000000 in
theorem B_X9_costOf_30 {G : xG} {l : Launch} {K : xK} {r : Int32} {σ : xS2} (hC : xCX G mM_X9_costOf K) (hR : xRd K 1) (hE : xE G K (some (.int r)) (xM σ)) : ∀ (s0 : Int32) (s1 : Int32), J_X9_costOf_30 s0 s1 σ = some r → xV G l mM_X9_costOf K 30 [(0, .ref (xad G 43))] [.int s1, .int s0] (xM σ) := by
  intro s0 s1 h
  refine x_iadd hC dX9_costOf_30 <| x_bipush (v := (6 : Int32)) hC dX9_costOf_31 (by decide) <| x_iadd hC dX9_costOf_33 <| x_aload_n hC dX9_costOf_34 rfl (j := 0) rfl <| s_getI hC dX9_costOf_35 wfl_X9_22 rfl (by decide) (by decide) (by decide) (by decide) <| x_isub hC dX9_costOf_38 <| ?_
  have e1 := Option.some.inj h
  subst e1
  exact x_iret (rest := []) hC hE rfl dX9_costOf_39
set_option maxRecDepth 100000 in
set_option maxHeartbeats 4000000 in
theorem C_X9_costOf {G : xG} {l : Launch} {a1 : Int32} {a2 : Int32} {σ : xS2} {r : Int32} (h : J_X9_costOf a1 a2 σ = some r) : xC G l mM_X9_costOf 1 [.ref (xad G 43), .int a1, .int a2] (xM σ) (some (.int r)) (xM σ) := by
  refine xC_of (by decide) rfl (Nat.le_refl _) (Nat.le_of_ble_eq_true rfl) (fun K hC hE hR _ => ?_)
  refine x_aload_n hC dX9_costOf_0 rfl (j := 0) rfl <| s_getR (q := 44) hC dX9_costOf_1 wfl_X9_7 rfl (by decide) (by decide) (by decide) (by decide) (by decide) <| x_iload_n hC dX9_costOf_4 rfl (j := 1) rfl <| x_iload_n hC dX9_costOf_5 rfl (j := 2) rfl <| x_callS hC hR dX9_costOf_6 mK_X9_beside wml_X9_120 (C_X9_beside (a0 := a1) (a1 := a2) (σ := σ)) (by omega) rfl (Nat.le_of_ble_eq_true rfl) rfl rfl rfl <| ?_
  obtain ⟨h2, h⟩ := xgd_some h
  refine s_iald hC dX9_costOf_9 rfl (by decide) h2 <| ?_
  refine x_aload_n hC dX9_costOf_10 rfl (j := 0) rfl <| s_getR (q := 44) hC dX9_costOf_11 wfl_X9_7 rfl (by decide) (by decide) (by decide) (by decide) (by decide) <| x_iload_n hC dX9_costOf_14 rfl (j := 1) rfl <| ?_
  obtain ⟨h3, h⟩ := xgd_some h
  refine s_iald hC dX9_costOf_15 rfl (by decide) h3 <| ?_
  refine x_isub hC dX9_costOf_16 <| x_istore_n hC dX9_costOf_17 rfl (by decide) rfl <| x_iconst (v := (3 : Int32)) hC dX9_costOf_18 (by decide) <| x_iload_n hC dX9_costOf_19 rfl (j := 0) rfl <| ?_
  refine x_if_le (tgt := 29) hC dX9_costOf_20 (by decide) (fun c4 => ?_) (fun c4 => ?_)
  · replace h := (if_pos c4).symm.trans h
    refine x_iconst (v := (0 : Int32)) hC dX9_costOf_29 (by decide) <| ?_
    refine x_sub [1] rfl ?_
    exact B_X9_costOf_30 hC hR hE (3 : Int32) (0 : Int32) h
  · replace h := (if_neg c4).symm.trans h
    refine x_iconst (v := (2 : Int32)) hC dX9_costOf_23 (by decide) <| x_iload_n hC dX9_costOf_24 rfl (j := 0) rfl <| x_imul hC dX9_costOf_25 <| x_goto (tgt := 30) hC dX9_costOf_26 (by decide) <| ?_
    refine x_sub [1] rfl ?_
    exact B_X9_costOf_30 hC hR hE (3 : Int32) ((2 : Int32) * ((σ.1 44 (J_X9_beside a1 a2).toNatClampNeg) - (σ.1 44 a1.toNatClampNeg))) h
set_option maxRecDepth 100000 in
set_option maxHeartbeats 4000000 in
theorem B_X9_findFar_133 {G : xG} {l : Launch} {K : xK} {τ : xS2} (hC : xCX G mM_X9_findFar K) (hR : xRd K 2) (hE : xE G K none (xM τ)) {k34 : Bool → xS2 → Option xS2} (hk34 : ∀ (l2 : Bool) (σ : xS2), k34 l2 σ = some τ → xV G l mM_X9_findFar K 34 [(0, .ref (xad G 43)), (2, .int (xb l2))] [] (xM σ)) {k42 : Bool → Int32 → xS2 → Option xS2} (hk42 : ∀ (l2 : Bool) (l3 : Int32) (σ : xS2), k42 l2 l3 σ = some τ → xV G l mM_X9_findFar K 42 [(0, .ref (xad G 43)), (2, .int (xb l2)), (3, .int l3)] [] (xM σ)) {k51 : Bool → Int32 → Int32 → xS2 → Option xS2} (hk51 : ∀ (l2 : Bool) (l3 : Int32) (l4 : Int32) (σ : xS2), k51 l2 l3 l4 σ = some τ → xV G l mM_X9_findFar K 51 [(0, .ref (xad G 43)), (2, .int (xb l2)), (3, .int l3), (4, .int l4)] [] (xM σ)) : ∀ (l2 : Bool) (l3 : Int32) (l4 : Int32) (σ : xS2), J_X9_findFar_133 k34 k42 k51 l2 l3 l4 σ = some τ → xV G l mM_X9_findFar K 133 [(0, .ref (xad G 43)), (2, .int (xb l2)), (3, .int l3), (4, .int l4)] [] (xM σ) := by
  intro l2 l3 l4 σ h
  refine x_iinc hC dX9_findFar_133 (j := 3) (v := (l4 + (1 : Int32))) rfl rfl (by decide) rfl <| x_goto (tgt := 51) hC dX9_findFar_136 (by decide) <| ?_
  refine x_sub [1, 2, 3, 0] rfl ?_
  exact hk51 l2 l3 (l4 + (1 : Int32)) σ h
set_option maxRecDepth 100000 in
set_option maxHeartbeats 4000000 in
theorem B_X9_findFar_51 {G : xG} {l : Launch} {K : xK} {τ : xS2} (hC : xCX G mM_X9_findFar K) (hR : xRd K 2) (hE : xE G K none (xM τ)) {k34 : Bool → xS2 → Option xS2} (hk34 : ∀ (l2 : Bool) (σ : xS2), k34 l2 σ = some τ → xV G l mM_X9_findFar K 34 [(0, .ref (xad G 43)), (2, .int (xb l2))] [] (xM σ)) {k42 : Bool → Int32 → xS2 → Option xS2} (hk42 : ∀ (l2 : Bool) (l3 : Int32) (σ : xS2), k42 l2 l3 σ = some τ → xV G l mM_X9_findFar K 42 [(0, .ref (xad G 43)), (2, .int (xb l2)), (3, .int l3)] [] (xM σ)) : ∀ (f : Nat) (l2 : Bool) (l3 : Int32) (l4 : Int32) (σ : xS2), J_X9_findFar_51 k34 k42 f l2 l3 l4 σ = some τ → xV G l mM_X9_findFar K 51 [(0, .ref (xad G 43)), (2, .int (xb l2)), (3, .int l3), (4, .int l4)] [] (xM σ) := by
  intro f
  induction f with
  | zero => intro l2 l3 l4 σ h; cases h
  | succ f ih =>
    intro l2 l3 l4 σ h
    refine x_iload hC dX9_findFar_51 (j := 3) rfl <| x_iconst (v := (4 : Int32)) hC dX9_findFar_53 (by decide) <| ?_
    refine x_icmp_gt (tgt := 139) hC dX9_findFar_54 (by decide) (fun c4 => ?_) (fun c4 => ?_)
    · replace h := (if_pos c4).symm.trans h
      refine x_iinc hC dX9_findFar_139 (j := 2) (v := (l3 + (1 : Int32))) rfl rfl (by decide) rfl <| x_goto (tgt := 42) hC dX9_findFar_142 (by decide) <| ?_
      refine x_sub [1, 2, 0] rfl ?_
      exact hk42 l2 (l3 + (1 : Int32)) σ h
    · replace h := (if_neg c4).symm.trans h
      refine x_iload_n hC dX9_findFar_57 rfl (j := 2) rfl <| x_iload hC dX9_findFar_58 (j := 3) rfl <| x_callS hC hR dX9_findFar_60 mK_X9_beside wml_X9_120 (C_X9_beside (a0 := l3) (a1 := l4) (σ := σ)) (by omega) rfl (Nat.le_of_ble_eq_true rfl) rfl rfl rfl <| x_istore hC dX9_findFar_63 (by decide) rfl <| x_iload hC dX9_findFar_65 (j := 0) rfl <| ?_
      refine x_if_lt (tgt := 133) hC dX9_findFar_67 (by decide) (fun c6 => ?_) (fun c6 => ?_)
      · replace h := (if_pos c6).symm.trans h
        refine x_sub [1, 2, 3, 4] rfl ?_
        exact B_X9_findFar_133 hC hR hE hk34 hk42 ih l2 l3 l4 σ h
      · replace h := (if_neg c6).symm.trans h
        refine x_aload_n hC dX9_findFar_70 rfl (j := 1) rfl <| s_getR (q := 62) hC dX9_findFar_71 wfl_X9_76 rfl (by decide) (by decide) (by decide) (by decide) (by decide) <| x_iload hC dX9_findFar_74 (j := 0) rfl <| ?_
        obtain ⟨h7, h⟩ := xgd_some h
        refine s_iald hC dX9_findFar_76 rfl (by decide) h7 <| ?_
        refine x_ldcw hC dX9_findFar_77 wconst_X9_311 <| ?_
        refine x_icmp_eq (tgt := 133) hC dX9_findFar_80 (by decide) (fun c8 => ?_) (fun c8 => ?_)
        · replace h := (if_pos c8).symm.trans h
          refine x_sub [1, 2, 3, 4] rfl ?_
          exact B_X9_findFar_133 hC hR hE hk34 hk42 ih l2 l3 l4 σ h
        · replace h := (if_neg c8).symm.trans h
          refine x_aload_n hC dX9_findFar_83 rfl (j := 1) rfl <| s_getR (q := 62) hC dX9_findFar_84 wfl_X9_76 rfl (by decide) (by decide) (by decide) (by decide) (by decide) <| x_iload hC dX9_findFar_87 (j := 0) rfl <| ?_
          obtain ⟨h9, h⟩ := xgd_some h
          refine s_iald hC dX9_findFar_89 rfl (by decide) h9 <| ?_
          refine x_aload_n hC dX9_findFar_90 rfl (j := 1) rfl <| x_iload_n hC dX9_findFar_91 rfl (j := 3) rfl <| x_iload hC dX9_findFar_92 (j := 4) rfl <| ?_
          obtain ⟨x10, h10, h⟩ := Option.bind_eq_some_iff.mp h
          refine x_callV hC hR dX9_findFar_94 mK_X9_costOf wml_X9_255 (C_X9_costOf (a1 := l3) (a2 := l4) (σ := σ) h10) (by omega) rfl (by decide) rfl rfl (xlt (by decide)) rfl (Nat.le_of_ble_eq_true rfl) rfl rfl rfl <| ?_
          refine x_iadd hC dX9_findFar_97 <| x_aload_n hC dX9_findFar_98 rfl (j := 1) rfl <| s_getR (q := 62) hC dX9_findFar_99 wfl_X9_76 rfl (by decide) (by decide) (by decide) (by decide) (by decide) <| x_iload_n hC dX9_findFar_102 rfl (j := 3) rfl <| ?_
          obtain ⟨h11, h⟩ := xgd_some h
          refine s_iald hC dX9_findFar_103 rfl (by decide) h11 <| ?_
          refine x_icmp_lt (tgt := 110) hC dX9_findFar_104 (by decide) (fun c12 => ?_) (fun c12 => ?_)
          · replace h := (if_pos c12).symm.trans h
            refine x_aload_n hC dX9_findFar_110 rfl (j := 1) rfl <| s_getR (q := 62) hC dX9_findFar_111 wfl_X9_76 rfl (by decide) (by decide) (by decide) (by decide) (by decide) <| x_iload_n hC dX9_findFar_114 rfl (j := 3) rfl <| x_aload_n hC dX9_findFar_115 rfl (j := 1) rfl <| s_getR (q := 62) hC dX9_findFar_116 wfl_X9_76 rfl (by decide) (by decide) (by decide) (by decide) (by decide) <| x_iload hC dX9_findFar_119 (j := 0) rfl <| ?_
            obtain ⟨h13, h⟩ := xgd_some h
            refine s_iald hC dX9_findFar_121 rfl (by decide) h13 <| ?_
            refine x_aload_n hC dX9_findFar_122 rfl (j := 1) rfl <| x_iload_n hC dX9_findFar_123 rfl (j := 3) rfl <| x_iload hC dX9_findFar_124 (j := 4) rfl <| ?_
            obtain ⟨x14, h14, h⟩ := Option.bind_eq_some_iff.mp h
            refine x_callV hC hR dX9_findFar_126 mK_X9_costOf wml_X9_255 (C_X9_costOf (a1 := l3) (a2 := l4) (σ := σ) h14) (by omega) rfl (by decide) rfl rfl (xlt (by decide)) rfl (Nat.le_of_ble_eq_true rfl) rfl rfl rfl <| ?_
            refine x_iadd hC dX9_findFar_129 <| ?_
            obtain ⟨h15, h⟩ := xgd_some h
            refine s_iast hC dX9_findFar_130 rfl (by decide) h15 <| ?_
            refine x_iconst (v := (1 : Int32)) hC dX9_findFar_131 (by decide) <| x_istore_n hC dX9_findFar_132 rfl (by decide) rfl <| ?_
            refine x_sub [2, 0, 3, 4] rfl ?_
            exact B_X9_findFar_133 hC hR hE hk34 hk42 ih true l3 l4 (yI σ 62 l3.toNatClampNeg ((σ.1 62 (J_X9_beside l3 l4).toNatClampNeg) + x14)) h
          · replace h := (if_neg c12).symm.trans h
            refine x_goto (tgt := 133) hC dX9_findFar_107 (by decide) <| ?_
            refine x_sub [1, 2, 3, 4] rfl ?_
            exact B_X9_findFar_133 hC hR hE hk34 hk42 ih l2 l3 l4 σ h
set_option maxRecDepth 100000 in
set_option maxHeartbeats 4000000 in
theorem B_X9_findFar_42 {G : xG} {l : Launch} {K : xK} {τ : xS2} (hC : xCX G mM_X9_findFar K) (hR : xRd K 2) (hE : xE G K none (xM τ)) {k34 : Bool → xS2 → Option xS2} (hk34 : ∀ (l2 : Bool) (σ : xS2), k34 l2 σ = some τ → xV G l mM_X9_findFar K 34 [(0, .ref (xad G 43)), (2, .int (xb l2))] [] (xM σ)) : ∀ (f : Nat) (l2 : Bool) (l3 : Int32) (σ : xS2), J_X9_findFar_42 k34 f l2 l3 σ = some τ → xV G l mM_X9_findFar K 42 [(0, .ref (xad G 43)), (2, .int (xb l2)), (3, .int l3)] [] (xM σ) := by
  intro f
  induction f with
  | zero => intro l2 l3 σ h; cases h
  | succ f ih =>
    intro l2 l3 σ h
    refine x_iload_n hC dX9_findFar_42 rfl (j := 2) rfl <| x_bipush (v := (36 : Int32)) hC dX9_findFar_43 (by decide) <| ?_
    refine x_icmp_ge (tgt := 145) hC dX9_findFar_45 (by decide) (fun c3 => ?_) (fun c3 => ?_)
    · replace h := (if_pos c3).symm.trans h
      refine x_goto (tgt := 34) hC dX9_findFar_145 (by decide) <| ?_
      refine x_sub [0, 1] rfl ?_
      exact hk34 l2 σ h
    · replace h := (if_neg c3).symm.trans h
      refine x_iconst (v := (1 : Int32)) hC dX9_findFar_48 (by decide) <| x_istore hC dX9_findFar_49 (by decide) rfl <| ?_
      refine x_sub [1, 2, 3, 0] rfl ?_
      exact B_X9_findFar_51 hC hR hE hk34 ih xFU l2 l3 (1 : Int32) σ h
set_option maxRecDepth 100000 in
set_option maxHeartbeats 4000000 in
theorem B_X9_findFar_34 {G : xG} {l : Launch} {K : xK} {τ : xS2} (hC : xCX G mM_X9_findFar K) (hR : xRd K 2) (hE : xE G K none (xM τ)) : ∀ (f : Nat) (l2 : Bool) (σ : xS2), J_X9_findFar_34 f l2 σ = some τ → xV G l mM_X9_findFar K 34 [(0, .ref (xad G 43)), (2, .int (xb l2))] [] (xM σ) := by
  intro f
  induction f with
  | zero => intro l2 σ h; cases h
  | succ f ih =>
    intro l2 σ h
    refine x_iload_n hC dX9_findFar_34 rfl (j := 1) rfl <| ?_
    refine x_if_eq (tgt := 148) hC dX9_findFar_35 (by decide) (fun c2 => ?_) (fun c2 => ?_)
    · replace h := (if_pos c2).symm.trans h
      have e1 := Option.some.inj h
      subst e1
      exact x_vret (rest := []) hC hE rfl dX9_findFar_148
    · replace h := (if_neg c2).symm.trans h
      refine x_iconst (v := (0 : Int32)) hC dX9_findFar_38 (by decide) <| x_istore_n hC dX9_findFar_39 rfl (by decide) rfl <| x_iconst (v := (0 : Int32)) hC dX9_findFar_40 (by decide) <| x_istore_n hC dX9_findFar_41 rfl (by decide) rfl <| ?_
      refine x_sub [2, 1, 0] rfl ?_
      exact B_X9_findFar_42 hC hR hE ih xFU false (0 : Int32) σ h
set_option maxRecDepth 100000 in
set_option maxHeartbeats 4000000 in
theorem B_X9_findFar_25 {G : xG} {l : Launch} {K : xK} {τ : xS2} (hC : xCX G mM_X9_findFar K) (hR : xRd K 2) (hE : xE G K none (xM τ)) {k2 : Int32 → Int32 → xS2 → Option xS2} (hk2 : ∀ (l1 : Int32) (l2 : Int32) (σ : xS2), k2 l1 l2 σ = some τ → xV G l mM_X9_findFar K 2 [(0, .ref (xad G 43)), (1, .int l1), (2, .int l2)] [] (xM σ)) : ∀ (l1 : Int32) (l2 : Int32) (s1 : Int32) (s2 : Int32) (σ : xS2), J_X9_findFar_25 k2 l1 l2 s1 s2 σ = some τ → xV G l mM_X9_findFar K 25 [(0, .ref (xad G 43)), (1, .int l1), (2, .int l2)] [.int s2, .int s1, .ref (xad G 62)] (xM σ) := by
  intro l1 l2 s1 s2 σ h
  obtain ⟨h17, h⟩ := xgd_some h
  refine s_iast hC dX9_findFar_25 rfl (by decide) h17 <| ?_
  refine x_iinc hC dX9_findFar_26 (j := 2) (v := (l2 + (1 : Int32))) rfl rfl (by decide) rfl <| x_goto (tgt := 2) hC dX9_findFar_29 (by decide) <| ?_
  refine x_sub [1, 2, 0] rfl ?_
  exact hk2 l1 (l2 + (1 : Int32)) (yI σ 62 s1.toNatClampNeg s2) h
set_option maxRecDepth 100000 in
set_option maxHeartbeats 4000000 in
theorem B_X9_findFar_2 {G : xG} {l : Launch} {K : xK} {τ : xS2} (hC : xCX G mM_X9_findFar K) (hR : xRd K 2) (hE : xE G K none (xM τ)) : ∀ (f : Nat) (l1 : Int32) (l2 : Int32) (σ : xS2), J_X9_findFar_2 f l1 l2 σ = some τ → xV G l mM_X9_findFar K 2 [(0, .ref (xad G 43)), (1, .int l1), (2, .int l2)] [] (xM σ) := by
  intro f
  induction f with
  | zero => intro l1 l2 σ h; cases h
  | succ f ih =>
    intro l1 l2 σ h
    refine x_iload_n hC dX9_findFar_2 rfl (j := 2) rfl <| x_bipush (v := (36 : Int32)) hC dX9_findFar_3 (by decide) <| ?_
    refine x_icmp_ge (tgt := 32) hC dX9_findFar_5 (by decide) (fun c1 => ?_) (fun c1 => ?_)
    · replace h := (if_pos c1).symm.trans h
      refine x_iconst (v := (1 : Int32)) hC dX9_findFar_32 (by decide) <| x_istore_n hC dX9_findFar_33 rfl (by decide) rfl <| ?_
      refine x_sub [1, 0] rfl ?_
      exact B_X9_findFar_34 hC hR hE xFU true σ h
    · replace h := (if_neg c1).symm.trans h
      refine x_aload_n hC dX9_findFar_8 rfl (j := 0) rfl <| s_getR (q := 62) hC dX9_findFar_9 wfl_X9_76 rfl (by decide) (by decide) (by decide) (by decide) (by decide) <| x_iload_n hC dX9_findFar_12 rfl (j := 2) rfl <| x_iload_n hC dX9_findFar_13 rfl (j := 2) rfl <| x_iload_n hC dX9_findFar_14 rfl (j := 1) rfl <| ?_
      refine x_icmp_ne (tgt := 22) hC dX9_findFar_15 (by decide) (fun c16 => ?_) (fun c16 => ?_)
      · replace h := (if_neg c16).symm.trans h
        refine x_ldcw hC dX9_findFar_22 wconst_X9_311 <| ?_
        refine x_sub [0, 1, 2] rfl ?_
        exact B_X9_findFar_25 hC hR hE ih l1 l2 l2 (1000000 : Int32) σ h
      · replace h := (if_pos c16).symm.trans h
        refine x_iconst (v := (0 : Int32)) hC dX9_findFar_18 (by decide) <| x_goto (tgt := 25) hC dX9_findFar_19 (by decide) <| ?_
        refine x_sub [0, 1, 2] rfl ?_
        exact B_X9_findFar_25 hC hR hE ih l1 l2 l2 (0 : Int32) σ h
set_option maxRecDepth 100000 in
set_option maxHeartbeats 4000000 in
theorem C_X9_findFar {G : xG} {l : Launch} {a1 : Int32} {σ : xS2} {τ : xS2} (h : J_X9_findFar a1 σ = some τ) : xC G l mM_X9_findFar 2 [.ref (xad G 43), .int a1] (xM σ) none (xM τ) := by
  refine xC_of (by decide) rfl (Nat.le_refl _) (Nat.le_of_ble_eq_true rfl) (fun K hC hE hR _ => ?_)
  refine x_iconst (v := (0 : Int32)) hC dX9_findFar_0 (by decide) <| x_istore_n hC dX9_findFar_1 rfl (by decide) rfl <| ?_
  refine x_sub [1, 2, 0] rfl ?_
  exact B_X9_findFar_2 hC hR hE xFU a1 (0 : Int32) σ h
set_option maxRecDepth 100000 in
set_option maxHeartbeats 4000000 in
theorem C_X9_isCell {G : xG} {l : Launch} {a0 : Int32} {σ : xS2} : xC G l mM_X9_isCell 1 [.int a0] (xM σ) (some (.int (xb (J_X9_isCell a0)))) (xM σ) := by
  refine xC_of (by decide) rfl (Nat.le_refl _) (Nat.le_of_ble_eq_true rfl) (fun K hC hE hR _ => ?_)
  obtain ⟨r, h⟩ : ∃ r, J_X9_isCell a0 = r := ⟨_, rfl⟩
  rw [h] at hE
  refine x_iload_n hC dX9_isCell_0 rfl (j := 0) rfl <| x_iconst (v := (0 : Int32)) hC dX9_isCell_1 (by decide) <| x_bipush (v := (35 : Int32)) hC dX9_isCell_2 (by decide) <| x_callS hC hR dX9_isCell_4 mK_X9_in wml_X9_116 (C_X9_in (a0 := a0) (a1 := (0 : Int32)) (a2 := (35 : Int32)) (σ := σ)) (by omega) rfl (Nat.le_of_ble_eq_true rfl) rfl rfl rfl <| ?_
  subst h
  exact x_zret (rest := []) hC hE rfl (rfl) dX9_isCell_7
set_option maxRecDepth 100000 in
set_option maxHeartbeats 4000000 in
theorem B_X9_cheapest_110 {G : xG} {l : Launch} {K : xK} {r : Int32} {τ : xS2} (hC : xCX G mM_X9_cheapest K) (hR : xRd K 3) (hE : xE G K (some (.int r)) (xM τ)) {k73 : Int32 → Int32 → xS2 → Option (Int32 × xS2)} (hk73 : ∀ (l3 : Int32) (l4 : Int32) (σ : xS2), k73 l3 l4 σ = some (r, τ) → xV G l mM_X9_cheapest K 73 [(0, .ref (xad G 43)), (3, .int l3), (4, .int l4)] [] (xM σ)) : ∀ (l3 : Int32) (l4 : Int32) (σ : xS2), J_X9_cheapest_110 k73 l3 l4 σ = some (r, τ) → xV G l mM_X9_cheapest K 110 [(0, .ref (xad G 43)), (3, .int l3), (4, .int l4)] [] (xM σ) := by
  intro l3 l4 σ h
  refine x_iinc hC dX9_cheapest_110 (j := 2) (v := (l4 + (1 : Int32))) rfl rfl (by decide) rfl <| x_goto (tgt := 73) hC dX9_cheapest_113 (by decide) <| ?_
  refine x_sub [1, 2, 0] rfl ?_
  exact hk73 l3 (l4 + (1 : Int32)) σ h
set_option maxRecDepth 100000 in
set_option maxHeartbeats 4000000 in
theorem B_X9_cheapest_73 {G : xG} {l : Launch} {K : xK} {r : Int32} {τ : xS2} (hC : xCX G mM_X9_cheapest K) (hR : xRd K 3) (hE : xE G K (some (.int r)) (xM τ)) : ∀ (f : Nat) (l3 : Int32) (l4 : Int32) (σ : xS2), J_X9_cheapest_73 f l3 l4 σ = some (r, τ) → xV G l mM_X9_cheapest K 73 [(0, .ref (xad G 43)), (3, .int l3), (4, .int l4)] [] (xM σ) := by
  intro f
  induction f with
  | zero => intro l3 l4 σ h; cases h
  | succ f ih =>
    intro l3 l4 σ h
    refine x_iload_n hC dX9_cheapest_73 rfl (j := 1) rfl <| x_iload hC dX9_cheapest_74 (j := 2) rfl <| x_callS hC hR dX9_cheapest_76 mK_X9_beside wml_X9_120 (C_X9_beside (a0 := l3) (a1 := l4) (σ := σ)) (by omega) rfl (Nat.le_of_ble_eq_true rfl) rfl rfl rfl <| ?_
    refine x_if_lt (tgt := 110) hC dX9_cheapest_79 (by decide) (fun c12 => ?_) (fun c12 => ?_)
    · replace h := (if_pos c12).symm.trans h
      refine x_sub [0, 1, 2] rfl ?_
      exact B_X9_cheapest_110 hC hR hE ih l3 l4 σ h
    · replace h := (if_neg c12).symm.trans h
      refine x_aload_n hC dX9_cheapest_82 rfl (j := 0) rfl <| s_getR (q := 62) hC dX9_cheapest_83 wfl_X9_76 rfl (by decide) (by decide) (by decide) (by decide) (by decide) <| x_iload_n hC dX9_cheapest_86 rfl (j := 1) rfl <| x_iload hC dX9_cheapest_87 (j := 2) rfl <| x_callS hC hR dX9_cheapest_89 mK_X9_beside wml_X9_120 (C_X9_beside (a0 := l3) (a1 := l4) (σ := σ)) (by omega) rfl (Nat.le_of_ble_eq_true rfl) rfl rfl rfl <| ?_
      obtain ⟨h14, h⟩ := xgd_some h
      refine s_iald hC dX9_cheapest_92 rfl (by decide) h14 <| ?_
      refine x_aload_n hC dX9_cheapest_93 rfl (j := 0) rfl <| x_iload_n hC dX9_cheapest_94 rfl (j := 1) rfl <| x_iload hC dX9_cheapest_95 (j := 2) rfl <| ?_
      obtain ⟨x15, h15, h⟩ := Option.bind_eq_some_iff.mp h
      refine x_callV hC hR dX9_cheapest_97 mK_X9_costOf wml_X9_255 (C_X9_costOf (a1 := l3) (a2 := l4) (σ := σ) h15) (by omega) rfl (by decide) rfl rfl (xlt (by decide)) rfl (Nat.le_of_ble_eq_true rfl) rfl rfl rfl <| ?_
      refine x_iadd hC dX9_cheapest_100 <| x_aload_n hC dX9_cheapest_101 rfl (j := 0) rfl <| s_getR (q := 62) hC dX9_cheapest_102 wfl_X9_76 rfl (by decide) (by decide) (by decide) (by decide) (by decide) <| x_iload_n hC dX9_cheapest_105 rfl (j := 1) rfl <| ?_
      obtain ⟨h16, h⟩ := xgd_some h
      refine s_iald hC dX9_cheapest_106 rfl (by decide) h16 <| ?_
      refine x_icmp_eq (tgt := 116) hC dX9_cheapest_107 (by decide) (fun c17 => ?_) (fun c17 => ?_)
      · replace h := (if_pos c17).symm.trans h
        refine x_iload_n hC dX9_cheapest_116 rfl (j := 1) rfl <| x_iload hC dX9_cheapest_117 (j := 2) rfl <| x_callS hC hR dX9_cheapest_119 mK_X9_beside wml_X9_120 (C_X9_beside (a0 := l3) (a1 := l4) (σ := σ)) (by omega) rfl (Nat.le_of_ble_eq_true rfl) rfl rfl rfl <| ?_
        obtain ⟨e1, e2⟩ := xso2 h
        subst e1
        subst e2
        exact x_iret (rest := []) hC hE rfl dX9_cheapest_122
      · replace h := (if_neg c17).symm.trans h
        refine x_sub [0, 1, 2] rfl ?_
        exact B_X9_cheapest_110 hC hR hE ih l3 l4 σ h
set_option maxRecDepth 100000 in
set_option maxHeartbeats 4000000 in
theorem C_X9_cheapest {G : xG} {l : Launch} {a1 : Int32} {a2 : Int32} {σ : xS2} {r : Int32} {τ : xS2} (h : J_X9_cheapest a1 a2 σ = some (r, τ)) : xC G l mM_X9_cheapest 3 [.ref (xad G 43), .int a1, .int a2] (xM σ) (some (.int r)) (xM τ) := by
  refine xC_of (by decide) rfl (Nat.le_refl _) (Nat.le_of_ble_eq_true rfl) (fun K hC hE hR _ => ?_)
  refine x_iload_n hC dX9_cheapest_0 rfl (j := 1) rfl <| ?_
  refine x_if_lt (tgt := 33) hC dX9_cheapest_1 (by decide) (fun c1 => ?_) (fun c1 => ?_)
  · replace h := (if_pos c1).symm.trans h
    refine x_iconst (v := (-1 : Int32)) hC dX9_cheapest_33 (by decide) <| ?_
    obtain ⟨e1, e2⟩ := xso2 h
    subst e1
    subst e2
    exact x_iret (rest := []) hC hE rfl dX9_cheapest_34
  · replace h := (if_neg c1).symm.trans h
    refine x_iload_n hC dX9_cheapest_4 rfl (j := 1) rfl <| x_bipush (v := (100 : Int32)) hC dX9_cheapest_5 (by decide) <| x_idiv hC dX9_cheapest_7 (by decide) <| x_callS hC hR dX9_cheapest_8 mK_X9_isCell wml_X9_141 (C_X9_isCell (a0 := (a1 / (100 : Int32))) (σ := σ)) (by omega) rfl (Nat.le_of_ble_eq_true rfl) rfl rfl rfl <| ?_
    refine x_if_eq (tgt := 33) hC dX9_cheapest_11 (by decide) (fun c3 => ?_) (fun c3 => ?_)
    · replace h := (if_pos c3).symm.trans h
      refine x_iconst (v := (-1 : Int32)) hC dX9_cheapest_33 (by decide) <| ?_
      obtain ⟨e1, e2⟩ := xso2 h
      subst e1
      subst e2
      exact x_iret (rest := []) hC hE rfl dX9_cheapest_34
    · replace h := (if_neg c3).symm.trans h
      refine x_iload_n hC dX9_cheapest_14 rfl (j := 1) rfl <| x_bipush (v := (100 : Int32)) hC dX9_cheapest_15 (by decide) <| x_irm hC dX9_cheapest_17 (by decide) <| x_callS hC hR dX9_cheapest_18 mK_X9_isCell wml_X9_141 (C_X9_isCell (a0 := (xrm a1 (100 : Int32))) (σ := σ)) (by omega) rfl (Nat.le_of_ble_eq_true rfl) rfl rfl rfl <| ?_
      refine x_if_eq (tgt := 33) hC dX9_cheapest_21 (by decide) (fun c5 => ?_) (fun c5 => ?_)
      · replace h := (if_pos c5).symm.trans h
        refine x_iconst (v := (-1 : Int32)) hC dX9_cheapest_33 (by decide) <| ?_
        obtain ⟨e1, e2⟩ := xso2 h
        subst e1
        subst e2
        exact x_iret (rest := []) hC hE rfl dX9_cheapest_34
      · replace h := (if_neg c5).symm.trans h
        refine x_iload_n hC dX9_cheapest_24 rfl (j := 2) rfl <| x_iconst (v := (0 : Int32)) hC dX9_cheapest_25 (by decide) <| x_iconst (v := (1 : Int32)) hC dX9_cheapest_26 (by decide) <| x_callS hC hR dX9_cheapest_27 mK_X9_in wml_X9_116 (C_X9_in (a0 := a2) (a1 := (0 : Int32)) (a2 := (1 : Int32)) (σ := σ)) (by omega) rfl (Nat.le_of_ble_eq_true rfl) rfl rfl rfl <| ?_
        refine x_if_ne (tgt := 35) hC dX9_cheapest_30 (by decide) (fun c7 => ?_) (fun c7 => ?_)
        · replace h := (if_neg c7).symm.trans h
          refine x_aload_n hC dX9_cheapest_35 rfl (j := 0) rfl <| x_iload_n hC dX9_cheapest_36 rfl (j := 1) rfl <| x_bipush (v := (100 : Int32)) hC dX9_cheapest_37 (by decide) <| x_irm hC dX9_cheapest_39 (by decide) <| ?_
          obtain ⟨x8, h8, h⟩ := Option.bind_eq_some_iff.mp h
          refine x_callV hC hR dX9_cheapest_40 mK_X9_findFar wml_X9_312 (C_X9_findFar (a1 := (xrm a1 (100 : Int32))) (σ := σ) h8) (by omega) rfl (by decide) rfl rfl (xlt (by decide)) rfl (Nat.le_of_ble_eq_true rfl) rfl rfl rfl <| ?_
          refine x_iload_n hC dX9_cheapest_43 rfl (j := 1) rfl <| x_bipush (v := (100 : Int32)) hC dX9_cheapest_44 (by decide) <| x_idiv hC dX9_cheapest_46 (by decide) <| x_istore_n hC dX9_cheapest_47 rfl (by decide) rfl <| x_iload_n hC dX9_cheapest_48 rfl (j := 3) rfl <| ?_
          refine x_if_ne (tgt := 59) hC dX9_cheapest_49 (by decide) (fun c9 => ?_) (fun c9 => ?_)
          · replace h := (if_neg c9).symm.trans h
            refine x_iload_n hC dX9_cheapest_59 rfl (j := 0) rfl <| x_iload_n hC dX9_cheapest_60 rfl (j := 2) rfl <| x_bipush (v := (100 : Int32)) hC dX9_cheapest_61 (by decide) <| x_irm hC dX9_cheapest_63 (by decide) <| ?_
            refine x_icmp_ne (tgt := 70) hC dX9_cheapest_64 (by decide) (fun c10 => ?_) (fun c10 => ?_)
            · replace h := (if_neg c10).symm.trans h
              refine x_iconst (v := (1 : Int32)) hC dX9_cheapest_70 (by decide) <| x_istore hC dX9_cheapest_71 (by decide) rfl <| ?_
              refine x_sub [2, 1, 0] rfl ?_
              exact B_X9_cheapest_73 hC hR hE xFU (a1 / (100 : Int32)) (1 : Int32) x8 h
            · replace h := (if_pos c10).symm.trans h
              refine x_bipush (v := (-2 : Int32)) hC dX9_cheapest_67 (by decide) <| ?_
              obtain ⟨e1, e2⟩ := xso2 h
              subst e1
              subst e2
              exact x_iret (rest := []) hC hE rfl dX9_cheapest_69
          · replace h := (if_pos c9).symm.trans h
            refine x_aload_n hC dX9_cheapest_52 rfl (j := 1) rfl <| s_getR (q := 62) hC dX9_cheapest_53 wfl_X9_76 rfl (by decide) (by decide) (by decide) (by decide) (by decide) <| x_iload_n hC dX9_cheapest_56 rfl (j := 0) rfl <| ?_
            obtain ⟨h19, h⟩ := xgd_some h
            refine s_iald hC dX9_cheapest_57 rfl (by decide) h19 <| ?_
            obtain ⟨e1, e2⟩ := xso2 h
            subst e1
            subst e2
            exact x_iret (rest := []) hC hE rfl dX9_cheapest_58
        · replace h := (if_pos c7).symm.trans h
          refine x_iconst (v := (-1 : Int32)) hC dX9_cheapest_33 (by decide) <| ?_
          obtain ⟨e1, e2⟩ := xso2 h
          subst e1
          subst e2
          exact x_iret (rest := []) hC hE rfl dX9_cheapest_34
set_option maxRecDepth 100000 in
set_option maxHeartbeats 4000000 in
theorem B_X9_part_6 {G : xG} {l : Launch} {K : xK} {r : Int64} {σ : xS2} (hC : xCX G mM_X9_part K) (hR : xRd K 0) (hE : xE G K (some (.long r)) (xM σ)) : ∀ (f : Nat) (l0 : Int64) (l2 : Int64) (l4 : Int32) (l5 : Int64) (l7 : Int64), J_X9_part_6 f l0 l2 l4 l5 l7 = some r → xV G l mM_X9_part K 6 [(0, .long l0), (2, .long l2), (4, .int l4), (5, .long l5), (7, .long l7)] [] (xM σ) := by
  intro f
  induction f with
  | zero => intro l0 l2 l4 l5 l7 h; cases h
  | succ f ih =>
    intro l0 l2 l4 l5 l7 h
    refine x_lload hC dX9_part_6 (j := 4) rfl <| x_lconst (v := (0 : Int64)) hC dX9_part_8 (by decide) <| x_lcmp hC dX9_part_9 <| ?_
    refine x_if_eq (tgt := 31) hC dX9_part_10 (by decide) (fun c1 => ?_) (fun c1 => ?_)
    · replace h := (if_pos c1).symm.trans h
      refine x_iload hC dX9_part_31 (j := 2) rfl <| ?_
      refine x_if_ne (tgt := 43) hC dX9_part_33 (by decide) (fun c2 => ?_) (fun c2 => ?_)
      · replace h := (if_neg c2).symm.trans h
        refine x_lload_n hC dX9_part_43 rfl (j := 1) rfl <| x_lload hC dX9_part_44 (j := 3) rfl <| ?_
        obtain ⟨h3, h⟩ := xgd_some h
        refine x_ldiv hC dX9_part_46 (xnz_neL h3) <| ?_
        have e1 := Option.some.inj h
        subst e1
        exact x_lret (rest := []) hC hE rfl dX9_part_47
      · replace h := (if_pos c2).symm.trans h
        refine x_lload_n hC dX9_part_36 rfl (j := 0) rfl <| x_lload hC dX9_part_37 (j := 3) rfl <| ?_
        obtain ⟨h4, h⟩ := xgd_some h
        refine x_ldiv hC dX9_part_39 (xnz_neL h4) <| ?_
        refine x_goto (tgt := 47) hC dX9_part_40 (by decide) <| ?_
        have e1 := Option.some.inj h
        subst e1
        exact x_lret (rest := []) hC hE rfl dX9_part_47
    · replace h := (if_neg c1).symm.trans h
      refine x_lload hC dX9_part_13 (j := 3) rfl <| x_lload hC dX9_part_15 (j := 4) rfl <| ?_
      obtain ⟨h5, h⟩ := xgd_some h
      refine x_lrm hC dX9_part_17 (xnz_neL h5) <| ?_
      refine x_lstore hC dX9_part_18 (by decide) rfl <| x_lload hC dX9_part_20 (j := 5) rfl <| x_lstore hC dX9_part_22 (by decide) rfl <| x_lload hC dX9_part_24 (j := 1) rfl <| x_lstore hC dX9_part_26 (by decide) rfl <| x_goto (tgt := 6) hC dX9_part_28 (by decide) <| ?_
      refine x_sub [3, 4, 5, 1, 0] rfl ?_
      exact ih l0 l2 l4 l7 (xrmL l5 l7) h
set_option maxRecDepth 100000 in
set_option maxHeartbeats 4000000 in
theorem C_X9_part {G : xG} {l : Launch} {a0 : Int64} {a1 : Int64} {a2 : Int32} {σ : xS2} {r : Int64} (h : J_X9_part a0 a1 a2 = some r) : xC G l mM_X9_part 0 [.long a0, .long a1, .int a2] (xM σ) (some (.long r)) (xM σ) := by
  refine xC_of (by decide) rfl (Nat.le_refl _) (Nat.le_of_ble_eq_true rfl) (fun K hC hE hR _ => ?_)
  refine x_lload_n hC dX9_part_0 rfl (j := 0) rfl <| x_lstore hC dX9_part_1 (by decide) rfl <| x_lload_n hC dX9_part_3 rfl (j := 2) rfl <| x_lstore hC dX9_part_4 (by decide) rfl <| ?_
  refine x_sub [2, 3, 4, 1, 0] rfl ?_
  exact B_X9_part_6 hC hR hE xFU a0 a1 a2 a0 a1 h
set_option maxRecDepth 100000 in
set_option maxHeartbeats 4000000 in
theorem B_X9_power_5 {G : xG} {l : Launch} {K : xK} {r : Int64} {σ : xS2} (hC : xCX G mM_X9_power K) (hR : xRd K 0) (hE : xE G K (some (.long r)) (xM σ)) : ∀ (f : Nat) (l0 : Int32) (l1 : Int32) (l2 : Int64) (l4 : Int32), J_X9_power_5 f l0 l1 l2 l4 = some r → xV G l mM_X9_power K 5 [(0, .int l0), (1, .int l1), (2, .long l2), (4, .int l4)] [] (xM σ) := by
  intro f
  induction f with
  | zero => intro l0 l1 l2 l4 h; cases h
  | succ f ih =>
    intro l0 l1 l2 l4 h
    refine x_iload hC dX9_power_5 (j := 3) rfl <| x_iload_n hC dX9_power_7 rfl (j := 1) rfl <| ?_
    refine x_icmp_ge (tgt := 22) hC dX9_power_8 (by decide) (fun c1 => ?_) (fun c1 => ?_)
    · replace h := (if_pos c1).symm.trans h
      refine x_lload_n hC dX9_power_22 rfl (j := 2) rfl <| ?_
      have e1 := Option.some.inj h
      subst e1
      exact x_lret (rest := []) hC hE rfl dX9_power_23
    · replace h := (if_neg c1).symm.trans h
      refine x_lload_n hC dX9_power_11 rfl (j := 2) rfl <| x_iload_n hC dX9_power_12 rfl (j := 0) rfl <| x_i2l (v := (l0.toInt64)) hC dX9_power_13 rfl <| x_lmul hC dX9_power_14 <| x_lstore_n hC dX9_power_15 rfl (by decide) rfl <| x_iinc hC dX9_power_16 (j := 3) (v := (l4 + (1 : Int32))) rfl rfl (by decide) rfl <| ?_
      refine x_goto (tgt := 5) hC dX9_power_19 (by decide) <| ?_
      refine x_sub [2, 3, 1, 0] rfl ?_
      exact ih l0 l1 (l2 * (l0.toInt64)) (l4 + (1 : Int32)) h
set_option maxRecDepth 100000 in
set_option maxHeartbeats 4000000 in
theorem C_X9_power {G : xG} {l : Launch} {a0 : Int32} {a1 : Int32} {σ : xS2} {r : Int64} (h : J_X9_power a0 a1 = some r) : xC G l mM_X9_power 0 [.int a0, .int a1] (xM σ) (some (.long r)) (xM σ) := by
  refine xC_of (by decide) rfl (Nat.le_refl _) (Nat.le_of_ble_eq_true rfl) (fun K hC hE hR _ => ?_)
  refine x_lconst (v := (1 : Int64)) hC dX9_power_0 (by decide) <| x_lstore_n hC dX9_power_1 rfl (by decide) rfl <| x_iconst (v := (0 : Int32)) hC dX9_power_2 (by decide) <| x_istore hC dX9_power_3 (by decide) rfl <| ?_
  refine x_sub [2, 3, 1, 0] rfl ?_
  exact B_X9_power_5 hC hR hE xFU a0 a1 (1 : Int64) (0 : Int32) h
set_option maxRecDepth 100000 in
set_option maxHeartbeats 4000000 in
theorem B_X9_clean_71 {G : xG} {l : Launch} {K : xK} {r : Int64} {σ : xS2} (hC : xCX G mM_X9_clean K) (hR : xRd K 1) (hE : xE G K (some (.long r)) (xM σ)) : ∀ (f : Nat) (l1 : Int32) (l3 : Int32) (l4 : Int64) (l6 : Int64) (l8 : Int32), J_X9_clean_71 f l1 l3 l4 l6 l8 σ = some r → xV G l mM_X9_clean K 71 [(0, .ref (xad G 43)), (1, .int l1), (3, .int l3), (4, .long l4), (6, .long l6), (8, .int l8)] [] (xM σ) := by
  intro f
  induction f with
  | zero => intro l1 l3 l4 l6 l8 h; cases h
  | succ f ih =>
    intro l1 l3 l4 l6 l8 h
    refine x_iload hC dX9_clean_71 (j := 5) rfl <| x_iload_n hC dX9_clean_73 rfl (j := 1) rfl <| ?_
    refine x_icmp_ge (tgt := 110) hC dX9_clean_74 (by decide) (fun c9 => ?_) (fun c9 => ?_)
    · replace h := (if_pos c9).symm.trans h
      refine x_lload hC dX9_clean_110 (j := 4) rfl <| x_lload hC dX9_clean_112 (j := 3) rfl <| x_iload_n hC dX9_clean_114 rfl (j := 2) rfl <| ?_
      obtain ⟨x10, h10, h⟩ := Option.bind_eq_some_iff.mp h
      refine x_callS hC hR dX9_clean_115 mK_X9_part wml_X9_347 (C_X9_part (a0 := l6) (a1 := l4) (a2 := l3) (σ := σ) h10) (by omega) rfl (Nat.le_of_ble_eq_true rfl) rfl rfl rfl <| ?_
      have e1 := Option.some.inj h
      subst e1
      exact x_lret (rest := []) hC hE rfl dX9_clean_118
    · replace h := (if_neg c9).symm.trans h
      refine x_lload hC dX9_clean_77 (j := 4) rfl <| x_bipush (v := (12 : Int32)) hC dX9_clean_79 (by decide) <| x_aload_n hC dX9_clean_81 rfl (j := 0) rfl <| s_getI hC dX9_clean_82 wfl_X9_26 rfl (by decide) (by decide) (by decide) (by decide) <| x_isub hC dX9_clean_85 <| x_iload hC dX9_clean_86 (j := 5) rfl <| ?_
      obtain ⟨x11, h11, h⟩ := Option.bind_eq_some_iff.mp h
      refine x_callS hC hR dX9_clean_88 mK_X9_power wml_X9_343 (C_X9_power (a0 := ((12 : Int32) - (σ.1 43 6))) (a1 := l8) (σ := σ) h11) (by omega) rfl (Nat.le_of_ble_eq_true rfl) rfl rfl rfl <| ?_
      refine x_bipush (v := (12 : Int32)) hC dX9_clean_91 (by decide) <| x_iload_n hC dX9_clean_93 rfl (j := 1) rfl <| x_iload hC dX9_clean_94 (j := 5) rfl <| x_isub hC dX9_clean_96 <| ?_
      obtain ⟨x12, h12, h⟩ := Option.bind_eq_some_iff.mp h
      refine x_callS hC hR dX9_clean_97 mK_X9_power wml_X9_343 (C_X9_power (a0 := (12 : Int32)) (a1 := (l1 - l8)) (σ := σ) h12) (by omega) rfl (Nat.le_of_ble_eq_true rfl) rfl rfl rfl <| ?_
      refine x_lmul hC dX9_clean_100 <| x_ladd hC dX9_clean_101 <| x_lstore hC dX9_clean_102 (by decide) rfl <| x_iinc hC dX9_clean_104 (j := 5) (v := (l8 + (1 : Int32))) rfl rfl (by decide) rfl <| x_goto (tgt := 71) hC dX9_clean_107 (by decide) <| ?_
      refine x_sub [2, 3, 4, 5, 1, 0] rfl ?_
      exact ih l1 l3 l4 (l6 + (x11 * x12)) (l8 + (1 : Int32)) h
set_option maxRecDepth 100000 in
set_option maxHeartbeats 4000000 in
theorem C_X9_clean {G : xG} {l : Launch} {a1 : Int32} {a2 : Int32} {a3 : Int32} {σ : xS2} {r : Int64} (h : J_X9_clean a1 a2 a3 σ = some r) : xC G l mM_X9_clean 1 [.ref (xad G 43), .int a1, .int a2, .int a3] (xM σ) (some (.long r)) (xM σ) := by
  refine xC_of (by decide) rfl (Nat.le_refl _) (Nat.le_of_ble_eq_true rfl) (fun K hC hE hR _ => ?_)
  refine x_iload_n hC dX9_clean_0 rfl (j := 1) rfl <| x_iconst (v := (0 : Int32)) hC dX9_clean_1 (by decide) <| x_bipush (v := (8 : Int32)) hC dX9_clean_2 (by decide) <| x_callS hC hR dX9_clean_4 mK_X9_in wml_X9_116 (C_X9_in (a0 := a1) (a1 := (0 : Int32)) (a2 := (8 : Int32)) (σ := σ)) (by omega) rfl (Nat.le_of_ble_eq_true rfl) rfl rfl rfl <| ?_
  refine x_if_eq (tgt := 28) hC dX9_clean_7 (by decide) (fun c2 => ?_) (fun c2 => ?_)
  · replace h := (if_pos c2).symm.trans h
    refine x_ldc2 hC dX9_clean_28 wconstL_X9_341 <| ?_
    have e1 := Option.some.inj h
    subst e1
    exact x_lret (rest := []) hC hE rfl dX9_clean_31
  · replace h := (if_neg c2).symm.trans h
    refine x_iload_n hC dX9_clean_10 rfl (j := 2) rfl <| x_iconst (v := (0 : Int32)) hC dX9_clean_11 (by decide) <| x_iconst (v := (1 : Int32)) hC dX9_clean_12 (by decide) <| x_callS hC hR dX9_clean_13 mK_X9_in wml_X9_116 (C_X9_in (a0 := a2) (a1 := (0 : Int32)) (a2 := (1 : Int32)) (σ := σ)) (by omega) rfl (Nat.le_of_ble_eq_true rfl) rfl rfl rfl <| ?_
    refine x_if_eq (tgt := 28) hC dX9_clean_16 (by decide) (fun c4 => ?_) (fun c4 => ?_)
    · replace h := (if_pos c4).symm.trans h
      refine x_ldc2 hC dX9_clean_28 wconstL_X9_341 <| ?_
      have e1 := Option.some.inj h
      subst e1
      exact x_lret (rest := []) hC hE rfl dX9_clean_31
    · replace h := (if_neg c4).symm.trans h
      refine x_iload_n hC dX9_clean_19 rfl (j := 3) rfl <| x_iconst (v := (0 : Int32)) hC dX9_clean_20 (by decide) <| x_iconst (v := (1 : Int32)) hC dX9_clean_21 (by decide) <| x_callS hC hR dX9_clean_22 mK_X9_in wml_X9_116 (C_X9_in (a0 := a3) (a1 := (0 : Int32)) (a2 := (1 : Int32)) (σ := σ)) (by omega) rfl (Nat.le_of_ble_eq_true rfl) rfl rfl rfl <| ?_
      refine x_if_ne (tgt := 32) hC dX9_clean_25 (by decide) (fun c6 => ?_) (fun c6 => ?_)
      · replace h := (if_neg c6).symm.trans h
        refine x_bipush (v := (12 : Int32)) hC dX9_clean_32 (by decide) <| x_iload_n hC dX9_clean_34 rfl (j := 1) rfl <| ?_
        obtain ⟨x7, h7, h⟩ := Option.bind_eq_some_iff.mp h
        refine x_callS hC hR dX9_clean_35 mK_X9_power wml_X9_343 (C_X9_power (a0 := (12 : Int32)) (a1 := a1) (σ := σ) h7) (by omega) rfl (Nat.le_of_ble_eq_true rfl) rfl rfl rfl <| ?_
        refine x_lstore hC dX9_clean_38 (by decide) rfl <| x_iload_n hC dX9_clean_40 rfl (j := 3) rfl <| ?_
        refine x_if_ne (tgt := 65) hC dX9_clean_41 (by decide) (fun c8 => ?_) (fun c8 => ?_)
        · replace h := (if_neg c8).symm.trans h
          refine x_lconst (v := (0 : Int64)) hC dX9_clean_65 (by decide) <| x_lstore hC dX9_clean_66 (by decide) rfl <| x_iconst (v := (0 : Int32)) hC dX9_clean_68 (by decide) <| x_istore hC dX9_clean_69 (by decide) rfl <| ?_
          refine x_sub [3, 4, 6, 2, 1, 0] rfl ?_
          exact B_X9_clean_71 hC hR hE xFU a1 a3 x7 (0 : Int64) (0 : Int32) h
        · replace h := (if_pos c8).symm.trans h
          refine x_lload hC dX9_clean_44 (j := 0) rfl <| x_bipush (v := (12 : Int32)) hC dX9_clean_46 (by decide) <| x_aload_n hC dX9_clean_48 rfl (j := 1) rfl <| s_getI hC dX9_clean_49 wfl_X9_26 rfl (by decide) (by decide) (by decide) (by decide) <| x_isub hC dX9_clean_52 <| x_iload_n hC dX9_clean_53 rfl (j := 2) rfl <| ?_
          obtain ⟨x13, h13, h⟩ := Option.bind_eq_some_iff.mp h
          refine x_callS hC hR dX9_clean_54 mK_X9_power wml_X9_343 (C_X9_power (a0 := ((12 : Int32) - (σ.1 43 6))) (a1 := a1) (σ := σ) h13) (by omega) rfl (Nat.le_of_ble_eq_true rfl) rfl rfl rfl <| ?_
          refine x_lsub hC dX9_clean_57 <| x_lload hC dX9_clean_58 (j := 0) rfl <| x_iload_n hC dX9_clean_60 rfl (j := 4) rfl <| ?_
          obtain ⟨x14, h14, h⟩ := Option.bind_eq_some_iff.mp h
          refine x_callS hC hR dX9_clean_61 mK_X9_part wml_X9_347 (C_X9_part (a0 := (x7 - x13)) (a1 := x7) (a2 := a3) (σ := σ) h14) (by omega) rfl (Nat.le_of_ble_eq_true rfl) rfl rfl rfl <| ?_
          have e1 := Option.some.inj h
          subst e1
          exact x_lret (rest := []) hC hE rfl dX9_clean_64
      · replace h := (if_pos c6).symm.trans h
        refine x_ldc2 hC dX9_clean_28 wconstL_X9_341 <| ?_
        have e1 := Option.some.inj h
        subst e1
        exact x_lret (rest := []) hC hE rfl dX9_clean_31
set_option maxRecDepth 100000 in
set_option maxHeartbeats 4000000 in
theorem B_X9_dustThen_12 {G : xG} {l : Launch} {K : xK} {r : Int32} {σ : xS2} (hC : xCX G mM_X9_dustThen K) (hR : xRd K 0) (hE : xE G K (some (.int r)) (xM σ)) : ∀ (l0 : Int32) (l1 : Int32), J_X9_dustThen_12 l0 l1 = r → xV G l mM_X9_dustThen K 12 [(0, .int l0), (1, .int l1)] [] (xM σ) := by
  intro l0 l1 h
  refine x_iload_n hC dX9_dustThen_12 rfl (j := 1) rfl <| x_iconst (v := (3 : Int32)) hC dX9_dustThen_13 (by decide) <| x_irm hC dX9_dustThen_14 (by decide) <| ?_
  refine x_if_ne (tgt := 30) hC dX9_dustThen_15 (by decide) (fun c2 => ?_) (fun c2 => ?_)
  · replace h := (if_neg c2).symm.trans h
    refine x_iload_n hC dX9_dustThen_30 rfl (j := 0) rfl <| ?_
    subst h
    exact x_iret (rest := []) hC hE rfl dX9_dustThen_31
  · replace h := (if_pos c2).symm.trans h
    refine x_iload_n hC dX9_dustThen_18 rfl (j := 0) rfl <| x_bipush (v := (9 : Int32)) hC dX9_dustThen_19 (by decide) <| ?_
    refine x_icmp_ge (tgt := 30) hC dX9_dustThen_21 (by decide) (fun c3 => ?_) (fun c3 => ?_)
    · replace h := (if_pos c3).symm.trans h
      refine x_iload_n hC dX9_dustThen_30 rfl (j := 0) rfl <| ?_
      subst h
      exact x_iret (rest := []) hC hE rfl dX9_dustThen_31
    · replace h := (if_neg c3).symm.trans h
      refine x_iload_n hC dX9_dustThen_24 rfl (j := 0) rfl <| x_iconst (v := (1 : Int32)) hC dX9_dustThen_25 (by decide) <| x_iadd hC dX9_dustThen_26 <| x_goto (tgt := 31) hC dX9_dustThen_27 (by decide) <| ?_
      subst h
      exact x_iret (rest := []) hC hE rfl dX9_dustThen_31
set_option maxRecDepth 100000 in
set_option maxHeartbeats 4000000 in
theorem C_X9_dustThen {G : xG} {l : Launch} {a0 : Int32} {a1 : Int32} {a2 : Int32} {a3 : Bool} {σ : xS2} : xC G l mM_X9_dustThen 0 [.int a0, .int a1, .int a2, .int (xb a3)] (xM σ) (some (.int (J_X9_dustThen a0 a1 a2 a3))) (xM σ) := by
  refine xC_of (by decide) rfl (Nat.le_refl _) (Nat.le_of_ble_eq_true rfl) (fun K hC hE hR _ => ?_)
  obtain ⟨r, h⟩ : ∃ r, J_X9_dustThen a0 a1 a2 a3 = r := ⟨_, rfl⟩
  rw [h] at hE
  refine x_iload_n hC dX9_dustThen_0 rfl (j := 2) rfl <| x_bipush (v := (7 : Int32)) hC dX9_dustThen_1 (by decide) <| ?_
  refine x_icmp_lt (tgt := 12) hC dX9_dustThen_3 (by decide) (fun c1 => ?_) (fun c1 => ?_)
  · replace h := (if_pos c1).symm.trans h
    refine x_sub [0, 1] rfl ?_
    exact B_X9_dustThen_12 hC hR hE a0 a1 h
  · replace h := (if_neg c1).symm.trans h
    refine x_iload_n hC dX9_dustThen_6 rfl (j := 3) rfl <| ?_
    refine x_if_ne (tgt := 12) hC dX9_dustThen_7 (by decide) (fun c4 => ?_) (fun c4 => ?_)
    · replace h := (if_neg c4).symm.trans h
      refine x_sub [0, 1] rfl ?_
      exact B_X9_dustThen_12 hC hR hE a0 a1 h
    · replace h := (if_pos c4).symm.trans h
      refine x_iconst (v := (0 : Int32)) hC dX9_dustThen_10 (by decide) <| ?_
      subst h
      exact x_iret (rest := []) hC hE rfl dX9_dustThen_11
set_option maxRecDepth 100000 in
set_option maxHeartbeats 4000000 in
theorem B_X9_isHollow_36 {G : xG} {l : Launch} {K : xK} {r : Bool} {σ : xS2} (hC : xCX G mM_X9_isHollow K) (hR : xRd K 1) (hE : xE G K (some (.int (xb r))) (xM σ)) {k2 : Int32 → Int32 → xS2 → Option Bool} (hk2 : ∀ (l1 : Int32) (l2 : Int32), k2 l1 l2 σ = some r → xV G l mM_X9_isHollow K 2 [(0, .ref (xad G 43)), (1, .int l1), (2, .int l2)] [] (xM σ)) : ∀ (l1 : Int32) (l2 : Int32), J_X9_isHollow_36 k2 l1 l2 σ = some r → xV G l mM_X9_isHollow K 36 [(0, .ref (xad G 43)), (1, .int l1), (2, .int l2)] [] (xM σ) := by
  intro l1 l2 h
  refine x_iinc hC dX9_isHollow_36 (j := 2) (v := (l2 + (1 : Int32))) rfl rfl (by decide) rfl <| x_goto (tgt := 2) hC dX9_isHollow_39 (by decide) <| ?_
  refine x_sub [1, 2, 0] rfl ?_
  exact hk2 l1 (l2 + (1 : Int32)) h
set_option maxRecDepth 100000 in
set_option maxHeartbeats 4000000 in
theorem B_X9_isHollow_2 {G : xG} {l : Launch} {K : xK} {r : Bool} {σ : xS2} (hC : xCX G mM_X9_isHollow K) (hR : xRd K 1) (hE : xE G K (some (.int (xb r))) (xM σ)) : ∀ (f : Nat) (l1 : Int32) (l2 : Int32), J_X9_isHollow_2 f l1 l2 σ = some r → xV G l mM_X9_isHollow K 2 [(0, .ref (xad G 43)), (1, .int l1), (2, .int l2)] [] (xM σ) := by
  intro f
  induction f with
  | zero => intro l1 l2 h; cases h
  | succ f ih =>
    intro l1 l2 h
    refine x_iload_n hC dX9_isHollow_2 rfl (j := 2) rfl <| x_iconst (v := (4 : Int32)) hC dX9_isHollow_3 (by decide) <| ?_
    refine x_icmp_gt (tgt := 42) hC dX9_isHollow_4 (by decide) (fun c1 => ?_) (fun c1 => ?_)
    · replace h := (if_pos c1).symm.trans h
      refine x_iconst (v := (1 : Int32)) hC dX9_isHollow_42 (by decide) <| ?_
      have e1 := Option.some.inj h
      subst e1
      exact x_zret (rest := []) hC hE rfl (by decide) dX9_isHollow_43
    · replace h := (if_neg c1).symm.trans h
      refine x_iload_n hC dX9_isHollow_7 rfl (j := 1) rfl <| x_iload_n hC dX9_isHollow_8 rfl (j := 2) rfl <| x_callS hC hR dX9_isHollow_9 mK_X9_beside wml_X9_120 (C_X9_beside (a0 := l1) (a1 := l2) (σ := σ)) (by omega) rfl (Nat.le_of_ble_eq_true rfl) rfl rfl rfl <| ?_
      refine x_if_lt (tgt := 36) hC dX9_isHollow_12 (by decide) (fun c3 => ?_) (fun c3 => ?_)
      · replace h := (if_pos c3).symm.trans h
        refine x_sub [0, 1, 2] rfl ?_
        exact B_X9_isHollow_36 hC hR hE ih l1 l2 h
      · replace h := (if_neg c3).symm.trans h
        refine x_aload_n hC dX9_isHollow_15 rfl (j := 0) rfl <| s_getR (q := 44) hC dX9_isHollow_16 wfl_X9_7 rfl (by decide) (by decide) (by decide) (by decide) (by decide) <| x_iload_n hC dX9_isHollow_19 rfl (j := 1) rfl <| ?_
        obtain ⟨h4, h⟩ := xgd_some h
        refine s_iald hC dX9_isHollow_20 rfl (by decide) h4 <| ?_
        refine x_aload_n hC dX9_isHollow_21 rfl (j := 0) rfl <| s_getR (q := 44) hC dX9_isHollow_22 wfl_X9_7 rfl (by decide) (by decide) (by decide) (by decide) (by decide) <| x_iload_n hC dX9_isHollow_25 rfl (j := 1) rfl <| x_iload_n hC dX9_isHollow_26 rfl (j := 2) rfl <| x_callS hC hR dX9_isHollow_27 mK_X9_beside wml_X9_120 (C_X9_beside (a0 := l1) (a1 := l2) (σ := σ)) (by omega) rfl (Nat.le_of_ble_eq_true rfl) rfl rfl rfl <| ?_
        obtain ⟨h6, h⟩ := xgd_some h
        refine s_iald hC dX9_isHollow_30 rfl (by decide) h6 <| ?_
        refine x_icmp_lt (tgt := 36) hC dX9_isHollow_31 (by decide) (fun c7 => ?_) (fun c7 => ?_)
        · replace h := (if_pos c7).symm.trans h
          refine x_sub [0, 1, 2] rfl ?_
          exact B_X9_isHollow_36 hC hR hE ih l1 l2 h
        · replace h := (if_neg c7).symm.trans h
          refine x_iconst (v := (0 : Int32)) hC dX9_isHollow_34 (by decide) <| ?_
          have e1 := Option.some.inj h
          subst e1
          exact x_zret (rest := []) hC hE rfl (by decide) dX9_isHollow_35
set_option maxRecDepth 100000 in
set_option maxHeartbeats 4000000 in
theorem C_X9_isHollow {G : xG} {l : Launch} {a1 : Int32} {σ : xS2} {r : Bool} (h : J_X9_isHollow a1 σ = some r) : xC G l mM_X9_isHollow 1 [.ref (xad G 43), .int a1] (xM σ) (some (.int (xb r))) (xM σ) := by
  refine xC_of (by decide) rfl (Nat.le_refl _) (Nat.le_of_ble_eq_true rfl) (fun K hC hE hR _ => ?_)
  refine x_iconst (v := (1 : Int32)) hC dX9_isHollow_0 (by decide) <| x_istore_n hC dX9_isHollow_1 rfl (by decide) rfl <| ?_
  refine x_sub [1, 2, 0] rfl ?_
  exact B_X9_isHollow_2 hC hR hE xFU a1 (1 : Int32) h
set_option maxRecDepth 100000 in
set_option maxHeartbeats 4000000 in
theorem B_X9_storeThen_29 {G : xG} {l : Launch} {K : xK} {r : Int32} {σ : xS2} (hC : xCX G mM_X9_storeThen K) (hR : xRd K 0) (hE : xE G K (some (.int r)) (xM σ)) : ∀ (s0 : Int32) (s1 : Int32), J_X9_storeThen_29 s0 s1 = r → xV G l mM_X9_storeThen K 29 [] [.int s1, .int s0] (xM σ) := by
  intro s0 s1 h
  refine x_isub hC dX9_storeThen_29 <| x_istore hC dX9_storeThen_30 (by decide) rfl <| x_iload hC dX9_storeThen_32 (j := 0) rfl <| ?_
  refine x_if_ge (tgt := 41) hC dX9_storeThen_34 (by decide) (fun c3 => ?_) (fun c3 => ?_)
  · replace h := (if_pos c3).symm.trans h
    refine x_iload hC dX9_storeThen_41 (j := 0) rfl <| x_bipush (v := (99 : Int32)) hC dX9_storeThen_43 (by decide) <| ?_
    refine x_icmp_le (tgt := 53) hC dX9_storeThen_45 (by decide) (fun c4 => ?_) (fun c4 => ?_)
    · replace h := (if_pos c4).symm.trans h
      refine x_iload hC dX9_storeThen_53 (j := 0) rfl <| ?_
      subst h
      exact x_iret (rest := []) hC hE rfl dX9_storeThen_55
    · replace h := (if_neg c4).symm.trans h
      refine x_bipush (v := (99 : Int32)) hC dX9_storeThen_48 (by decide) <| x_goto (tgt := 55) hC dX9_storeThen_50 (by decide) <| ?_
      subst h
      exact x_iret (rest := []) hC hE rfl dX9_storeThen_55
  · replace h := (if_neg c3).symm.trans h
    refine x_iconst (v := (0 : Int32)) hC dX9_storeThen_37 (by decide) <| x_goto (tgt := 55) hC dX9_storeThen_38 (by decide) <| ?_
    subst h
    exact x_iret (rest := []) hC hE rfl dX9_storeThen_55
set_option maxRecDepth 100000 in
set_option maxHeartbeats 4000000 in
theorem B_X9_storeThen_19 {G : xG} {l : Launch} {K : xK} {r : Int32} {σ : xS2} (hC : xCX G mM_X9_storeThen K) (hR : xRd K 0) (hE : xE G K (some (.int r)) (xM σ)) : ∀ (l3 : Bool) (s0 : Int32) (s1 : Int32), J_X9_storeThen_19 l3 s0 s1 = r → xV G l mM_X9_storeThen K 19 [(3, .int (xb l3))] [.int s1, .int s0] (xM σ) := by
  intro l3 s0 s1 h
  refine x_iadd hC dX9_storeThen_19 <| x_iload_n hC dX9_storeThen_20 rfl (j := 0) rfl <| ?_
  refine x_if_eq (tgt := 28) hC dX9_storeThen_21 (by decide) (fun c2 => ?_) (fun c2 => ?_)
  · replace h := (if_pos c2).symm.trans h
    refine x_iconst (v := (4 : Int32)) hC dX9_storeThen_28 (by decide) <| ?_
    refine x_sub [] rfl ?_
    exact B_X9_storeThen_29 hC hR hE (s0 + s1) (4 : Int32) h
  · replace h := (if_neg c2).symm.trans h
    refine x_iconst (v := (2 : Int32)) hC dX9_storeThen_24 (by decide) <| x_goto (tgt := 29) hC dX9_storeThen_25 (by decide) <| ?_
    refine x_sub [] rfl ?_
    exact B_X9_storeThen_29 hC hR hE (s0 + s1) (2 : Int32) h
set_option maxRecDepth 100000 in
set_option maxHeartbeats 4000000 in
theorem C_X9_storeThen {G : xG} {l : Launch} {a0 : Int32} {a1 : Int32} {a2 : Int32} {a3 : Bool} {σ : xS2} : xC G l mM_X9_storeThen 0 [.int a0, .int a1, .int a2, .int (xb a3)] (xM σ) (some (.int (J_X9_storeThen a0 a1 a2 a3))) (xM σ) := by
  refine xC_of (by decide) rfl (Nat.le_refl _) (Nat.le_of_ble_eq_true rfl) (fun K hC hE hR _ => ?_)
  obtain ⟨r, h⟩ : ∃ r, J_X9_storeThen a0 a1 a2 a3 = r := ⟨_, rfl⟩
  rw [h] at hE
  refine x_iload_n hC dX9_storeThen_0 rfl (j := 1) rfl <| x_iload_n hC dX9_storeThen_1 rfl (j := 2) rfl <| x_iconst (v := (2 : Int32)) hC dX9_storeThen_2 (by decide) <| x_idiv hC dX9_storeThen_3 (by decide) <| x_isub hC dX9_storeThen_4 <| x_istore hC dX9_storeThen_5 (by decide) rfl <| ?_
  refine x_iload_n hC dX9_storeThen_7 rfl (j := 1) rfl <| x_iload hC dX9_storeThen_8 (j := 0) rfl <| ?_
  refine x_if_le (tgt := 18) hC dX9_storeThen_10 (by decide) (fun c1 => ?_) (fun c1 => ?_)
  · replace h := (if_pos c1).symm.trans h
    refine x_iconst (v := (0 : Int32)) hC dX9_storeThen_18 (by decide) <| ?_
    refine x_sub [4] rfl ?_
    exact B_X9_storeThen_19 hC hR hE a3 a0 (0 : Int32) h
  · replace h := (if_neg c1).symm.trans h
    refine x_iload hC dX9_storeThen_13 (j := 0) rfl <| x_goto (tgt := 19) hC dX9_storeThen_15 (by decide) <| ?_
    refine x_sub [4] rfl ?_
    exact B_X9_storeThen_19 hC hR hE a3 a0 (a1 - (a2 / (2 : Int32))) h
set_option maxRecDepth 100000 in
set_option maxHeartbeats 4000000 in
theorem C_X9_come {G : xG} {l : Launch} {a1 : Int32} {a2 : Int32} {a3 : Int32} {a4 : Int32} {σ : xS2} {τ : xS2} (h : J_X9_come a1 a2 a3 a4 σ = some τ) : xC G l mM_X9_come 2 [.ref (xad G 43), .int a1, .int a2, .int a3, .int a4] (xM σ) none (xM τ) := by
  refine xC_of (by decide) rfl (Nat.le_refl _) (Nat.le_of_ble_eq_true rfl) (fun K hC hE hR _ => ?_)
  refine x_aload_n hC dX9_come_0 rfl (j := 0) rfl <| x_iload_n hC dX9_come_1 rfl (j := 1) rfl <| ?_
  obtain ⟨x1, h1, h⟩ := Option.bind_eq_some_iff.mp h
  refine x_callV hC hR dX9_come_2 mK_X9_isHollow wml_X9_160 (C_X9_isHollow (a1 := a1) (σ := σ) h1) (by omega) rfl (by decide) rfl rfl (xlt (by decide)) rfl (Nat.le_of_ble_eq_true rfl) rfl rfl rfl <| ?_
  refine x_istore hC dX9_come_5 (by decide) rfl <| x_bipush (v := (10 : Int32)) hC dX9_come_7 (by decide) <| x_iload_n hC dX9_come_9 rfl (j := 2) rfl <| x_imul hC dX9_come_10 <| x_iload_n hC dX9_come_11 rfl (j := 4) rfl <| x_iload hC dX9_come_12 (j := 5) rfl <| ?_
  refine x_aload_n hC dX9_come_14 rfl (j := 1) rfl <| s_getR (q := 47) hC dX9_come_15 wfl_X9_19 rfl (by decide) (by decide) (by decide) (by decide) (by decide) <| x_iload hC dX9_come_18 (j := 5) rfl <| ?_
  obtain ⟨h2, h⟩ := xgd_some h
  refine s_iald hC dX9_come_20 rfl (by decide) h2 <| ?_
  refine x_iload hC dX9_come_21 (j := 0) rfl <| x_callS hC hR dX9_come_23 mK_X9_dustThen wml_X9_280 (C_X9_dustThen (a0 := a3) (a1 := a4) (a2 := (σ.1 47 a4.toNatClampNeg)) (a3 := x1) (σ := σ)) (by omega) rfl (Nat.le_of_ble_eq_true rfl) rfl rfl rfl <| x_iadd hC dX9_come_26 <| x_istore hC dX9_come_27 (by decide) rfl <| x_iload_n hC dX9_come_29 rfl (j := 4) rfl <| x_aload_n hC dX9_come_30 rfl (j := 2) rfl <| ?_
  refine s_getR (q := 46) hC dX9_come_31 wfl_X9_16 rfl (by decide) (by decide) (by decide) (by decide) (by decide) <| x_iload hC dX9_come_34 (j := 6) rfl <| ?_
  obtain ⟨h4, h⟩ := xgd_some h
  refine s_iald hC dX9_come_36 rfl (by decide) h4 <| ?_
  refine x_iload_n hC dX9_come_37 rfl (j := 5) rfl <| x_iload hC dX9_come_38 (j := 1) rfl <| x_callS hC hR dX9_come_40 mK_X9_storeThen wml_X9_276 (C_X9_storeThen (a0 := a2) (a1 := (σ.1 46 a4.toNatClampNeg)) (a2 := a3) (a3 := x1) (σ := σ)) (by omega) rfl (Nat.le_of_ble_eq_true rfl) rfl rfl rfl <| x_istore hC dX9_come_43 (by decide) rfl <| x_iload hC dX9_come_45 (j := 0) rfl <| x_aload_n hC dX9_come_47 rfl (j := 3) rfl <| ?_
  refine s_getR (q := 64) hC dX9_come_48 wfl_X9_82 rfl (by decide) (by decide) (by decide) (by decide) (by decide) <| x_iload hC dX9_come_51 (j := 1) rfl <| ?_
  obtain ⟨h6, h⟩ := xgd_some h
  refine s_iald hC dX9_come_53 rfl (by decide) h6 <| ?_
  refine x_icmp_le (tgt := 66) hC dX9_come_54 (by decide) (fun c7 => ?_) (fun c7 => ?_)
  · replace h := (if_pos c7).symm.trans h
    have e1 := Option.some.inj h
    subst e1
    exact x_vret (rest := []) hC hE rfl dX9_come_66
  · replace h := (if_neg c7).symm.trans h
    refine x_aload_n hC dX9_come_57 rfl (j := 3) rfl <| s_getR (q := 64) hC dX9_come_58 wfl_X9_82 rfl (by decide) (by decide) (by decide) (by decide) (by decide) <| x_iload hC dX9_come_61 (j := 1) rfl <| x_iload hC dX9_come_63 (j := 0) rfl <| ?_
    obtain ⟨h8, h⟩ := xgd_some h
    refine s_iast hC dX9_come_65 rfl (by decide) h8 <| ?_
    have e1 := Option.some.inj h
    subst e1
    exact x_vret (rest := []) hC hE rfl dX9_come_66
set_option maxRecDepth 100000 in
set_option maxHeartbeats 4000000 in
theorem C_X9_cost {G : xG} {l : Launch} {a1 : Int32} {a2 : Int32} {σ : xS2} {r : Int32} (h : J_X9_cost a1 a2 σ = some r) : xC G l mM_X9_cost 2 [.ref (xad G 43), .int a1, .int a2] (xM σ) (some (.int r)) (xM σ) := by
  refine xC_of (by decide) rfl (Nat.le_refl _) (Nat.le_of_ble_eq_true rfl) (fun K hC hE hR _ => ?_)
  refine x_iload_n hC dX9_cost_0 rfl (j := 1) rfl <| x_callS hC hR dX9_cost_1 mK_X9_isCell wml_X9_141 (C_X9_isCell (a0 := a1) (σ := σ)) (by omega) rfl (Nat.le_of_ble_eq_true rfl) rfl rfl rfl <| ?_
  refine x_if_eq (tgt := 16) hC dX9_cost_4 (by decide) (fun c2 => ?_) (fun c2 => ?_)
  · replace h := (if_pos c2).symm.trans h
    refine x_iconst (v := (-1 : Int32)) hC dX9_cost_16 (by decide) <| ?_
    have e1 := Option.some.inj h
    subst e1
    exact x_iret (rest := []) hC hE rfl dX9_cost_17
  · replace h := (if_neg c2).symm.trans h
    refine x_iload_n hC dX9_cost_7 rfl (j := 2) rfl <| x_iconst (v := (1 : Int32)) hC dX9_cost_8 (by decide) <| x_iconst (v := (4 : Int32)) hC dX9_cost_9 (by decide) <| x_callS hC hR dX9_cost_10 mK_X9_in wml_X9_116 (C_X9_in (a0 := a2) (a1 := (1 : Int32)) (a2 := (4 : Int32)) (σ := σ)) (by omega) rfl (Nat.le_of_ble_eq_true rfl) rfl rfl rfl <| ?_
    refine x_if_ne (tgt := 18) hC dX9_cost_13 (by decide) (fun c4 => ?_) (fun c4 => ?_)
    · replace h := (if_neg c4).symm.trans h
      refine x_iload_n hC dX9_cost_18 rfl (j := 1) rfl <| x_iload_n hC dX9_cost_19 rfl (j := 2) rfl <| x_callS hC hR dX9_cost_20 mK_X9_beside wml_X9_120 (C_X9_beside (a0 := a1) (a1 := a2) (σ := σ)) (by omega) rfl (Nat.le_of_ble_eq_true rfl) rfl rfl rfl <| ?_
      refine x_if_ge (tgt := 31) hC dX9_cost_23 (by decide) (fun c6 => ?_) (fun c6 => ?_)
      · replace h := (if_pos c6).symm.trans h
        refine x_aload_n hC dX9_cost_31 rfl (j := 0) rfl <| x_iload_n hC dX9_cost_32 rfl (j := 1) rfl <| x_iload_n hC dX9_cost_33 rfl (j := 2) rfl <| ?_
        obtain ⟨x7, h7, h⟩ := Option.bind_eq_some_iff.mp h
        refine x_callV hC hR dX9_cost_34 mK_X9_costOf wml_X9_255 (C_X9_costOf (a1 := a1) (a2 := a2) (σ := σ) h7) (by omega) rfl (by decide) rfl rfl (xlt (by decide)) rfl (Nat.le_of_ble_eq_true rfl) rfl rfl rfl <| ?_
        have e1 := Option.some.inj h
        subst e1
        exact x_iret (rest := []) hC hE rfl dX9_cost_37
      · replace h := (if_neg c6).symm.trans h
        refine x_bipush (v := (-2 : Int32)) hC dX9_cost_26 (by decide) <| x_goto (tgt := 37) hC dX9_cost_28 (by decide) <| ?_
        have e1 := Option.some.inj h
        subst e1
        exact x_iret (rest := []) hC hE rfl dX9_cost_37
    · replace h := (if_pos c4).symm.trans h
      refine x_iconst (v := (-1 : Int32)) hC dX9_cost_16 (by decide) <| ?_
      have e1 := Option.some.inj h
      subst e1
      exact x_iret (rest := []) hC hE rfl dX9_cost_17
set_option maxRecDepth 100000 in
set_option maxHeartbeats 4000000 in
theorem B_X9_hollows_21 {G : xG} {l : Launch} {K : xK} {r : Int32} {σ : xS2} (hC : xCX G mM_X9_hollows K) (hR : xRd K 2) (hE : xE G K (some (.int r)) (xM σ)) {k4 : Int32 → Int32 → xS2 → Option Int32} (hk4 : ∀ (l1 : Int32) (l2 : Int32), k4 l1 l2 σ = some r → xV G l mM_X9_hollows K 4 [(0, .ref (xad G 43)), (1, .int l1), (2, .int l2)] [] (xM σ)) : ∀ (l1 : Int32) (l2 : Int32), J_X9_hollows_21 k4 l1 l2 σ = some r → xV G l mM_X9_hollows K 21 [(0, .ref (xad G 43)), (1, .int l1), (2, .int l2)] [] (xM σ) := by
  intro l1 l2 h
  refine x_iinc hC dX9_hollows_21 (j := 2) (v := (l2 + (1 : Int32))) rfl rfl (by decide) rfl <| x_goto (tgt := 4) hC dX9_hollows_24 (by decide) <| ?_
  refine x_sub [1, 2, 0] rfl ?_
  exact hk4 l1 (l2 + (1 : Int32)) h
set_option maxRecDepth 100000 in
set_option maxHeartbeats 4000000 in
theorem B_X9_hollows_4 {G : xG} {l : Launch} {K : xK} {r : Int32} {σ : xS2} (hC : xCX G mM_X9_hollows K) (hR : xRd K 2) (hE : xE G K (some (.int r)) (xM σ)) : ∀ (f : Nat) (l1 : Int32) (l2 : Int32), J_X9_hollows_4 f l1 l2 σ = some r → xV G l mM_X9_hollows K 4 [(0, .ref (xad G 43)), (1, .int l1), (2, .int l2)] [] (xM σ) := by
  intro f
  induction f with
  | zero => intro l1 l2 h; cases h
  | succ f ih =>
    intro l1 l2 h
    refine x_iload_n hC dX9_hollows_4 rfl (j := 2) rfl <| x_bipush (v := (36 : Int32)) hC dX9_hollows_5 (by decide) <| ?_
    refine x_icmp_ge (tgt := 27) hC dX9_hollows_7 (by decide) (fun c1 => ?_) (fun c1 => ?_)
    · replace h := (if_pos c1).symm.trans h
      refine x_iload_n hC dX9_hollows_27 rfl (j := 1) rfl <| ?_
      have e1 := Option.some.inj h
      subst e1
      exact x_iret (rest := []) hC hE rfl dX9_hollows_28
    · replace h := (if_neg c1).symm.trans h
      refine x_aload_n hC dX9_hollows_10 rfl (j := 0) rfl <| x_iload_n hC dX9_hollows_11 rfl (j := 2) rfl <| ?_
      obtain ⟨x2, h2, h⟩ := Option.bind_eq_some_iff.mp h
      refine x_callV hC hR dX9_hollows_12 mK_X9_isHollow wml_X9_160 (C_X9_isHollow (a1 := l2) (σ := σ) h2) (by omega) rfl (by decide) rfl rfl (xlt (by decide)) rfl (Nat.le_of_ble_eq_true rfl) rfl rfl rfl <| ?_
      refine x_if_eq (tgt := 21) hC dX9_hollows_15 (by decide) (fun c3 => ?_) (fun c3 => ?_)
      · replace h := (if_pos c3).symm.trans h
        refine x_sub [0, 1, 2] rfl ?_
        exact B_X9_hollows_21 hC hR hE ih l1 l2 h
      · replace h := (if_neg c3).symm.trans h
        refine x_iinc hC dX9_hollows_18 (j := 1) (v := (l1 + (1 : Int32))) rfl rfl (by decide) rfl <| ?_
        refine x_sub [1, 0, 2] rfl ?_
        exact B_X9_hollows_21 hC hR hE ih (l1 + (1 : Int32)) l2 h
set_option maxRecDepth 100000 in
set_option maxHeartbeats 4000000 in
theorem C_X9_hollows {G : xG} {l : Launch} {σ : xS2} {r : Int32} (h : J_X9_hollows σ = some r) : xC G l mM_X9_hollows 2 [.ref (xad G 43)] (xM σ) (some (.int r)) (xM σ) := by
  refine xC_of (by decide) rfl (Nat.le_refl _) (Nat.le_of_ble_eq_true rfl) (fun K hC hE hR _ => ?_)
  refine x_iconst (v := (0 : Int32)) hC dX9_hollows_0 (by decide) <| x_istore_n hC dX9_hollows_1 rfl (by decide) rfl <| x_iconst (v := (0 : Int32)) hC dX9_hollows_2 (by decide) <| x_istore_n hC dX9_hollows_3 rfl (by decide) rfl <| ?_
  refine x_sub [2, 1, 0] rfl ?_
  exact B_X9_hollows_4 hC hR hE xFU (0 : Int32) (0 : Int32) h
set_option maxRecDepth 100000 in
set_option maxHeartbeats 4000000 in
theorem B_X9_stones_4 {G : xG} {l : Launch} {K : xK} {r : Int32} {σ : xS2} (hC : xCX G mM_X9_stones K) (hR : xRd K 0) (hE : xE G K (some (.int r)) (xM σ)) : ∀ (f : Nat) (l1 : Int32) (l2 : Int32), J_X9_stones_4 f l1 l2 σ = some r → xV G l mM_X9_stones K 4 [(0, .ref (xad G 43)), (1, .int l1), (2, .int l2)] [] (xM σ) := by
  intro f
  induction f with
  | zero => intro l1 l2 h; cases h
  | succ f ih =>
    intro l1 l2 h
    refine x_iload_n hC dX9_stones_4 rfl (j := 2) rfl <| x_bipush (v := (36 : Int32)) hC dX9_stones_5 (by decide) <| ?_
    refine x_icmp_ge (tgt := 25) hC dX9_stones_7 (by decide) (fun c1 => ?_) (fun c1 => ?_)
    · replace h := (if_pos c1).symm.trans h
      refine x_iload_n hC dX9_stones_25 rfl (j := 1) rfl <| ?_
      have e1 := Option.some.inj h
      subst e1
      exact x_iret (rest := []) hC hE rfl dX9_stones_26
    · replace h := (if_neg c1).symm.trans h
      refine x_iload_n hC dX9_stones_10 rfl (j := 1) rfl <| x_aload_n hC dX9_stones_11 rfl (j := 0) rfl <| s_getR (q := 45) hC dX9_stones_12 wfl_X9_13 rfl (by decide) (by decide) (by decide) (by decide) (by decide) <| x_iload_n hC dX9_stones_15 rfl (j := 2) rfl <| ?_
      obtain ⟨h2, h⟩ := xgd_some h
      refine s_iald hC dX9_stones_16 rfl (by decide) h2 <| ?_
      refine x_iadd hC dX9_stones_17 <| x_istore_n hC dX9_stones_18 rfl (by decide) rfl <| x_iinc hC dX9_stones_19 (j := 2) (v := (l2 + (1 : Int32))) rfl rfl (by decide) rfl <| x_goto (tgt := 4) hC dX9_stones_22 (by decide) <| ?_
      refine x_sub [2, 1, 0] rfl ?_
      exact ih (l1 + (σ.1 45 l2.toNatClampNeg)) (l2 + (1 : Int32)) h
set_option maxRecDepth 100000 in
set_option maxHeartbeats 4000000 in
theorem C_X9_stones {G : xG} {l : Launch} {σ : xS2} {r : Int32} (h : J_X9_stones σ = some r) : xC G l mM_X9_stones 0 [.ref (xad G 43)] (xM σ) (some (.int r)) (xM σ) := by
  refine xC_of (by decide) rfl (Nat.le_refl _) (Nat.le_of_ble_eq_true rfl) (fun K hC hE hR _ => ?_)
  refine x_iconst (v := (0 : Int32)) hC dX9_stones_0 (by decide) <| x_istore_n hC dX9_stones_1 rfl (by decide) rfl <| x_iconst (v := (0 : Int32)) hC dX9_stones_2 (by decide) <| x_istore_n hC dX9_stones_3 rfl (by decide) rfl <| ?_
  refine x_sub [2, 1, 0] rfl ?_
  exact B_X9_stones_4 hC hR hE xFU (0 : Int32) (0 : Int32) h
set_option maxRecDepth 100000 in
set_option maxHeartbeats 4000000 in
theorem C_X9_count {G : xG} {l : Launch} {a1 : Int32} {σ : xS2} {r : Int32} (h : J_X9_count a1 σ = some r) : xC G l mM_X9_count 3 [.ref (xad G 43), .int a1] (xM σ) (some (.int r)) (xM σ) := by
  refine xC_of (by decide) rfl (Nat.le_refl _) (Nat.le_of_ble_eq_true rfl) (fun K hC hE hR _ => ?_)
  refine x_iload_n hC dX9_count_0 rfl (j := 1) rfl <| ?_
  by_cases c1 : a1 = (0 : Int32)
  · replace h := (if_pos c1).symm.trans h
    refine x_tsw (tgt := 40) hC dX9_count_1 (by decide) (by rw [c1]; decide) ?_
    refine x_aload_n hC dX9_count_40 rfl (j := 0) rfl <| ?_
    obtain ⟨x2, h2, h⟩ := Option.bind_eq_some_iff.mp h
    refine x_callV hC hR dX9_count_41 mK_X9_stones wml_X9_421 (C_X9_stones (σ := σ) h2) (by omega) rfl (by decide) rfl rfl (xlt (by decide)) rfl (Nat.le_of_ble_eq_true rfl) rfl rfl rfl <| ?_
    have e1 := Option.some.inj h
    subst e1
    exact x_iret (rest := []) hC hE rfl dX9_count_44
  · replace h := (if_neg c1).symm.trans h
    by_cases c3 : a1 = (1 : Int32)
    · replace h := (if_pos c3).symm.trans h
      refine x_tsw (tgt := 45) hC dX9_count_1 (by decide) (by rw [c3]; decide) ?_
      refine x_aload_n hC dX9_count_45 rfl (j := 0) rfl <| ?_
      obtain ⟨x4, h4, h⟩ := Option.bind_eq_some_iff.mp h
      refine x_callV hC hR dX9_count_46 mK_X9_hollows wml_X9_424 (C_X9_hollows (σ := σ) h4) (by omega) rfl (by decide) rfl rfl (xlt (by decide)) rfl (Nat.le_of_ble_eq_true rfl) rfl rfl rfl <| ?_
      have e1 := Option.some.inj h
      subst e1
      exact x_iret (rest := []) hC hE rfl dX9_count_49
    · replace h := (if_neg c3).symm.trans h
      by_cases c5 : a1 = (2 : Int32)
      · replace h := (if_pos c5).symm.trans h
        refine x_tsw (tgt := 50) hC dX9_count_1 (by decide) (by rw [c5]; decide) ?_
        refine x_aload_n hC dX9_count_50 rfl (j := 0) rfl <| s_getI hC dX9_count_51 wfl_X9_182 rfl (by decide) (by decide) (by decide) (by decide) <| ?_
        have e1 := Option.some.inj h
        subst e1
        exact x_iret (rest := []) hC hE rfl dX9_count_54
      · replace h := (if_neg c5).symm.trans h
        by_cases c6 : a1 = (3 : Int32)
        · replace h := (if_pos c6).symm.trans h
          refine x_tsw (tgt := 55) hC dX9_count_1 (by decide) (by rw [c6]; decide) ?_
          refine x_aload_n hC dX9_count_55 rfl (j := 0) rfl <| s_getI hC dX9_count_56 wfl_X9_134 rfl (by decide) (by decide) (by decide) (by decide) <| ?_
          have e1 := Option.some.inj h
          subst e1
          exact x_iret (rest := []) hC hE rfl dX9_count_59
        · replace h := (if_neg c6).symm.trans h
          by_cases c7 : a1 = (4 : Int32)
          · replace h := (if_pos c7).symm.trans h
            refine x_tsw (tgt := 60) hC dX9_count_1 (by decide) (by rw [c7]; decide) ?_
            refine x_aload_n hC dX9_count_60 rfl (j := 0) rfl <| s_getI hC dX9_count_61 wfl_X9_373 rfl (by decide) (by decide) (by decide) (by decide) <| ?_
            have e1 := Option.some.inj h
            subst e1
            exact x_iret (rest := []) hC hE rfl dX9_count_64
          · replace h := (if_neg c7).symm.trans h
            by_cases c8 : a1 = (5 : Int32)
            · replace h := (if_pos c8).symm.trans h
              refine x_tsw (tgt := 65) hC dX9_count_1 (by decide) (by rw [c8]; decide) ?_
              refine x_aload_n hC dX9_count_65 rfl (j := 0) rfl <| s_getI hC dX9_count_66 wfl_X9_376 rfl (by decide) (by decide) (by decide) (by decide) <| ?_
              have e1 := Option.some.inj h
              subst e1
              exact x_iret (rest := []) hC hE rfl dX9_count_69
            · replace h := (if_neg c8).symm.trans h
              refine x_tsw (tgt := 70) hC dX9_count_1 (by decide) ((xTs_else [0, 1, 2, 3, 4, 5] (by decide) (by decide +kernel) (List.forall_mem_cons.mpr ⟨lv_neT c1 (by decide), (List.forall_mem_cons.mpr ⟨lv_neT c3 (by decide), (List.forall_mem_cons.mpr ⟨lv_neT c5 (by decide), (List.forall_mem_cons.mpr ⟨lv_neT c6 (by decide), (List.forall_mem_cons.mpr ⟨lv_neT c7 (by decide), (List.forall_mem_cons.mpr ⟨lv_neT c8 (by decide), (fun _ z => absurd z List.not_mem_nil)⟩)⟩)⟩)⟩)⟩)⟩)).trans (by decide)) ?_
              refine x_iconst (v := (-1 : Int32)) hC dX9_count_70 (by decide) <| ?_
              have e1 := Option.some.inj h
              subst e1
              exact x_iret (rest := []) hC hE rfl dX9_count_71
set_option maxRecDepth 100000 in
set_option maxHeartbeats 4000000 in
theorem C_X9_isLooked {G : xG} {l : Launch} {a1 : Int32} {σ : xS2} : xC G l mM_X9_isLooked 0 [.ref (xad G 43), .int a1] (xM σ) (some (.int (xb (J_X9_isLooked a1 σ)))) (xM σ) := by
  refine xC_of (by decide) rfl (Nat.le_refl _) (Nat.le_of_ble_eq_true rfl) (fun K hC hE hR _ => ?_)
  obtain ⟨r, h⟩ : ∃ r, J_X9_isLooked a1 σ = r := ⟨_, rfl⟩
  rw [h] at hE
  refine x_aload_n hC dX9_isLooked_0 rfl (j := 0) rfl <| s_getL hC dX9_isLooked_1 wfl_X9_124 rfl (by decide) (by decide) (by decide) (by decide) <| x_iload_n hC dX9_isLooked_4 rfl (j := 1) rfl <| x_lshr (v := (xlr (σ.2 43 11) a1)) hC dX9_isLooked_5 rfl <| x_lconst (v := (1 : Int64)) hC dX9_isLooked_6 (by decide) <| x_land hC dX9_isLooked_7 <| ?_
  refine x_lconst (v := (1 : Int64)) hC dX9_isLooked_8 (by decide) <| x_lcmp hC dX9_isLooked_9 <| ?_
  refine x_if_ne (tgt := 17) hC dX9_isLooked_10 (by decide) (fun c1 => ?_) (fun c1 => ?_)
  · replace h := (if_neg c1).symm.trans h
    refine x_iconst (v := (0 : Int32)) hC dX9_isLooked_17 (by decide) <| ?_
    subst h
    exact x_zret (rest := []) hC hE rfl (by decide) dX9_isLooked_18
  · replace h := (if_pos c1).symm.trans h
    refine x_iconst (v := (1 : Int32)) hC dX9_isLooked_13 (by decide) <| x_goto (tgt := 18) hC dX9_isLooked_14 (by decide) <| ?_
    subst h
    exact x_zret (rest := []) hC hE rfl (by decide) dX9_isLooked_18
set_option maxRecDepth 100000 in
set_option maxHeartbeats 4000000 in
theorem C_X9_obeys {G : xG} {l : Launch} {a1 : Int32} {σ : xS2} {r : Bool} {τ : xS2} (h : J_X9_obeys a1 σ = some (r, τ)) : xC G l mM_X9_obeys 2 [.ref (xad G 43), .int a1] (xM σ) (some (.int (xb r))) (xM τ) := by
  refine xC_of (by decide) rfl (Nat.le_refl _) (Nat.le_of_ble_eq_true rfl) (fun K hC hE hR _ => ?_)
  refine x_iload_n hC dX9_obeys_0 rfl (j := 1) rfl <| ?_
  refine x_if_ne (tgt := 6) hC dX9_obeys_1 (by decide) (fun c1 => ?_) (fun c1 => ?_)
  · replace h := (if_neg c1).symm.trans h
    refine x_iload_n hC dX9_obeys_6 rfl (j := 1) rfl <| x_iconst (v := (5 : Int32)) hC dX9_obeys_7 (by decide) <| ?_
    refine x_icmp_ne (tgt := 71) hC dX9_obeys_8 (by decide) (fun c2 => ?_) (fun c2 => ?_)
    · replace h := (if_neg c2).symm.trans h
      refine x_aload_n hC dX9_obeys_71 rfl (j := 0) rfl <| s_getI hC dX9_obeys_72 wfl_X9_169 rfl (by decide) (by decide) (by decide) (by decide) <| x_iload_n hC dX9_obeys_75 rfl (j := 1) rfl <| x_callS hC hR dX9_obeys_76 mK_X9_beside wml_X9_120 (C_X9_beside (a0 := (σ.1 43 8)) (a1 := a1) (σ := σ)) (by omega) rfl (Nat.le_of_ble_eq_true rfl) rfl rfl rfl <| ?_
      refine x_if_lt (tgt := 98) hC dX9_obeys_79 (by decide) (fun c4 => ?_) (fun c4 => ?_)
      · replace h := (if_pos c4).symm.trans h
        refine x_iconst (v := (0 : Int32)) hC dX9_obeys_98 (by decide) <| ?_
        obtain ⟨e1, e2⟩ := xso2 h
        subst e1
        subst e2
        exact x_zret (rest := []) hC hE rfl (by decide) dX9_obeys_99
      · replace h := (if_neg c4).symm.trans h
        refine x_aload_n hC dX9_obeys_82 rfl (j := 0) rfl <| s_getI hC dX9_obeys_83 wfl_X9_29 rfl (by decide) (by decide) (by decide) (by decide) <| x_aload_n hC dX9_obeys_86 rfl (j := 0) rfl <| x_aload_n hC dX9_obeys_87 rfl (j := 0) rfl <| s_getI hC dX9_obeys_88 wfl_X9_169 rfl (by decide) (by decide) (by decide) (by decide) <| x_iload_n hC dX9_obeys_91 rfl (j := 1) rfl <| ?_
        obtain ⟨x5, h5, h⟩ := Option.bind_eq_some_iff.mp h
        refine x_callV hC hR dX9_obeys_92 mK_X9_costOf wml_X9_255 (C_X9_costOf (a1 := (σ.1 43 8)) (a2 := a1) (σ := σ) h5) (by omega) rfl (by decide) rfl rfl (xlt (by decide)) rfl (Nat.le_of_ble_eq_true rfl) rfl rfl rfl <| ?_
        refine x_icmp_ge (tgt := 100) hC dX9_obeys_95 (by decide) (fun c6 => ?_) (fun c6 => ?_)
        · replace h := (if_pos c6).symm.trans h
          refine x_aload_n hC dX9_obeys_100 rfl (j := 0) rfl <| x_dup hC dX9_obeys_101 rfl <| s_getI hC dX9_obeys_102 wfl_X9_29 rfl (by decide) (by decide) (by decide) (by decide) <| x_aload_n hC dX9_obeys_105 rfl (j := 0) rfl <| x_aload_n hC dX9_obeys_106 rfl (j := 0) rfl <| s_getI hC dX9_obeys_107 wfl_X9_169 rfl (by decide) (by decide) (by decide) (by decide) <| ?_
          refine x_iload_n hC dX9_obeys_110 rfl (j := 1) rfl <| ?_
          obtain ⟨x7, h7, h⟩ := Option.bind_eq_some_iff.mp h
          refine x_callV hC hR dX9_obeys_111 mK_X9_costOf wml_X9_255 (C_X9_costOf (a1 := (σ.1 43 8)) (a2 := a1) (σ := σ) h7) (by omega) rfl (by decide) rfl rfl (xlt (by decide)) rfl (Nat.le_of_ble_eq_true rfl) rfl rfl rfl <| ?_
          refine x_isub hC dX9_obeys_114 <| s_putI hC dX9_obeys_115 wfl_X9_29 rfl (by decide) (by decide) (by decide) (by decide) (by decide) <| x_aload_n hC dX9_obeys_118 rfl (j := 0) rfl <| x_aload_n hC dX9_obeys_119 rfl (j := 0) rfl <| s_getI hC dX9_obeys_120 wfl_X9_169 rfl (by decide) (by decide) (by decide) (by decide) <| x_iload_n hC dX9_obeys_123 rfl (j := 1) rfl <| ?_
          refine x_callS hC hR dX9_obeys_124 mK_X9_beside wml_X9_120 (C_X9_beside (a0 := (σ.1 43 8)) (a1 := a1) (σ := (yI σ 43 9 ((σ.1 43 9) - x7)))) (by omega) rfl (Nat.le_of_ble_eq_true rfl) rfl rfl rfl <| s_putI hC dX9_obeys_127 wfl_X9_169 rfl (by decide) (by decide) (by decide) (by decide) (by decide) <| x_iconst (v := (1 : Int32)) hC dX9_obeys_130 (by decide) <| ?_
          obtain ⟨e1, e2⟩ := xso2 h
          subst e1
          subst e2
          exact x_zret (rest := []) hC hE rfl (by decide) dX9_obeys_131
        · replace h := (if_neg c6).symm.trans h
          refine x_iconst (v := (0 : Int32)) hC dX9_obeys_98 (by decide) <| ?_
          obtain ⟨e1, e2⟩ := xso2 h
          subst e1
          subst e2
          exact x_zret (rest := []) hC hE rfl (by decide) dX9_obeys_99
    · replace h := (if_pos c2).symm.trans h
      refine x_aload_n hC dX9_obeys_11 rfl (j := 0) rfl <| s_getR (q := 45) hC dX9_obeys_12 wfl_X9_13 rfl (by decide) (by decide) (by decide) (by decide) (by decide) <| x_aload_n hC dX9_obeys_15 rfl (j := 0) rfl <| s_getI hC dX9_obeys_16 wfl_X9_169 rfl (by decide) (by decide) (by decide) (by decide) <| ?_
      obtain ⟨h9, h⟩ := xgd_some h
      refine s_iald hC dX9_obeys_19 rfl (by decide) h9 <| ?_
      refine x_if_eq (tgt := 42) hC dX9_obeys_20 (by decide) (fun c10 => ?_) (fun c10 => ?_)
      · replace h := (if_pos c10).symm.trans h
        refine x_iconst (v := (0 : Int32)) hC dX9_obeys_42 (by decide) <| ?_
        obtain ⟨e1, e2⟩ := xso2 h
        subst e1
        subst e2
        exact x_zret (rest := []) hC hE rfl (by decide) dX9_obeys_43
      · replace h := (if_neg c10).symm.trans h
        refine x_aload_n hC dX9_obeys_23 rfl (j := 0) rfl <| x_aload_n hC dX9_obeys_24 rfl (j := 0) rfl <| s_getI hC dX9_obeys_25 wfl_X9_169 rfl (by decide) (by decide) (by decide) (by decide) <| x_callV hC hR dX9_obeys_28 mK_X9_isLooked wml_X9_163 (C_X9_isLooked (a1 := (σ.1 43 8)) (σ := σ)) (by omega) rfl (by decide) rfl rfl (xlt (by decide)) rfl (Nat.le_of_ble_eq_true rfl) rfl rfl rfl <| ?_
        refine x_if_ne (tgt := 42) hC dX9_obeys_31 (by decide) (fun c12 => ?_) (fun c12 => ?_)
        · replace h := (if_neg c12).symm.trans h
          refine x_iconst (v := (0 : Int32)) hC dX9_obeys_42 (by decide) <| ?_
          obtain ⟨e1, e2⟩ := xso2 h
          subst e1
          subst e2
          exact x_zret (rest := []) hC hE rfl (by decide) dX9_obeys_43
        · replace h := (if_pos c12).symm.trans h
          refine x_aload_n hC dX9_obeys_34 rfl (j := 0) rfl <| s_getI hC dX9_obeys_35 wfl_X9_29 rfl (by decide) (by decide) (by decide) (by decide) <| x_iconst (v := (2 : Int32)) hC dX9_obeys_38 (by decide) <| ?_
          refine x_icmp_ge (tgt := 44) hC dX9_obeys_39 (by decide) (fun c13 => ?_) (fun c13 => ?_)
          · replace h := (if_pos c13).symm.trans h
            refine x_aload_n hC dX9_obeys_44 rfl (j := 0) rfl <| x_dup hC dX9_obeys_45 rfl <| s_getI hC dX9_obeys_46 wfl_X9_29 rfl (by decide) (by decide) (by decide) (by decide) <| x_iconst (v := (2 : Int32)) hC dX9_obeys_49 (by decide) <| x_isub hC dX9_obeys_50 <| s_putI hC dX9_obeys_51 wfl_X9_29 rfl (by decide) (by decide) (by decide) (by decide) (by decide) <| ?_
            refine x_aload_n hC dX9_obeys_54 rfl (j := 0) rfl <| x_dup hC dX9_obeys_55 rfl <| s_getL hC dX9_obeys_56 wfl_X9_124 rfl (by decide) (by decide) (by decide) (by decide) <| x_lconst (v := (1 : Int64)) hC dX9_obeys_59 (by decide) <| x_aload_n hC dX9_obeys_60 rfl (j := 0) rfl <| s_getI hC dX9_obeys_61 wfl_X9_169 rfl (by decide) (by decide) (by decide) (by decide) <| ?_
            refine x_lshl (v := (xls (1 : Int64) (σ.1 43 8))) hC dX9_obeys_64 rfl <| x_lor hC dX9_obeys_65 <| s_putL hC dX9_obeys_66 wfl_X9_124 rfl (by decide) (by decide) (by decide) (by decide) (by decide) <| x_iconst (v := (1 : Int32)) hC dX9_obeys_69 (by decide) <| ?_
            obtain ⟨e1, e2⟩ := xso2 h
            subst e1
            subst e2
            exact x_zret (rest := []) hC hE rfl (by decide) dX9_obeys_70
          · replace h := (if_neg c13).symm.trans h
            refine x_iconst (v := (0 : Int32)) hC dX9_obeys_42 (by decide) <| ?_
            obtain ⟨e1, e2⟩ := xso2 h
            subst e1
            subst e2
            exact x_zret (rest := []) hC hE rfl (by decide) dX9_obeys_43
  · replace h := (if_pos c1).symm.trans h
    refine x_iconst (v := (1 : Int32)) hC dX9_obeys_4 (by decide) <| ?_
    obtain ⟨e1, e2⟩ := xso2 h
    subst e1
    subst e2
    exact x_zret (rest := []) hC hE rfl (by decide) dX9_obeys_5
set_option maxRecDepth 100000 in
set_option maxHeartbeats 4000000 in
theorem C_X9_goDay {G : xG} {l : Launch} {a1 : Int32} {a2 : Int32} {a3 : Int32} {a4 : Int32} {σ : xS2} {r : Bool} {τ : xS2} (h : J_X9_goDay a1 a2 a3 a4 σ = some (r, τ)) : xC G l mM_X9_goDay 3 [.ref (xad G 43), .int a1, .int a2, .int a3, .int a4] (xM σ) (some (.int (xb r))) (xM τ) := by
  refine xC_of (by decide) rfl (Nat.le_refl _) (Nat.le_of_ble_eq_true rfl) (fun K hC hE hR _ => ?_)
  refine x_aload_n hC dX9_goDay_0 rfl (j := 0) rfl <| x_iload_n hC dX9_goDay_1 rfl (j := 1) rfl <| ?_
  obtain ⟨x1, h1, h⟩ := Option.bind_eq_some_iff.mp h
  refine x_callV hC hR dX9_goDay_2 mK_X9_obeys wml_X9_273 (C_X9_obeys (a1 := a1) (σ := σ) h1) (by omega) rfl (by decide) rfl rfl (xlt (by decide)) rfl (Nat.le_of_ble_eq_true rfl) rfl rfl rfl <| ?_
  refine x_istore hC dX9_goDay_5 (by decide) rfl <| x_aload_n hC dX9_goDay_7 rfl (j := 1) rfl <| x_aload_n hC dX9_goDay_8 rfl (j := 1) rfl <| s_getI hC dX9_goDay_9 wfl_X9_169 rfl (by decide) (by decide) (by decide) (by decide) <| ?_
  obtain ⟨x2, h2, h⟩ := Option.bind_eq_some_iff.mp h
  refine x_callV hC hR dX9_goDay_12 mK_X9_isHollow wml_X9_160 (C_X9_isHollow (a1 := (x1.2.1 43 8)) (σ := x1.2) h2) (by omega) rfl (by decide) rfl rfl (xlt (by decide)) rfl (Nat.le_of_ble_eq_true rfl) rfl rfl rfl <| ?_
  refine x_istore hC dX9_goDay_15 (by decide) rfl <| x_aload_n hC dX9_goDay_17 rfl (j := 2) rfl <| x_aload_n hC dX9_goDay_18 rfl (j := 2) rfl <| s_getI hC dX9_goDay_19 wfl_X9_29 rfl (by decide) (by decide) (by decide) (by decide) <| x_iload_n hC dX9_goDay_22 rfl (j := 5) rfl <| x_aload_n hC dX9_goDay_23 rfl (j := 2) rfl <| ?_
  refine s_getI hC dX9_goDay_24 wfl_X9_172 rfl (by decide) (by decide) (by decide) (by decide) <| x_iload hC dX9_goDay_27 (j := 0) rfl <| x_callS hC hR dX9_goDay_29 mK_X9_storeThen wml_X9_276 (C_X9_storeThen (a0 := (x1.2.1 43 9)) (a1 := a3) (a2 := (x1.2.1 43 10)) (a3 := x2) (σ := x1.2)) (by omega) rfl (Nat.le_of_ble_eq_true rfl) rfl rfl rfl <| s_putI hC dX9_goDay_32 wfl_X9_29 rfl (by decide) (by decide) (by decide) (by decide) (by decide) <| x_aload_n hC dX9_goDay_35 rfl (j := 2) rfl <| x_aload_n hC dX9_goDay_36 rfl (j := 2) rfl <| ?_
  refine s_getI hC dX9_goDay_37 wfl_X9_172 rfl (by decide) (by decide) (by decide) (by decide) <| x_iload_n hC dX9_goDay_40 rfl (j := 4) rfl <| x_iload hC dX9_goDay_41 (j := 6) rfl <| x_iload hC dX9_goDay_43 (j := 0) rfl <| x_callS hC hR dX9_goDay_45 mK_X9_dustThen wml_X9_280 (C_X9_dustThen (a0 := (x1.2.1 43 10)) (a1 := a2) (a2 := a4) (a3 := x2) (σ := (yI x1.2 43 9 (J_X9_storeThen (x1.2.1 43 9) a3 (x1.2.1 43 10) x2)))) (by omega) rfl (Nat.le_of_ble_eq_true rfl) rfl rfl rfl <| s_putI hC dX9_goDay_48 wfl_X9_172 rfl (by decide) (by decide) (by decide) (by decide) (by decide) <| ?_
  refine x_iload hC dX9_goDay_51 (j := 1) rfl <| ?_
  obtain ⟨e1, e2⟩ := xso2 h
  subst e1
  subst e2
  exact x_zret (rest := []) hC hE rfl (rfl) dX9_goDay_53
set_option maxRecDepth 100000 in
set_option maxHeartbeats 4000000 in
theorem C_X9_goOwn {G : xG} {l : Launch} {a1 : Int32} {a2 : Int32} {σ : xS2} {r : Bool} {τ : xS2} (h : J_X9_goOwn a1 a2 σ = some (r, τ)) : xC G l mM_X9_goOwn 4 [.ref (xad G 43), .int a1, .int a2] (xM σ) (some (.int (xb r))) (xM τ) := by
  refine xC_of (by decide) rfl (Nat.le_refl _) (Nat.le_of_ble_eq_true rfl) (fun K hC hE hR _ => ?_)
  refine x_aload_n hC dX9_goOwn_0 rfl (j := 0) rfl <| x_iload_n hC dX9_goOwn_1 rfl (j := 1) rfl <| x_iload_n hC dX9_goOwn_2 rfl (j := 2) rfl <| x_aload_n hC dX9_goOwn_3 rfl (j := 0) rfl <| s_getR (q := 46) hC dX9_goOwn_4 wfl_X9_16 rfl (by decide) (by decide) (by decide) (by decide) (by decide) <| x_iload_n hC dX9_goOwn_7 rfl (j := 2) rfl <| ?_
  obtain ⟨h1, h⟩ := xgd_some h
  refine s_iald hC dX9_goOwn_8 rfl (by decide) h1 <| ?_
  refine x_aload_n hC dX9_goOwn_9 rfl (j := 0) rfl <| s_getR (q := 47) hC dX9_goOwn_10 wfl_X9_19 rfl (by decide) (by decide) (by decide) (by decide) (by decide) <| x_iload_n hC dX9_goOwn_13 rfl (j := 2) rfl <| ?_
  obtain ⟨h2, h⟩ := xgd_some h
  refine s_iald hC dX9_goOwn_14 rfl (by decide) h2 <| ?_
  obtain ⟨x3, h3, h⟩ := Option.bind_eq_some_iff.mp h
  refine x_callV hC hR dX9_goOwn_15 mK_X9_goDay wml_X9_283 (C_X9_goDay (a1 := a1) (a2 := a2) (a3 := (σ.1 46 a2.toNatClampNeg)) (a4 := (σ.1 47 a2.toNatClampNeg)) (σ := σ) h3) (by omega) rfl (by decide) rfl rfl (xlt (by decide)) rfl (Nat.le_of_ble_eq_true rfl) rfl rfl rfl <| ?_
  obtain ⟨e1, e2⟩ := xso2 h
  subst e1
  subst e2
  exact x_zret (rest := []) hC hE rfl (rfl) dX9_goOwn_18
set_option maxRecDepth 100000 in
set_option maxHeartbeats 4000000 in
theorem B_X9_lead_37 {G : xG} {l : Launch} {K : xK} {r : Int32} {τ : xS2} (hC : xCX G mM_X9_lead K) (hR : xRd K 5) (hE : xE G K (some (.int r)) (xM τ)) : ∀ (l2 : Bool) (s1 : Int32) (s2 : Bool) (σ : xS2), J_X9_lead_37 l2 s1 s2 σ = some (r, τ) → xV G l mM_X9_lead K 37 [(0, .ref (xad G 43)), (2, .int (xb l2))] [.int (xb s2), .int s1, .ref (xad G 49)] (xM σ) := by
  intro l2 s1 s2 σ h
  obtain ⟨h4, h⟩ := xgd_some h
  refine s_iast hC dX9_lead_37 rfl (by decide) h4 <| ?_
  refine x_aload_n hC dX9_lead_38 rfl (j := 0) rfl <| x_dup hC dX9_lead_39 rfl <| s_getI hC dX9_lead_40 wfl_X9_166 rfl (by decide) (by decide) (by decide) (by decide) <| x_iconst (v := (1 : Int32)) hC dX9_lead_43 (by decide) <| x_iadd hC dX9_lead_44 <| s_putI hC dX9_lead_45 wfl_X9_166 rfl (by decide) (by decide) (by decide) (by decide) (by decide) <| ?_
  refine x_iload_n hC dX9_lead_48 rfl (j := 1) rfl <| ?_
  refine x_if_eq (tgt := 56) hC dX9_lead_49 (by decide) (fun c5 => ?_) (fun c5 => ?_)
  · replace h := (if_pos c5).symm.trans h
    refine x_iconst (v := (0 : Int32)) hC dX9_lead_56 (by decide) <| ?_
    obtain ⟨e1, e2⟩ := xso2 h
    subst e1
    subst e2
    exact x_iret (rest := []) hC hE rfl dX9_lead_57
  · replace h := (if_neg c5).symm.trans h
    refine x_iconst (v := (1 : Int32)) hC dX9_lead_52 (by decide) <| x_goto (tgt := 57) hC dX9_lead_53 (by decide) <| ?_
    obtain ⟨e1, e2⟩ := xso2 h
    subst e1
    subst e2
    exact x_iret (rest := []) hC hE rfl dX9_lead_57
set_option maxRecDepth 100000 in
set_option maxHeartbeats 4000000 in
theorem C_X9_lead {G : xG} {l : Launch} {a1 : Int32} {σ : xS2} {r : Int32} {τ : xS2} (h : J_X9_lead a1 σ = some (r, τ)) : xC G l mM_X9_lead 5 [.ref (xad G 43), .int a1] (xM σ) (some (.int r)) (xM τ) := by
  refine xC_of (by decide) rfl (Nat.le_refl _) (Nat.le_of_ble_eq_true rfl) (fun K hC hE hR _ => ?_)
  refine x_aload_n hC dX9_lead_0 rfl (j := 0) rfl <| x_iload_n hC dX9_lead_1 rfl (j := 1) rfl <| x_aload_n hC dX9_lead_2 rfl (j := 0) rfl <| s_getI hC dX9_lead_3 wfl_X9_166 rfl (by decide) (by decide) (by decide) (by decide) <| ?_
  obtain ⟨x1, h1, h⟩ := Option.bind_eq_some_iff.mp h
  refine x_callV hC hR dX9_lead_6 mK_X9_goOwn wml_X9_287 (C_X9_goOwn (a1 := a1) (a2 := (σ.1 43 7)) (σ := σ) h1) (by omega) rfl (by decide) rfl rfl (xlt (by decide)) rfl (Nat.le_of_ble_eq_true rfl) rfl rfl rfl <| ?_
  refine x_istore_n hC dX9_lead_9 rfl (by decide) rfl <| x_aload_n hC dX9_lead_10 rfl (j := 1) rfl <| s_getR (q := 48) hC dX9_lead_11 wfl_X9_32 rfl (by decide) (by decide) (by decide) (by decide) (by decide) <| x_aload_n hC dX9_lead_14 rfl (j := 1) rfl <| s_getI hC dX9_lead_15 wfl_X9_166 rfl (by decide) (by decide) (by decide) (by decide) <| x_iload_n hC dX9_lead_18 rfl (j := 2) rfl <| ?_
  obtain ⟨h2, h⟩ := xgd_some h
  refine s_iast hC dX9_lead_19 rfl (by decide) h2 <| ?_
  refine x_aload_n hC dX9_lead_20 rfl (j := 1) rfl <| s_getR (q := 49) hC dX9_lead_21 wfl_X9_35 rfl (by decide) (by decide) (by decide) (by decide) (by decide) <| x_aload_n hC dX9_lead_24 rfl (j := 1) rfl <| s_getI hC dX9_lead_25 wfl_X9_166 rfl (by decide) (by decide) (by decide) (by decide) <| x_iload_n hC dX9_lead_28 rfl (j := 0) rfl <| ?_
  refine x_if_eq (tgt := 36) hC dX9_lead_29 (by decide) (fun c3 => ?_) (fun c3 => ?_)
  · replace h := (if_pos c3).symm.trans h
    refine x_iconst (v := (0 : Int32)) hC dX9_lead_36 (by decide) <| ?_
    refine x_sub [1, 0] rfl ?_
    exact B_X9_lead_37 hC hR hE x1.1 (x1.2.1 43 7) false (yI x1.2 48 (x1.2.1 43 7).toNatClampNeg a1) h
  · replace h := (if_neg c3).symm.trans h
    refine x_iconst (v := (1 : Int32)) hC dX9_lead_32 (by decide) <| x_goto (tgt := 37) hC dX9_lead_33 (by decide) <| ?_
    refine x_sub [1, 0] rfl ?_
    exact B_X9_lead_37 hC hR hE x1.1 (x1.2.1 43 7) true (yI x1.2 48 (x1.2.1 43 7).toNatClampNeg a1) h
set_option maxRecDepth 100000 in
set_option maxHeartbeats 4000000 in
theorem C_X9_day {G : xG} {l : Launch} {a1 : Int32} {σ : xS2} {r : Int32} {τ : xS2} (h : J_X9_day a1 σ = some (r, τ)) : xC G l mM_X9_day 6 [.ref (xad G 43), .int a1] (xM σ) (some (.int r)) (xM τ) := by
  refine xC_of (by decide) rfl (Nat.le_refl _) (Nat.le_of_ble_eq_true rfl) (fun K hC hE hR _ => ?_)
  refine x_iload_n hC dX9_day_0 rfl (j := 1) rfl <| x_iconst (v := (0 : Int32)) hC dX9_day_1 (by decide) <| x_iconst (v := (5 : Int32)) hC dX9_day_2 (by decide) <| x_callS hC hR dX9_day_3 mK_X9_in wml_X9_116 (C_X9_in (a0 := a1) (a1 := (0 : Int32)) (a2 := (5 : Int32)) (σ := σ)) (by omega) rfl (Nat.le_of_ble_eq_true rfl) rfl rfl rfl <| ?_
  refine x_if_ne (tgt := 11) hC dX9_day_6 (by decide) (fun c2 => ?_) (fun c2 => ?_)
  · replace h := (if_neg c2).symm.trans h
    refine x_aload_n hC dX9_day_11 rfl (j := 0) rfl <| s_getI hC dX9_day_12 wfl_X9_166 rfl (by decide) (by decide) (by decide) (by decide) <| x_bipush (v := (60 : Int32)) hC dX9_day_15 (by decide) <| ?_
    refine x_icmp_ne (tgt := 25) hC dX9_day_17 (by decide) (fun c3 => ?_) (fun c3 => ?_)
    · replace h := (if_neg c3).symm.trans h
      refine x_aload_n hC dX9_day_25 rfl (j := 0) rfl <| x_iload_n hC dX9_day_26 rfl (j := 1) rfl <| ?_
      obtain ⟨x4, h4, h⟩ := Option.bind_eq_some_iff.mp h
      refine x_callV hC hR dX9_day_27 mK_X9_lead wml_X9_290 (C_X9_lead (a1 := a1) (σ := σ) h4) (by omega) rfl (by decide) rfl rfl (xlt (by decide)) rfl (Nat.le_of_ble_eq_true rfl) rfl rfl rfl <| ?_
      obtain ⟨e1, e2⟩ := xso2 h
      subst e1
      subst e2
      exact x_iret (rest := []) hC hE rfl dX9_day_30
    · replace h := (if_pos c3).symm.trans h
      refine x_bipush (v := (-5 : Int32)) hC dX9_day_20 (by decide) <| x_goto (tgt := 30) hC dX9_day_22 (by decide) <| ?_
      obtain ⟨e1, e2⟩ := xso2 h
      subst e1
      subst e2
      exact x_iret (rest := []) hC hE rfl dX9_day_30
  · replace h := (if_pos c2).symm.trans h
    refine x_iconst (v := (-1 : Int32)) hC dX9_day_9 (by decide) <| ?_
    obtain ⟨e1, e2⟩ := xso2 h
    subst e1
    subst e2
    exact x_iret (rest := []) hC hE rfl dX9_day_10
set_option maxRecDepth 100000 in
set_option maxHeartbeats 4000000 in
theorem B_X9_twoOf_163 {G : xG} {l : Launch} {K : xK} {r : Int32} {σ : xS2} (hC : xCX G mM_X9_twoOf K) (hR : xRd K 0) (hE : xE G K (some (.int r)) (xM σ)) : J_X9_twoOf_163 = some r → xV G l mM_X9_twoOf K 163 [] [] (xM σ) := by
  intro  h
  refine x_iconst (v := (0 : Int32)) hC dX9_twoOf_163 (by decide) <| x_goto (tgt := 170) hC dX9_twoOf_164 (by decide) <| ?_
  have e1 := Option.some.inj h
  subst e1
  exact x_iret (rest := []) hC hE rfl dX9_twoOf_170
set_option maxRecDepth 100000 in
set_option maxHeartbeats 4000000 in
theorem B_X9_twoOf_226 {G : xG} {l : Launch} {K : xK} {r : Int32} {σ : xS2} (hC : xCX G mM_X9_twoOf K) (hR : xRd K 0) (hE : xE G K (some (.int r)) (xM σ)) : J_X9_twoOf_226 = some r → xV G l mM_X9_twoOf K 226 [] [] (xM σ) := by
  intro  h
  refine x_iconst (v := (1 : Int32)) hC dX9_twoOf_226 (by decide) <| x_goto (tgt := 231) hC dX9_twoOf_227 (by decide) <| ?_
  have e1 := Option.some.inj h
  subst e1
  exact x_iret (rest := []) hC hE rfl dX9_twoOf_231
set_option maxRecDepth 100000 in
set_option maxHeartbeats 4000000 in
theorem B_X9_twoOf_218 {G : xG} {l : Launch} {K : xK} {r : Int32} {σ : xS2} (hC : xCX G mM_X9_twoOf K) (hR : xRd K 0) (hE : xE G K (some (.int r)) (xM σ)) : ∀ (l1 : Int32) (l2 : Int32), J_X9_twoOf_218 l1 l2 = some r → xV G l mM_X9_twoOf K 218 [(1, .int l1), (2, .int l2)] [] (xM σ) := by
  intro l1 l2 h
  refine x_iload_n hC dX9_twoOf_218 rfl (j := 0) rfl <| ?_
  refine x_if_ne (tgt := 226) hC dX9_twoOf_219 (by decide) (fun c21 => ?_) (fun c21 => ?_)
  · replace h := (if_neg c21).symm.trans h
    refine x_sub [] rfl ?_
    exact B_X9_twoOf_226 hC hR hE  h
  · replace h := (if_pos c21).symm.trans h
    refine x_iload_n hC dX9_twoOf_222 rfl (j := 1) rfl <| ?_
    refine x_if_eq (tgt := 230) hC dX9_twoOf_223 (by decide) (fun c22 => ?_) (fun c22 => ?_)
    · replace h := (if_pos c22).symm.trans h
      refine x_iconst (v := (0 : Int32)) hC dX9_twoOf_230 (by decide) <| ?_
      have e1 := Option.some.inj h
      subst e1
      exact x_iret (rest := []) hC hE rfl dX9_twoOf_231
    · replace h := (if_neg c22).symm.trans h
      refine x_sub [] rfl ?_
      exact B_X9_twoOf_226 hC hR hE  h
set_option maxRecDepth 100000 in
set_option maxHeartbeats 4000000 in
theorem C_X9_twoOf {G : xG} {l : Launch} {a0 : Int32} {a1 : Int32} {a2 : Int32} {σ : xS2} {r : Int32} (h : J_X9_twoOf a0 a1 a2 = some r) : xC G l mM_X9_twoOf 0 [.int a0, .int a1, .int a2] (xM σ) (some (.int r)) (xM σ) := by
  refine xC_of (by decide) rfl (Nat.le_refl _) (Nat.le_of_ble_eq_true rfl) (fun K hC hE hR _ => ?_)
  refine x_iload_n hC dX9_twoOf_0 rfl (j := 0) rfl <| ?_
  by_cases c1 : a0 = (37 : Int32)
  · replace h := (if_pos c1).symm.trans h
    refine x_tsw (tgt := 154) hC dX9_twoOf_1 (by decide) (by rw [c1]; decide) ?_
    refine x_iload_n hC dX9_twoOf_154 rfl (j := 2) rfl <| ?_
    refine x_if_eq (tgt := 163) hC dX9_twoOf_155 (by decide) (fun c2 => ?_) (fun c2 => ?_)
    · replace h := (if_pos c2).symm.trans h
      refine x_sub [] rfl ?_
      exact B_X9_twoOf_163 hC hR hE  h
    · replace h := (if_neg c2).symm.trans h
      refine x_iload_n hC dX9_twoOf_158 rfl (j := 2) rfl <| x_iconst (v := (-1 : Int32)) hC dX9_twoOf_159 (by decide) <| ?_
      refine x_icmp_ne (tgt := 167) hC dX9_twoOf_160 (by decide) (fun c3 => ?_) (fun c3 => ?_)
      · replace h := (if_neg c3).symm.trans h
        refine x_iload_n hC dX9_twoOf_167 rfl (j := 1) rfl <| x_iload_n hC dX9_twoOf_168 rfl (j := 2) rfl <| ?_
        obtain ⟨h4, h⟩ := xgd_some h
        refine x_irm hC dX9_twoOf_169 (xnz_ne h4) <| ?_
        have e1 := Option.some.inj h
        subst e1
        exact x_iret (rest := []) hC hE rfl dX9_twoOf_170
      · replace h := (if_pos c3).symm.trans h
        refine x_sub [] rfl ?_
        exact B_X9_twoOf_163 hC hR hE  h
  · replace h := (if_neg c1).symm.trans h
    by_cases c5 : a0 = (38 : Int32)
    · replace h := (if_pos c5).symm.trans h
      refine x_tsw (tgt := 204) hC dX9_twoOf_1 (by decide) (by rw [c5]; decide) ?_
      refine x_iload_n hC dX9_twoOf_204 rfl (j := 1) rfl <| ?_
      refine x_if_eq (tgt := 216) hC dX9_twoOf_205 (by decide) (fun c6 => ?_) (fun c6 => ?_)
      · replace h := (if_pos c6).symm.trans h
        refine x_iconst (v := (0 : Int32)) hC dX9_twoOf_216 (by decide) <| ?_
        have e1 := Option.some.inj h
        subst e1
        exact x_iret (rest := []) hC hE rfl dX9_twoOf_217
      · replace h := (if_neg c6).symm.trans h
        refine x_iload_n hC dX9_twoOf_208 rfl (j := 2) rfl <| ?_
        refine x_if_eq (tgt := 216) hC dX9_twoOf_209 (by decide) (fun c7 => ?_) (fun c7 => ?_)
        · replace h := (if_pos c7).symm.trans h
          refine x_iconst (v := (0 : Int32)) hC dX9_twoOf_216 (by decide) <| ?_
          have e1 := Option.some.inj h
          subst e1
          exact x_iret (rest := []) hC hE rfl dX9_twoOf_217
        · replace h := (if_neg c7).symm.trans h
          refine x_iconst (v := (1 : Int32)) hC dX9_twoOf_212 (by decide) <| x_goto (tgt := 217) hC dX9_twoOf_213 (by decide) <| ?_
          have e1 := Option.some.inj h
          subst e1
          exact x_iret (rest := []) hC hE rfl dX9_twoOf_217
    · replace h := (if_neg c5).symm.trans h
      by_cases c8 : a0 = (42 : Int32)
      · replace h := (if_pos c8).symm.trans h
        refine x_tsw (tgt := 128) hC dX9_twoOf_1 (by decide) (by rw [c8]; decide) ?_
        refine x_iload_n hC dX9_twoOf_128 rfl (j := 1) rfl <| x_iload_n hC dX9_twoOf_129 rfl (j := 2) rfl <| x_imul hC dX9_twoOf_130 <| ?_
        have e1 := Option.some.inj h
        subst e1
        exact x_iret (rest := []) hC hE rfl dX9_twoOf_131
      · replace h := (if_neg c8).symm.trans h
        by_cases c9 : a0 = (43 : Int32)
        · replace h := (if_pos c9).symm.trans h
          refine x_tsw (tgt := 120) hC dX9_twoOf_1 (by decide) (by rw [c9]; decide) ?_
          refine x_iload_n hC dX9_twoOf_120 rfl (j := 1) rfl <| x_iload_n hC dX9_twoOf_121 rfl (j := 2) rfl <| x_iadd hC dX9_twoOf_122 <| ?_
          have e1 := Option.some.inj h
          subst e1
          exact x_iret (rest := []) hC hE rfl dX9_twoOf_123
        · replace h := (if_neg c9).symm.trans h
          by_cases c10 : a0 = (45 : Int32)
          · replace h := (if_pos c10).symm.trans h
            refine x_tsw (tgt := 124) hC dX9_twoOf_1 (by decide) (by rw [c10]; decide) ?_
            refine x_iload_n hC dX9_twoOf_124 rfl (j := 1) rfl <| x_iload_n hC dX9_twoOf_125 rfl (j := 2) rfl <| x_isub hC dX9_twoOf_126 <| ?_
            have e1 := Option.some.inj h
            subst e1
            exact x_iret (rest := []) hC hE rfl dX9_twoOf_127
          · replace h := (if_neg c10).symm.trans h
            by_cases c11 : a0 = (47 : Int32)
            · replace h := (if_pos c11).symm.trans h
              refine x_tsw (tgt := 132) hC dX9_twoOf_1 (by decide) (by rw [c11]; decide) ?_
              refine x_iload_n hC dX9_twoOf_132 rfl (j := 2) rfl <| ?_
              refine x_if_ne (tgt := 140) hC dX9_twoOf_133 (by decide) (fun c12 => ?_) (fun c12 => ?_)
              · replace h := (if_neg c12).symm.trans h
                refine x_iload_n hC dX9_twoOf_140 rfl (j := 2) rfl <| x_iconst (v := (-1 : Int32)) hC dX9_twoOf_141 (by decide) <| ?_
                refine x_icmp_ne (tgt := 150) hC dX9_twoOf_142 (by decide) (fun c13 => ?_) (fun c13 => ?_)
                · replace h := (if_neg c13).symm.trans h
                  refine x_iload_n hC dX9_twoOf_150 rfl (j := 1) rfl <| x_iload_n hC dX9_twoOf_151 rfl (j := 2) rfl <| ?_
                  obtain ⟨h14, h⟩ := xgd_some h
                  refine x_idiv hC dX9_twoOf_152 (xnz_ne h14) <| ?_
                  have e1 := Option.some.inj h
                  subst e1
                  exact x_iret (rest := []) hC hE rfl dX9_twoOf_153
                · replace h := (if_pos c13).symm.trans h
                  refine x_iload_n hC dX9_twoOf_145 rfl (j := 1) rfl <| x_ineg hC dX9_twoOf_146 <| x_goto (tgt := 153) hC dX9_twoOf_147 (by decide) <| ?_
                  have e1 := Option.some.inj h
                  subst e1
                  exact x_iret (rest := []) hC hE rfl dX9_twoOf_153
              · replace h := (if_pos c12).symm.trans h
                refine x_iconst (v := (0 : Int32)) hC dX9_twoOf_136 (by decide) <| x_goto (tgt := 153) hC dX9_twoOf_137 (by decide) <| ?_
                have e1 := Option.some.inj h
                subst e1
                exact x_iret (rest := []) hC hE rfl dX9_twoOf_153
            · replace h := (if_neg c11).symm.trans h
              by_cases c15 : a0 = (60 : Int32)
              · replace h := (if_pos c15).symm.trans h
                refine x_tsw (tgt := 171) hC dX9_twoOf_1 (by decide) (by rw [c15]; decide) ?_
                refine x_iload_n hC dX9_twoOf_171 rfl (j := 1) rfl <| x_iload_n hC dX9_twoOf_172 rfl (j := 2) rfl <| ?_
                refine x_icmp_ge (tgt := 180) hC dX9_twoOf_173 (by decide) (fun c16 => ?_) (fun c16 => ?_)
                · replace h := (if_pos c16).symm.trans h
                  refine x_iconst (v := (0 : Int32)) hC dX9_twoOf_180 (by decide) <| ?_
                  have e1 := Option.some.inj h
                  subst e1
                  exact x_iret (rest := []) hC hE rfl dX9_twoOf_181
                · replace h := (if_neg c16).symm.trans h
                  refine x_iconst (v := (1 : Int32)) hC dX9_twoOf_176 (by decide) <| x_goto (tgt := 181) hC dX9_twoOf_177 (by decide) <| ?_
                  have e1 := Option.some.inj h
                  subst e1
                  exact x_iret (rest := []) hC hE rfl dX9_twoOf_181
              · replace h := (if_neg c15).symm.trans h
                by_cases c17 : a0 = (61 : Int32)
                · replace h := (if_pos c17).symm.trans h
                  refine x_tsw (tgt := 182) hC dX9_twoOf_1 (by decide) (by rw [c17]; decide) ?_
                  refine x_iload_n hC dX9_twoOf_182 rfl (j := 1) rfl <| x_iload_n hC dX9_twoOf_183 rfl (j := 2) rfl <| ?_
                  refine x_icmp_ne (tgt := 191) hC dX9_twoOf_184 (by decide) (fun c18 => ?_) (fun c18 => ?_)
                  · replace h := (if_neg c18).symm.trans h
                    refine x_iconst (v := (0 : Int32)) hC dX9_twoOf_191 (by decide) <| ?_
                    have e1 := Option.some.inj h
                    subst e1
                    exact x_iret (rest := []) hC hE rfl dX9_twoOf_192
                  · replace h := (if_pos c18).symm.trans h
                    refine x_iconst (v := (1 : Int32)) hC dX9_twoOf_187 (by decide) <| x_goto (tgt := 192) hC dX9_twoOf_188 (by decide) <| ?_
                    have e1 := Option.some.inj h
                    subst e1
                    exact x_iret (rest := []) hC hE rfl dX9_twoOf_192
                · replace h := (if_neg c17).symm.trans h
                  by_cases c19 : a0 = (62 : Int32)
                  · replace h := (if_pos c19).symm.trans h
                    refine x_tsw (tgt := 193) hC dX9_twoOf_1 (by decide) (by rw [c19]; decide) ?_
                    refine x_iload_n hC dX9_twoOf_193 rfl (j := 1) rfl <| x_iload_n hC dX9_twoOf_194 rfl (j := 2) rfl <| ?_
                    refine x_icmp_le (tgt := 202) hC dX9_twoOf_195 (by decide) (fun c20 => ?_) (fun c20 => ?_)
                    · replace h := (if_pos c20).symm.trans h
                      refine x_iconst (v := (0 : Int32)) hC dX9_twoOf_202 (by decide) <| ?_
                      have e1 := Option.some.inj h
                      subst e1
                      exact x_iret (rest := []) hC hE rfl dX9_twoOf_203
                    · replace h := (if_neg c20).symm.trans h
                      refine x_iconst (v := (1 : Int32)) hC dX9_twoOf_198 (by decide) <| x_goto (tgt := 203) hC dX9_twoOf_199 (by decide) <| ?_
                      have e1 := Option.some.inj h
                      subst e1
                      exact x_iret (rest := []) hC hE rfl dX9_twoOf_203
                  · replace h := (if_neg c19).symm.trans h
                    refine x_tsw (tgt := 218) hC dX9_twoOf_1 (by decide) ((xTs_else [37, 38, 42, 43, 45, 47, 60, 61, 62] (by decide) (by decide +kernel) (List.forall_mem_cons.mpr ⟨lv_neT c1 (by decide), (List.forall_mem_cons.mpr ⟨lv_neT c5 (by decide), (List.forall_mem_cons.mpr ⟨lv_neT c8 (by decide), (List.forall_mem_cons.mpr ⟨lv_neT c9 (by decide), (List.forall_mem_cons.mpr ⟨lv_neT c10 (by decide), (List.forall_mem_cons.mpr ⟨lv_neT c11 (by decide), (List.forall_mem_cons.mpr ⟨lv_neT c15 (by decide), (List.forall_mem_cons.mpr ⟨lv_neT c17 (by decide), (List.forall_mem_cons.mpr ⟨lv_neT c19 (by decide), (fun _ z => absurd z List.not_mem_nil)⟩)⟩)⟩)⟩)⟩)⟩)⟩)⟩)⟩)).trans (by decide)) ?_
                    refine x_sub [1, 2] rfl ?_
                    exact B_X9_twoOf_218 hC hR hE a1 a2 h
set_option maxRecDepth 100000 in
set_option maxHeartbeats 4000000 in
theorem B_X9_worked_182 {G : xG} {l : Launch} {K : xK} {r : Int32} {τ : xS2} (hC : xCX G mM_X9_worked K) (hR : xRd K 1) (hE : xE G K (some (.int r)) (xM τ)) {k12 : Int32 → Int32 → Int32 → Int32 → xS2 → Option (Int32 × xS2)} (hk12 : ∀ (l1 : Int32) (l3 : Int32) (l4 : Int32) (l5 : Int32) (σ : xS2), k12 l1 l3 l4 l5 σ = some (r, τ) → xV G l mM_X9_worked K 12 [(0, .ref (xad G 43)), (1, .int l1), (3, .int l3), (4, .int l4), (5, .int l5)] [] (xM σ)) : ∀ (l1 : Int32) (l3 : Int32) (l4 : Int32) (l5 : Int32) (σ : xS2), J_X9_worked_182 k12 l1 l3 l4 l5 σ = some (r, τ) → xV G l mM_X9_worked K 182 [(0, .ref (xad G 43)), (1, .int l1), (3, .int l3), (4, .int l4), (5, .int l5)] [] (xM σ) := by
  intro l1 l3 l4 l5 σ h
  refine x_iinc hC dX9_worked_182 (j := 4) (v := (l5 + (1 : Int32))) rfl rfl (by decide) rfl <| x_goto (tgt := 12) hC dX9_worked_185 (by decide) <| ?_
  refine x_sub [1, 2, 3, 4, 0] rfl ?_
  exact hk12 l1 l3 l4 (l5 + (1 : Int32)) σ h
set_option maxRecDepth 100000 in
set_option maxHeartbeats 4000000 in
theorem B_X9_worked_79 {G : xG} {l : Launch} {K : xK} {r : Int32} {τ : xS2} (hC : xCX G mM_X9_worked K) (hR : xRd K 1) (hE : xE G K (some (.int r)) (xM τ)) {k12 : Int32 → Int32 → Int32 → Int32 → xS2 → Option (Int32 × xS2)} (hk12 : ∀ (l1 : Int32) (l3 : Int32) (l4 : Int32) (l5 : Int32) (σ : xS2), k12 l1 l3 l4 l5 σ = some (r, τ) → xV G l mM_X9_worked K 12 [(0, .ref (xad G 43)), (1, .int l1), (3, .int l3), (4, .int l4), (5, .int l5)] [] (xM σ)) : ∀ (l1 : Int32) (l3 : Int32) (l4 : Int32) (l5 : Int32) (s1 : Int32) (s2 : Int32) (σ : xS2), J_X9_worked_79 k12 l1 l3 l4 l5 s1 s2 σ = some (r, τ) → xV G l mM_X9_worked K 79 [(0, .ref (xad G 43)), (1, .int l1), (3, .int l3), (4, .int l4), (5, .int l5)] [.int s2, .int s1, .ref (xad G 61)] (xM σ) := by
  intro l1 l3 l4 l5 s1 s2 σ h
  obtain ⟨h8, h⟩ := xgd_some h
  refine s_iast hC dX9_worked_79 rfl (by decide) h8 <| ?_
  refine x_iinc hC dX9_worked_80 (j := 3) (v := (l4 + (1 : Int32))) rfl rfl (by decide) rfl <| x_goto (tgt := 182) hC dX9_worked_83 (by decide) <| ?_
  refine x_sub [1, 2, 3, 0, 4] rfl ?_
  exact B_X9_worked_182 hC hR hE hk12 l1 l3 (l4 + (1 : Int32)) l5 (yI σ 61 s1.toNatClampNeg s2) h
set_option maxRecDepth 100000 in
set_option maxHeartbeats 4000000 in
theorem B_X9_worked_45 {G : xG} {l : Launch} {K : xK} {r : Int32} {τ : xS2} (hC : xCX G mM_X9_worked K) (hR : xRd K 1) (hE : xE G K (some (.int r)) (xM τ)) {k12 : Int32 → Int32 → Int32 → Int32 → xS2 → Option (Int32 × xS2)} (hk12 : ∀ (l1 : Int32) (l3 : Int32) (l4 : Int32) (l5 : Int32) (σ : xS2), k12 l1 l3 l4 l5 σ = some (r, τ) → xV G l mM_X9_worked K 12 [(0, .ref (xad G 43)), (1, .int l1), (3, .int l3), (4, .int l4), (5, .int l5)] [] (xM σ)) : ∀ (l1 : Int32) (l3 : Int32) (l4 : Int32) (l5 : Int32) (l6 : Int32) (σ : xS2), J_X9_worked_45 k12 l1 l3 l4 l5 l6 σ = some (r, τ) → xV G l mM_X9_worked K 45 [(0, .ref (xad G 43)), (1, .int l1), (3, .int l3), (4, .int l4), (5, .int l5), (6, .int l6)] [] (xM σ) := by
  intro l1 l3 l4 l5 l6 σ h
  refine x_aload_n hC dX9_worked_45 rfl (j := 0) rfl <| s_getR (q := 61) hC dX9_worked_46 wfl_X9_73 rfl (by decide) (by decide) (by decide) (by decide) (by decide) <| x_iload hC dX9_worked_49 (j := 3) rfl <| x_iload hC dX9_worked_51 (j := 5) rfl <| x_iconst (v := (1 : Int32)) hC dX9_worked_53 (by decide) <| ?_
  refine x_icmp_ne (tgt := 67) hC dX9_worked_54 (by decide) (fun c5 => ?_) (fun c5 => ?_)
  · replace h := (if_neg c5).symm.trans h
    refine x_aload_n hC dX9_worked_67 rfl (j := 0) rfl <| s_getR (q := 60) hC dX9_worked_68 wfl_X9_70 rfl (by decide) (by decide) (by decide) (by decide) (by decide) <| x_aload_n hC dX9_worked_71 rfl (j := 0) rfl <| s_getR (q := 56) hC dX9_worked_72 wfl_X9_57 rfl (by decide) (by decide) (by decide) (by decide) (by decide) <| x_iload hC dX9_worked_75 (j := 4) rfl <| ?_
    obtain ⟨h6, h⟩ := xgd_some h
    refine s_iald hC dX9_worked_77 rfl (by decide) h6 <| ?_
    obtain ⟨h7, h⟩ := xgd_some h
    refine s_iald hC dX9_worked_78 rfl (by decide) h7 <| ?_
    refine x_sub [0, 1, 2, 3, 4] rfl ?_
    exact B_X9_worked_79 hC hR hE hk12 l1 l3 l4 l5 l4 (σ.1 60 (σ.1 56 l5.toNatClampNeg).toNatClampNeg) σ h
  · replace h := (if_pos c5).symm.trans h
    refine x_aload_n hC dX9_worked_57 rfl (j := 0) rfl <| s_getR (q := 56) hC dX9_worked_58 wfl_X9_57 rfl (by decide) (by decide) (by decide) (by decide) (by decide) <| x_iload hC dX9_worked_61 (j := 4) rfl <| ?_
    obtain ⟨h9, h⟩ := xgd_some h
    refine s_iald hC dX9_worked_63 rfl (by decide) h9 <| ?_
    refine x_goto (tgt := 79) hC dX9_worked_64 (by decide) <| ?_
    refine x_sub [0, 1, 2, 3, 4] rfl ?_
    exact B_X9_worked_79 hC hR hE hk12 l1 l3 l4 l5 l4 (σ.1 56 l5.toNatClampNeg) σ h
set_option maxRecDepth 100000 in
set_option maxHeartbeats 4000000 in
theorem B_X9_worked_117 {G : xG} {l : Launch} {K : xK} {r : Int32} {τ : xS2} (hC : xCX G mM_X9_worked K) (hR : xRd K 1) (hE : xE G K (some (.int r)) (xM τ)) {k12 : Int32 → Int32 → Int32 → Int32 → xS2 → Option (Int32 × xS2)} (hk12 : ∀ (l1 : Int32) (l3 : Int32) (l4 : Int32) (l5 : Int32) (σ : xS2), k12 l1 l3 l4 l5 σ = some (r, τ) → xV G l mM_X9_worked K 12 [(0, .ref (xad G 43)), (1, .int l1), (3, .int l3), (4, .int l4), (5, .int l5)] [] (xM σ)) : ∀ (l1 : Int32) (l3 : Int32) (l4 : Int32) (l5 : Int32) (s1 : Int32) (s2 : Bool) (σ : xS2), J_X9_worked_117 k12 l1 l3 l4 l5 s1 s2 σ = some (r, τ) → xV G l mM_X9_worked K 117 [(0, .ref (xad G 43)), (1, .int l1), (3, .int l3), (4, .int l4), (5, .int l5)] [.int (xb s2), .int s1, .ref (xad G 61)] (xM σ) := by
  intro l1 l3 l4 l5 s1 s2 σ h
  obtain ⟨h21, h⟩ := xgd_some h
  refine s_iast hC dX9_worked_117 rfl (by decide) h21 <| ?_
  refine x_goto (tgt := 182) hC dX9_worked_118 (by decide) <| ?_
  refine x_sub [0, 1, 2, 3, 4] rfl ?_
  exact B_X9_worked_182 hC hR hE hk12 l1 l3 l4 l5 (yI σ 61 s1.toNatClampNeg (xb s2)) h
set_option maxRecDepth 100000 in
set_option maxHeartbeats 4000000 in
theorem B_X9_worked_12 {G : xG} {l : Launch} {K : xK} {r : Int32} {τ : xS2} (hC : xCX G mM_X9_worked K) (hR : xRd K 1) (hE : xE G K (some (.int r)) (xM τ)) : ∀ (f : Nat) (l1 : Int32) (l3 : Int32) (l4 : Int32) (l5 : Int32) (σ : xS2), J_X9_worked_12 f l1 l3 l4 l5 σ = some (r, τ) → xV G l mM_X9_worked K 12 [(0, .ref (xad G 43)), (1, .int l1), (3, .int l3), (4, .int l4), (5, .int l5)] [] (xM σ) := by
  intro f
  induction f with
  | zero => intro l1 l3 l4 l5 σ h; cases h
  | succ f ih =>
    intro l1 l3 l4 l5 σ h
    refine x_iload hC dX9_worked_12 (j := 4) rfl <| x_sipush (v := (130 : Int32)) hC dX9_worked_14 (by decide) <| x_iload_n hC dX9_worked_17 rfl (j := 1) rfl <| x_imul hC dX9_worked_18 <| x_iload_n hC dX9_worked_19 rfl (j := 2) rfl <| x_iadd hC dX9_worked_20 <| ?_
    refine x_icmp_ge (tgt := 188) hC dX9_worked_21 (by decide) (fun c1 => ?_) (fun c1 => ?_)
    · replace h := (if_pos c1).symm.trans h
      refine x_aload_n hC dX9_worked_188 rfl (j := 0) rfl <| s_getR (q := 61) hC dX9_worked_189 wfl_X9_73 rfl (by decide) (by decide) (by decide) (by decide) (by decide) <| x_iconst (v := (0 : Int32)) hC dX9_worked_192 (by decide) <| s_iald hC dX9_worked_193 rfl (by decide) (by decide) <| ?_
      show xV _ _ _ _ _ _ (.int (σ.1 61 0) :: _) _
      obtain ⟨e1, e2⟩ := xso2 h
      subst e1
      subst e2
      exact x_iret (rest := []) hC hE rfl dX9_worked_194
    · replace h := (if_neg c1).symm.trans h
      refine x_aload_n hC dX9_worked_24 rfl (j := 0) rfl <| s_getR (q := 55) hC dX9_worked_25 wfl_X9_54 rfl (by decide) (by decide) (by decide) (by decide) (by decide) <| x_iload hC dX9_worked_28 (j := 4) rfl <| ?_
      obtain ⟨h3, h⟩ := xgd_some h
      refine s_bald hC dX9_worked_30 rfl (by decide) h3 <| ?_
      refine x_istore hC dX9_worked_31 (by decide) rfl <| x_iload hC dX9_worked_33 (j := 0) rfl <| x_iconst (v := (1 : Int32)) hC dX9_worked_35 (by decide) <| ?_
      refine x_icmp_eq (tgt := 45) hC dX9_worked_36 (by decide) (fun c4 => ?_) (fun c4 => ?_)
      · replace h := (if_pos c4).symm.trans h
        refine x_sub [1, 2, 3, 4, 5, 0] rfl ?_
        exact B_X9_worked_45 hC hR hE ih l1 l3 l4 l5 (σ.1 55 l5.toNatClampNeg) σ h
      · replace h := (if_neg c4).symm.trans h
        refine x_iload hC dX9_worked_39 (j := 0) rfl <| x_iconst (v := (2 : Int32)) hC dX9_worked_41 (by decide) <| ?_
        refine x_icmp_ne (tgt := 86) hC dX9_worked_42 (by decide) (fun c10 => ?_) (fun c10 => ?_)
        · replace h := (if_neg c10).symm.trans h
          refine x_iload hC dX9_worked_86 (j := 0) rfl <| x_iconst (v := (3 : Int32)) hC dX9_worked_88 (by decide) <| ?_
          refine x_icmp_ne (tgt := 121) hC dX9_worked_89 (by decide) (fun c11 => ?_) (fun c11 => ?_)
          · replace h := (if_neg c11).symm.trans h
            refine x_iload hC dX9_worked_121 (j := 0) rfl <| x_iconst (v := (4 : Int32)) hC dX9_worked_123 (by decide) <| ?_
            refine x_icmp_ne (tgt := 149) hC dX9_worked_124 (by decide) (fun c12 => ?_) (fun c12 => ?_)
            · replace h := (if_neg c12).symm.trans h
              refine x_iinc hC dX9_worked_149 (j := 4) (v := (l4 + (-1 : Int32))) rfl rfl (by decide) rfl <| x_aload_n hC dX9_worked_152 rfl (j := 2) rfl <| s_getR (q := 61) hC dX9_worked_153 wfl_X9_73 rfl (by decide) (by decide) (by decide) (by decide) (by decide) <| x_iload hC dX9_worked_156 (j := 0) rfl <| x_iconst (v := (1 : Int32)) hC dX9_worked_158 (by decide) <| x_isub hC dX9_worked_159 <| ?_
              refine x_iload hC dX9_worked_160 (j := 1) rfl <| x_aload_n hC dX9_worked_162 rfl (j := 2) rfl <| s_getR (q := 61) hC dX9_worked_163 wfl_X9_73 rfl (by decide) (by decide) (by decide) (by decide) (by decide) <| x_iload hC dX9_worked_166 (j := 0) rfl <| x_iconst (v := (1 : Int32)) hC dX9_worked_168 (by decide) <| x_isub hC dX9_worked_169 <| ?_
              obtain ⟨h13, h⟩ := xgd_some h
              refine s_iald hC dX9_worked_170 rfl (by decide) h13 <| ?_
              refine x_aload_n hC dX9_worked_171 rfl (j := 2) rfl <| s_getR (q := 61) hC dX9_worked_172 wfl_X9_73 rfl (by decide) (by decide) (by decide) (by decide) (by decide) <| x_iload hC dX9_worked_175 (j := 0) rfl <| ?_
              obtain ⟨h14, h⟩ := xgd_some h
              refine s_iald hC dX9_worked_177 rfl (by decide) h14 <| ?_
              obtain ⟨x15, h15, h⟩ := Option.bind_eq_some_iff.mp h
              refine x_callS hC hR dX9_worked_178 mK_X9_twoOf wml_X9_239 (C_X9_twoOf (a0 := (σ.1 55 l5.toNatClampNeg)) (a1 := (σ.1 61 ((l4 + (-1 : Int32)) - (1 : Int32)).toNatClampNeg)) (a2 := (σ.1 61 (l4 + (-1 : Int32)).toNatClampNeg)) (σ := σ) h15) (by omega) rfl (Nat.le_of_ble_eq_true rfl) rfl rfl rfl <| ?_
              obtain ⟨h16, h⟩ := xgd_some h
              refine s_iast hC dX9_worked_181 rfl (by decide) h16 <| ?_
              refine x_sub [2, 3, 4, 0, 5] rfl ?_
              exact B_X9_worked_182 hC hR hE ih l1 l3 (l4 + (-1 : Int32)) l5 (yI σ 61 ((l4 + (-1 : Int32)) - (1 : Int32)).toNatClampNeg x15) h
            · replace h := (if_pos c12).symm.trans h
              refine x_aload_n hC dX9_worked_127 rfl (j := 1) rfl <| s_getR (q := 61) hC dX9_worked_128 wfl_X9_73 rfl (by decide) (by decide) (by decide) (by decide) (by decide) <| x_iload hC dX9_worked_131 (j := 4) rfl <| x_iconst (v := (1 : Int32)) hC dX9_worked_133 (by decide) <| x_isub hC dX9_worked_134 <| x_aload_n hC dX9_worked_135 rfl (j := 1) rfl <| ?_
              refine s_getR (q := 61) hC dX9_worked_136 wfl_X9_73 rfl (by decide) (by decide) (by decide) (by decide) (by decide) <| x_iload hC dX9_worked_139 (j := 4) rfl <| x_iconst (v := (1 : Int32)) hC dX9_worked_141 (by decide) <| x_isub hC dX9_worked_142 <| ?_
              obtain ⟨h17, h⟩ := xgd_some h
              refine s_iald hC dX9_worked_143 rfl (by decide) h17 <| ?_
              refine x_ineg hC dX9_worked_144 <| ?_
              obtain ⟨h18, h⟩ := xgd_some h
              refine s_iast hC dX9_worked_145 rfl (by decide) h18 <| ?_
              refine x_goto (tgt := 182) hC dX9_worked_146 (by decide) <| ?_
              refine x_sub [1, 2, 3, 4, 5] rfl ?_
              exact B_X9_worked_182 hC hR hE ih l1 l3 l4 l5 (yI σ 61 (l4 - (1 : Int32)).toNatClampNeg (-(σ.1 61 (l4 - (1 : Int32)).toNatClampNeg))) h
          · replace h := (if_pos c11).symm.trans h
            refine x_aload_n hC dX9_worked_92 rfl (j := 1) rfl <| s_getR (q := 61) hC dX9_worked_93 wfl_X9_73 rfl (by decide) (by decide) (by decide) (by decide) (by decide) <| x_iload hC dX9_worked_96 (j := 4) rfl <| x_iconst (v := (1 : Int32)) hC dX9_worked_98 (by decide) <| x_isub hC dX9_worked_99 <| x_aload_n hC dX9_worked_100 rfl (j := 1) rfl <| ?_
            refine s_getR (q := 61) hC dX9_worked_101 wfl_X9_73 rfl (by decide) (by decide) (by decide) (by decide) (by decide) <| x_iload hC dX9_worked_104 (j := 4) rfl <| x_iconst (v := (1 : Int32)) hC dX9_worked_106 (by decide) <| x_isub hC dX9_worked_107 <| ?_
            obtain ⟨h19, h⟩ := xgd_some h
            refine s_iald hC dX9_worked_108 rfl (by decide) h19 <| ?_
            refine x_if_ne (tgt := 116) hC dX9_worked_109 (by decide) (fun c20 => ?_) (fun c20 => ?_)
            · replace h := (if_neg c20).symm.trans h
              refine x_iconst (v := (0 : Int32)) hC dX9_worked_116 (by decide) <| ?_
              refine x_sub [1, 2, 3, 4, 5] rfl ?_
              exact B_X9_worked_117 hC hR hE ih l1 l3 l4 l5 (l4 - (1 : Int32)) false σ h
            · replace h := (if_pos c20).symm.trans h
              refine x_iconst (v := (1 : Int32)) hC dX9_worked_112 (by decide) <| x_goto (tgt := 117) hC dX9_worked_113 (by decide) <| ?_
              refine x_sub [1, 2, 3, 4, 5] rfl ?_
              exact B_X9_worked_117 hC hR hE ih l1 l3 l4 l5 (l4 - (1 : Int32)) true σ h
        · replace h := (if_pos c10).symm.trans h
          refine x_sub [1, 2, 3, 4, 5, 0] rfl ?_
          exact B_X9_worked_45 hC hR hE ih l1 l3 l4 l5 (σ.1 55 l5.toNatClampNeg) σ h
set_option maxRecDepth 100000 in
set_option maxHeartbeats 4000000 in
theorem C_X9_worked {G : xG} {l : Launch} {a1 : Int32} {a2 : Int32} {a3 : Int32} {σ : xS2} {r : Int32} {τ : xS2} (h : J_X9_worked a1 a2 a3 σ = some (r, τ)) : xC G l mM_X9_worked 1 [.ref (xad G 43), .int a1, .int a2, .int a3] (xM σ) (some (.int r)) (xM τ) := by
  refine xC_of (by decide) rfl (Nat.le_refl _) (Nat.le_of_ble_eq_true rfl) (fun K hC hE hR _ => ?_)
  refine x_iconst (v := (0 : Int32)) hC dX9_worked_0 (by decide) <| x_istore hC dX9_worked_1 (by decide) rfl <| x_sipush (v := (130 : Int32)) hC dX9_worked_3 (by decide) <| x_iload_n hC dX9_worked_6 rfl (j := 2) rfl <| x_imul hC dX9_worked_7 <| x_iload_n hC dX9_worked_8 rfl (j := 3) rfl <| ?_
  refine x_iadd hC dX9_worked_9 <| x_istore hC dX9_worked_10 (by decide) rfl <| ?_
  refine x_sub [2, 3, 5, 1, 0] rfl ?_
  exact B_X9_worked_12 hC hR hE xFU a1 a3 (0 : Int32) (((130 : Int32) * a1) + a2) σ h
set_option maxRecDepth 100000 in
set_option maxHeartbeats 4000000 in
theorem B_X9_gives_47 {G : xG} {l : Launch} {K : xK} {r : Int32} {τ : xS2} (hC : xCX G mM_X9_gives K) (hR : xRd K 2) (hE : xE G K (some (.int r)) (xM τ)) : ∀ (l1 : Int32) (l3 : Int32) (σ : xS2), J_X9_gives_47 l1 l3 σ = some (r, τ) → xV G l mM_X9_gives K 47 [(0, .ref (xad G 43)), (1, .int l1), (3, .int l3)] [] (xM σ) := by
  intro l1 l3 σ h
  refine x_aload_n hC dX9_gives_47 rfl (j := 0) rfl <| x_iload_n hC dX9_gives_48 rfl (j := 1) rfl <| x_aload_n hC dX9_gives_49 rfl (j := 0) rfl <| s_getR (q := 58) hC dX9_gives_50 wfl_X9_63 rfl (by decide) (by decide) (by decide) (by decide) (by decide) <| x_iload_n hC dX9_gives_53 rfl (j := 2) rfl <| ?_
  obtain ⟨h5, h⟩ := xgd_some h
  refine s_sald hC dX9_gives_54 rfl (by decide) h5 <| ?_
  refine x_aload_n hC dX9_gives_55 rfl (j := 0) rfl <| s_getR (q := 59) hC dX9_gives_56 wfl_X9_67 rfl (by decide) (by decide) (by decide) (by decide) (by decide) <| x_iload_n hC dX9_gives_59 rfl (j := 2) rfl <| ?_
  obtain ⟨h6, h⟩ := xgd_some h
  refine s_sald hC dX9_gives_60 rfl (by decide) h6 <| ?_
  obtain ⟨x7, h7, h⟩ := Option.bind_eq_some_iff.mp h
  refine x_callV hC hR dX9_gives_61 mK_X9_worked wml_X9_242 (C_X9_worked (a1 := l1) (a2 := (σ.1 58 l3.toNatClampNeg)) (a3 := (σ.1 59 l3.toNatClampNeg)) (σ := σ) h7) (by omega) rfl (by decide) rfl rfl (xlt (by decide)) rfl (Nat.le_of_ble_eq_true rfl) rfl rfl rfl <| ?_
  obtain ⟨e1, e2⟩ := xso2 h
  subst e1
  subst e2
  exact x_iret (rest := []) hC hE rfl dX9_gives_64
set_option maxRecDepth 100000 in
set_option maxHeartbeats 4000000 in
theorem B_X9_gives_7 {G : xG} {l : Launch} {K : xK} {r : Int32} {τ : xS2} (hC : xCX G mM_X9_gives K) (hR : xRd K 2) (hE : xE G K (some (.int r)) (xM τ)) : ∀ (f : Nat) (l1 : Int32) (l2 : Int32) (l3 : Int32) (σ : xS2), J_X9_gives_7 f l1 l2 l3 σ = some (r, τ) → xV G l mM_X9_gives K 7 [(0, .ref (xad G 43)), (1, .int l1), (2, .int l2), (3, .int l3)] [] (xM σ) := by
  intro f
  induction f with
  | zero => intro l1 l2 l3 σ h; cases h
  | succ f ih =>
    intro l1 l2 l3 σ h
    refine x_iload_n hC dX9_gives_7 rfl (j := 3) rfl <| x_bipush (v := (61 : Int32)) hC dX9_gives_8 (by decide) <| x_iload_n hC dX9_gives_10 rfl (j := 1) rfl <| x_imul hC dX9_gives_11 <| x_aload_n hC dX9_gives_12 rfl (j := 0) rfl <| s_getR (q := 57) hC dX9_gives_13 wfl_X9_60 rfl (by decide) (by decide) (by decide) (by decide) (by decide) <| ?_
    refine x_iload_n hC dX9_gives_16 rfl (j := 1) rfl <| ?_
    obtain ⟨h1, h⟩ := xgd_some h
    refine s_iald hC dX9_gives_17 rfl (by decide) h1 <| ?_
    refine x_iadd hC dX9_gives_18 <| ?_
    refine x_icmp_ge (tgt := 78) hC dX9_gives_19 (by decide) (fun c2 => ?_) (fun c2 => ?_)
    · replace h := (if_pos c2).symm.trans h
      refine x_iconst (v := (0 : Int32)) hC dX9_gives_78 (by decide) <| ?_
      obtain ⟨e1, e2⟩ := xso2 h
      subst e1
      subst e2
      exact x_iret (rest := []) hC hE rfl dX9_gives_79
    · replace h := (if_neg c2).symm.trans h
      refine x_aload_n hC dX9_gives_22 rfl (j := 0) rfl <| s_getR (q := 58) hC dX9_gives_23 wfl_X9_63 rfl (by decide) (by decide) (by decide) (by decide) (by decide) <| x_iload_n hC dX9_gives_26 rfl (j := 3) rfl <| ?_
      obtain ⟨h3, h⟩ := xgd_some h
      refine s_sald hC dX9_gives_27 rfl (by decide) h3 <| ?_
      refine x_iload_n hC dX9_gives_28 rfl (j := 2) rfl <| ?_
      refine x_icmp_eq (tgt := 47) hC dX9_gives_29 (by decide) (fun c4 => ?_) (fun c4 => ?_)
      · replace h := (if_pos c4).symm.trans h
        refine x_sub [0, 1, 3] rfl ?_
        exact B_X9_gives_47 hC hR hE l1 l3 σ h
      · replace h := (if_neg c4).symm.trans h
        refine x_aload_n hC dX9_gives_32 rfl (j := 0) rfl <| x_iload_n hC dX9_gives_33 rfl (j := 1) rfl <| x_iload_n hC dX9_gives_34 rfl (j := 2) rfl <| x_aload_n hC dX9_gives_35 rfl (j := 0) rfl <| s_getR (q := 58) hC dX9_gives_36 wfl_X9_63 rfl (by decide) (by decide) (by decide) (by decide) (by decide) <| x_iload_n hC dX9_gives_39 rfl (j := 3) rfl <| ?_
        obtain ⟨h8, h⟩ := xgd_some h
        refine s_sald hC dX9_gives_40 rfl (by decide) h8 <| ?_
        obtain ⟨x9, h9, h⟩ := Option.bind_eq_some_iff.mp h
        refine x_callV hC hR dX9_gives_41 mK_X9_worked wml_X9_242 (C_X9_worked (a1 := l1) (a2 := l2) (a3 := (σ.1 58 l3.toNatClampNeg)) (σ := σ) h9) (by omega) rfl (by decide) rfl rfl (xlt (by decide)) rfl (Nat.le_of_ble_eq_true rfl) rfl rfl rfl <| ?_
        refine x_if_eq (tgt := 65) hC dX9_gives_44 (by decide) (fun c10 => ?_) (fun c10 => ?_)
        · replace h := (if_pos c10).symm.trans h
          refine x_aload_n hC dX9_gives_65 rfl (j := 0) rfl <| s_getR (q := 59) hC dX9_gives_66 wfl_X9_67 rfl (by decide) (by decide) (by decide) (by decide) (by decide) <| x_iload_n hC dX9_gives_69 rfl (j := 3) rfl <| ?_
          obtain ⟨h11, h⟩ := xgd_some h
          refine s_sald hC dX9_gives_70 rfl (by decide) h11 <| ?_
          refine x_istore_n hC dX9_gives_71 rfl (by decide) rfl <| x_iinc hC dX9_gives_72 (j := 3) (v := (l3 + (1 : Int32))) rfl rfl (by decide) rfl <| x_goto (tgt := 7) hC dX9_gives_75 (by decide) <| ?_
          refine x_sub [2, 3, 1, 0] rfl ?_
          exact ih l1 (x9.2.1 59 l3.toNatClampNeg) (l3 + (1 : Int32)) x9.2 h
        · replace h := (if_neg c10).symm.trans h
          refine x_sub [0, 1, 3] rfl ?_
          exact B_X9_gives_47 hC hR hE l1 l3 x9.2 h
set_option maxRecDepth 100000 in
set_option maxHeartbeats 4000000 in
theorem C_X9_gives {G : xG} {l : Launch} {a1 : Int32} {σ : xS2} {r : Int32} {τ : xS2} (h : J_X9_gives a1 σ = some (r, τ)) : xC G l mM_X9_gives 2 [.ref (xad G 43), .int a1] (xM σ) (some (.int r)) (xM τ) := by
  refine xC_of (by decide) rfl (Nat.le_refl _) (Nat.le_of_ble_eq_true rfl) (fun K hC hE hR _ => ?_)
  refine x_iconst (v := (0 : Int32)) hC dX9_gives_0 (by decide) <| x_istore_n hC dX9_gives_1 rfl (by decide) rfl <| x_bipush (v := (61 : Int32)) hC dX9_gives_2 (by decide) <| x_iload_n hC dX9_gives_4 rfl (j := 2) rfl <| x_imul hC dX9_gives_5 <| x_istore_n hC dX9_gives_6 rfl (by decide) rfl <| ?_
  refine x_sub [2, 3, 1, 0] rfl ?_
  exact B_X9_gives_7 hC hR hE xFU a1 (0 : Int32) ((61 : Int32) * a1) σ h
set_option maxRecDepth 100000 in
set_option maxHeartbeats 4000000 in
theorem B_X9_orderOf_103 {G : xG} {l : Launch} {K : xK} {r : Int32} {τ : xS2} (hC : xCX G mM_X9_orderOf K) (hR : xRd K 3) (hE : xE G K (some (.int r)) (xM τ)) : ∀ (l1 : Int32) (s1 : Int32) (s2 : Bool) (σ : xS2), J_X9_orderOf_103 l1 s1 s2 σ = some (r, τ) → xV G l mM_X9_orderOf K 103 [(0, .ref (xad G 43)), (1, .int l1)] [.int (xb s2), .int s1, .ref (xad G 60)] (xM σ) := by
  intro l1 s1 s2 σ h
  obtain ⟨h10, h⟩ := xgd_some h
  refine s_iast hC dX9_orderOf_103 rfl (by decide) h10 <| ?_
  refine x_aload_n hC dX9_orderOf_104 rfl (j := 0) rfl <| s_getR (q := 60) hC dX9_orderOf_105 wfl_X9_70 rfl (by decide) (by decide) (by decide) (by decide) (by decide) <| x_iconst (v := (5 : Int32)) hC dX9_orderOf_108 (by decide) <| x_aload_n hC dX9_orderOf_109 rfl (j := 0) rfl <| s_getR (q := 47) hC dX9_orderOf_110 wfl_X9_19 rfl (by decide) (by decide) (by decide) (by decide) (by decide) <| x_iload_n hC dX9_orderOf_113 rfl (j := 1) rfl <| ?_
  obtain ⟨h11, h⟩ := xgd_some h
  refine s_iald hC dX9_orderOf_114 rfl (by decide) h11 <| ?_
  refine s_iast hC dX9_orderOf_115 rfl (by decide) (by decide) <| ?_
  show xV _ _ _ _ _ _ _ (xM (yI (yI σ 60 s1.toNatClampNeg (xb s2)) 60 5 (σ.1 47 l1.toNatClampNeg)))
  refine x_aload_n hC dX9_orderOf_116 rfl (j := 0) rfl <| s_getR (q := 60) hC dX9_orderOf_117 wfl_X9_70 rfl (by decide) (by decide) (by decide) (by decide) (by decide) <| x_bipush (v := (6 : Int32)) hC dX9_orderOf_120 (by decide) <| x_aload_n hC dX9_orderOf_122 rfl (j := 0) rfl <| s_getI hC dX9_orderOf_123 wfl_X9_169 rfl (by decide) (by decide) (by decide) (by decide) <| s_iast hC dX9_orderOf_126 rfl (by decide) (by decide) <| ?_
  show xV _ _ _ _ _ _ _ (xM (yI (yI (yI σ 60 s1.toNatClampNeg (xb s2)) 60 5 (σ.1 47 l1.toNatClampNeg)) 60 6 (σ.1 43 8)))
  refine x_aload_n hC dX9_orderOf_127 rfl (j := 0) rfl <| x_iconst (v := (0 : Int32)) hC dX9_orderOf_128 (by decide) <| ?_
  obtain ⟨x14, h14, h⟩ := Option.bind_eq_some_iff.mp h
  refine x_callV hC hR dX9_orderOf_129 mK_X9_gives wml_X9_252 (C_X9_gives (a1 := (0 : Int32)) (σ := (yI (yI (yI σ 60 s1.toNatClampNeg (xb s2)) 60 5 (σ.1 47 l1.toNatClampNeg)) 60 6 (σ.1 43 8))) h14) (by omega) rfl (by decide) rfl rfl (xlt (by decide)) rfl (Nat.le_of_ble_eq_true rfl) rfl rfl rfl <| ?_
  refine x_istore_n hC dX9_orderOf_132 rfl (by decide) rfl <| x_iload_n hC dX9_orderOf_133 rfl (j := 0) rfl <| ?_
  refine x_if_ge (tgt := 141) hC dX9_orderOf_134 (by decide) (fun c15 => ?_) (fun c15 => ?_)
  · replace h := (if_pos c15).symm.trans h
    refine x_iload_n hC dX9_orderOf_141 rfl (j := 0) rfl <| x_bipush (v := (6 : Int32)) hC dX9_orderOf_142 (by decide) <| x_irm hC dX9_orderOf_144 (by decide) <| ?_
    obtain ⟨e1, e2⟩ := xso2 h
    subst e1
    subst e2
    exact x_iret (rest := []) hC hE rfl dX9_orderOf_145
  · replace h := (if_neg c15).symm.trans h
    refine x_iconst (v := (0 : Int32)) hC dX9_orderOf_137 (by decide) <| x_goto (tgt := 145) hC dX9_orderOf_138 (by decide) <| ?_
    obtain ⟨e1, e2⟩ := xso2 h
    subst e1
    subst e2
    exact x_iret (rest := []) hC hE rfl dX9_orderOf_145
set_option maxRecDepth 100000 in
set_option maxHeartbeats 4000000 in
theorem B_X9_orderOf_29 {G : xG} {l : Launch} {K : xK} {r : Int32} {τ : xS2} (hC : xCX G mM_X9_orderOf K) (hR : xRd K 3) (hE : xE G K (some (.int r)) (xM τ)) : ∀ (l1 : Int32) (s0 : Bool) (σ : xS2), J_X9_orderOf_29 l1 s0 σ = some (r, τ) → xV G l mM_X9_orderOf K 29 [(0, .ref (xad G 43)), (1, .int l1)] [.int (xb s0)] (xM σ) := by
  intro l1 s0 σ h
  refine x_istore_n hC dX9_orderOf_29 rfl (by decide) rfl <| x_aload_n hC dX9_orderOf_30 rfl (j := 1) rfl <| s_getI hC dX9_orderOf_31 wfl_X9_248 rfl (by decide) (by decide) (by decide) (by decide) <| ?_
  refine x_if_ne (tgt := 47) hC dX9_orderOf_34 (by decide) (fun c3 => ?_) (fun c3 => ?_)
  · replace h := (if_neg c3).symm.trans h
    refine x_aload_n hC dX9_orderOf_47 rfl (j := 1) rfl <| s_getR (q := 60) hC dX9_orderOf_48 wfl_X9_70 rfl (by decide) (by decide) (by decide) (by decide) (by decide) <| x_iconst (v := (0 : Int32)) hC dX9_orderOf_51 (by decide) <| x_aload_n hC dX9_orderOf_52 rfl (j := 1) rfl <| s_getI hC dX9_orderOf_53 wfl_X9_29 rfl (by decide) (by decide) (by decide) (by decide) <| s_iast hC dX9_orderOf_56 rfl (by decide) (by decide) <| ?_
    show xV _ _ _ _ _ _ _ (xM (yI σ 60 0 (σ.1 43 9)))
    refine x_aload_n hC dX9_orderOf_57 rfl (j := 1) rfl <| s_getR (q := 60) hC dX9_orderOf_58 wfl_X9_70 rfl (by decide) (by decide) (by decide) (by decide) (by decide) <| x_iconst (v := (1 : Int32)) hC dX9_orderOf_61 (by decide) <| x_aload_n hC dX9_orderOf_62 rfl (j := 1) rfl <| s_getI hC dX9_orderOf_63 wfl_X9_172 rfl (by decide) (by decide) (by decide) (by decide) <| s_iast hC dX9_orderOf_66 rfl (by decide) (by decide) <| ?_
    show xV _ _ _ _ _ _ _ (xM (yI (yI σ 60 0 (σ.1 43 9)) 60 1 (σ.1 43 10)))
    refine x_aload_n hC dX9_orderOf_67 rfl (j := 1) rfl <| s_getR (q := 60) hC dX9_orderOf_68 wfl_X9_70 rfl (by decide) (by decide) (by decide) (by decide) (by decide) <| x_iconst (v := (2 : Int32)) hC dX9_orderOf_71 (by decide) <| x_iload_n hC dX9_orderOf_72 rfl (j := 2) rfl <| s_iast hC dX9_orderOf_73 rfl (by decide) (by decide) <| ?_
    show xV _ _ _ _ _ _ _ (xM (yI (yI (yI σ 60 0 (σ.1 43 9)) 60 1 (σ.1 43 10)) 60 2 l1))
    refine x_aload_n hC dX9_orderOf_74 rfl (j := 1) rfl <| s_getR (q := 60) hC dX9_orderOf_75 wfl_X9_70 rfl (by decide) (by decide) (by decide) (by decide) (by decide) <| x_iconst (v := (3 : Int32)) hC dX9_orderOf_78 (by decide) <| x_aload_n hC dX9_orderOf_79 rfl (j := 1) rfl <| s_getR (q := 44) hC dX9_orderOf_80 wfl_X9_7 rfl (by decide) (by decide) (by decide) (by decide) (by decide) <| x_aload_n hC dX9_orderOf_83 rfl (j := 1) rfl <| ?_
    refine s_getI hC dX9_orderOf_84 wfl_X9_169 rfl (by decide) (by decide) (by decide) (by decide) <| ?_
    obtain ⟨h7, h⟩ := xgd_some h
    refine s_iald hC dX9_orderOf_87 rfl (by decide) h7 <| ?_
    refine s_iast hC dX9_orderOf_88 rfl (by decide) (by decide) <| ?_
    show xV _ _ _ _ _ _ _ (xM (yI (yI (yI (yI σ 60 0 (σ.1 43 9)) 60 1 (σ.1 43 10)) 60 2 l1) 60 3 (σ.1 44 (σ.1 43 8).toNatClampNeg)))
    refine x_aload_n hC dX9_orderOf_89 rfl (j := 1) rfl <| s_getR (q := 60) hC dX9_orderOf_90 wfl_X9_70 rfl (by decide) (by decide) (by decide) (by decide) (by decide) <| x_iconst (v := (4 : Int32)) hC dX9_orderOf_93 (by decide) <| x_iload_n hC dX9_orderOf_94 rfl (j := 0) rfl <| ?_
    refine x_if_eq (tgt := 102) hC dX9_orderOf_95 (by decide) (fun c9 => ?_) (fun c9 => ?_)
    · replace h := (if_pos c9).symm.trans h
      refine x_iconst (v := (0 : Int32)) hC dX9_orderOf_102 (by decide) <| ?_
      refine x_sub [1, 2] rfl ?_
      exact B_X9_orderOf_103 hC hR hE l1 (4 : Int32) false (yI (yI (yI (yI σ 60 0 (σ.1 43 9)) 60 1 (σ.1 43 10)) 60 2 l1) 60 3 (σ.1 44 (σ.1 43 8).toNatClampNeg)) h
    · replace h := (if_neg c9).symm.trans h
      refine x_iconst (v := (1 : Int32)) hC dX9_orderOf_98 (by decide) <| x_goto (tgt := 103) hC dX9_orderOf_99 (by decide) <| ?_
      refine x_sub [1, 2] rfl ?_
      exact B_X9_orderOf_103 hC hR hE l1 (4 : Int32) true (yI (yI (yI (yI σ 60 0 (σ.1 43 9)) 60 1 (σ.1 43 10)) 60 2 l1) 60 3 (σ.1 44 (σ.1 43 8).toNatClampNeg)) h
  · replace h := (if_pos c3).symm.trans h
    refine x_iload_n hC dX9_orderOf_37 rfl (j := 0) rfl <| ?_
    refine x_if_eq (tgt := 45) hC dX9_orderOf_38 (by decide) (fun c16 => ?_) (fun c16 => ?_)
    · replace h := (if_pos c16).symm.trans h
      refine x_iconst (v := (0 : Int32)) hC dX9_orderOf_45 (by decide) <| ?_
      obtain ⟨e1, e2⟩ := xso2 h
      subst e1
      subst e2
      exact x_iret (rest := []) hC hE rfl dX9_orderOf_46
    · replace h := (if_neg c16).symm.trans h
      refine x_iconst (v := (5 : Int32)) hC dX9_orderOf_41 (by decide) <| x_goto (tgt := 46) hC dX9_orderOf_42 (by decide) <| ?_
      obtain ⟨e1, e2⟩ := xso2 h
      subst e1
      subst e2
      exact x_iret (rest := []) hC hE rfl dX9_orderOf_46
set_option maxRecDepth 100000 in
set_option maxHeartbeats 4000000 in
theorem B_X9_orderOf_28 {G : xG} {l : Launch} {K : xK} {r : Int32} {τ : xS2} (hC : xCX G mM_X9_orderOf K) (hR : xRd K 3) (hE : xE G K (some (.int r)) (xM τ)) : ∀ (l1 : Int32) (σ : xS2), J_X9_orderOf_28 l1 σ = some (r, τ) → xV G l mM_X9_orderOf K 28 [(0, .ref (xad G 43)), (1, .int l1)] [] (xM σ) := by
  intro l1 σ h
  refine x_iconst (v := (0 : Int32)) hC dX9_orderOf_28 (by decide) <| ?_
  refine x_sub [0, 1] rfl ?_
  exact B_X9_orderOf_29 hC hR hE l1 false σ h
set_option maxRecDepth 100000 in
set_option maxHeartbeats 4000000 in
theorem C_X9_orderOf {G : xG} {l : Launch} {a1 : Int32} {σ : xS2} {r : Int32} {τ : xS2} (h : J_X9_orderOf a1 σ = some (r, τ)) : xC G l mM_X9_orderOf 3 [.ref (xad G 43), .int a1] (xM σ) (some (.int r)) (xM τ) := by
  refine xC_of (by decide) rfl (Nat.le_refl _) (Nat.le_of_ble_eq_true rfl) (fun K hC hE hR _ => ?_)
  refine x_aload_n hC dX9_orderOf_0 rfl (j := 0) rfl <| s_getR (q := 45) hC dX9_orderOf_1 wfl_X9_13 rfl (by decide) (by decide) (by decide) (by decide) (by decide) <| x_aload_n hC dX9_orderOf_4 rfl (j := 0) rfl <| s_getI hC dX9_orderOf_5 wfl_X9_169 rfl (by decide) (by decide) (by decide) (by decide) <| ?_
  obtain ⟨h1, h⟩ := xgd_some h
  refine s_iald hC dX9_orderOf_8 rfl (by decide) h1 <| ?_
  refine x_iconst (v := (1 : Int32)) hC dX9_orderOf_9 (by decide) <| ?_
  refine x_icmp_ne (tgt := 28) hC dX9_orderOf_10 (by decide) (fun c2 => ?_) (fun c2 => ?_)
  · replace h := (if_neg c2).symm.trans h
    refine x_sub [0, 1] rfl ?_
    exact B_X9_orderOf_28 hC hR hE a1 σ h
  · replace h := (if_pos c2).symm.trans h
    refine x_aload_n hC dX9_orderOf_13 rfl (j := 0) rfl <| x_aload_n hC dX9_orderOf_14 rfl (j := 0) rfl <| s_getI hC dX9_orderOf_15 wfl_X9_169 rfl (by decide) (by decide) (by decide) (by decide) <| x_callV hC hR dX9_orderOf_18 mK_X9_isLooked wml_X9_163 (C_X9_isLooked (a1 := (σ.1 43 8)) (σ := σ)) (by omega) rfl (by decide) rfl rfl (xlt (by decide)) rfl (Nat.le_of_ble_eq_true rfl) rfl rfl rfl <| ?_
    refine x_if_ne (tgt := 28) hC dX9_orderOf_21 (by decide) (fun c18 => ?_) (fun c18 => ?_)
    · replace h := (if_neg c18).symm.trans h
      refine x_sub [0, 1] rfl ?_
      exact B_X9_orderOf_28 hC hR hE a1 σ h
    · replace h := (if_pos c18).symm.trans h
      refine x_iconst (v := (1 : Int32)) hC dX9_orderOf_24 (by decide) <| x_goto (tgt := 29) hC dX9_orderOf_25 (by decide) <| ?_
      refine x_sub [0, 1] rfl ?_
      exact B_X9_orderOf_29 hC hR hE a1 true σ h
set_option maxRecDepth 100000 in
set_option maxHeartbeats 4000000 in
theorem B_X9_days_30 {G : xG} {l : Launch} {K : xK} {r : Int32} {τ : xS2} (hC : xCX G mM_X9_days K) (hR : xRd K 6) (hE : xE G K (some (.int r)) (xM τ)) : ∀ (f : Nat) (l1 : Int32) (l2 : Int32) (l3 : Int32) (σ : xS2), J_X9_days_30 f l1 l2 l3 σ = some (r, τ) → xV G l mM_X9_days K 30 [(0, .ref (xad G 43)), (1, .int l1), (2, .int l2), (3, .int l3)] [] (xM σ) := by
  intro f
  induction f with
  | zero => intro l1 l2 l3 σ h; cases h
  | succ f ih =>
    intro l1 l2 l3 σ h
    refine x_iload_n hC dX9_days_30 rfl (j := 3) rfl <| x_iload_n hC dX9_days_31 rfl (j := 1) rfl <| ?_
    refine x_icmp_ge (tgt := 56) hC dX9_days_32 (by decide) (fun c4 => ?_) (fun c4 => ?_)
    · replace h := (if_pos c4).symm.trans h
      refine x_iload_n hC dX9_days_56 rfl (j := 2) rfl <| ?_
      obtain ⟨e1, e2⟩ := xso2 h
      subst e1
      subst e2
      exact x_iret (rest := []) hC hE rfl dX9_days_57
    · replace h := (if_neg c4).symm.trans h
      refine x_iload_n hC dX9_days_35 rfl (j := 2) rfl <| x_aload_n hC dX9_days_36 rfl (j := 0) rfl <| x_aload_n hC dX9_days_37 rfl (j := 0) rfl <| x_aload_n hC dX9_days_38 rfl (j := 0) rfl <| s_getI hC dX9_days_39 wfl_X9_166 rfl (by decide) (by decide) (by decide) (by decide) <| ?_
      obtain ⟨x5, h5, h⟩ := Option.bind_eq_some_iff.mp h
      refine x_callV hC hR dX9_days_42 mK_X9_orderOf wml_X9_258 (C_X9_orderOf (a1 := (σ.1 43 7)) (σ := σ) h5) (by omega) rfl (by decide) rfl rfl (xlt (by decide)) rfl (Nat.le_of_ble_eq_true rfl) rfl rfl rfl <| ?_
      obtain ⟨x6, h6, h⟩ := Option.bind_eq_some_iff.mp h
      refine x_callV hC hR dX9_days_45 mK_X9_lead wml_X9_290 (C_X9_lead (a1 := x5.1) (σ := x5.2) h6) (by omega) rfl (by decide) rfl rfl (xlt (by decide)) rfl (Nat.le_of_ble_eq_true rfl) rfl rfl rfl <| ?_
      refine x_iadd hC dX9_days_48 <| x_istore_n hC dX9_days_49 rfl (by decide) rfl <| x_iinc hC dX9_days_50 (j := 3) (v := (l3 + (1 : Int32))) rfl rfl (by decide) rfl <| x_goto (tgt := 30) hC dX9_days_53 (by decide) <| ?_
      refine x_sub [2, 3, 1, 0] rfl ?_
      exact ih l1 (l2 + x6.1) (l3 + (1 : Int32)) x6.2 h
set_option maxRecDepth 100000 in
set_option maxHeartbeats 4000000 in
theorem C_X9_days {G : xG} {l : Launch} {a1 : Int32} {σ : xS2} {r : Int32} {τ : xS2} (h : J_X9_days a1 σ = some (r, τ)) : xC G l mM_X9_days 6 [.ref (xad G 43), .int a1] (xM σ) (some (.int r)) (xM τ) := by
  refine xC_of (by decide) rfl (Nat.le_refl _) (Nat.le_of_ble_eq_true rfl) (fun K hC hE hR _ => ?_)
  refine x_iload_n hC dX9_days_0 rfl (j := 1) rfl <| x_iconst (v := (1 : Int32)) hC dX9_days_1 (by decide) <| x_bipush (v := (60 : Int32)) hC dX9_days_2 (by decide) <| x_callS hC hR dX9_days_4 mK_X9_in wml_X9_116 (C_X9_in (a0 := a1) (a1 := (1 : Int32)) (a2 := (60 : Int32)) (σ := σ)) (by omega) rfl (Nat.le_of_ble_eq_true rfl) rfl rfl rfl <| ?_
  refine x_if_ne (tgt := 12) hC dX9_days_7 (by decide) (fun c2 => ?_) (fun c2 => ?_)
  · replace h := (if_neg c2).symm.trans h
    refine x_aload_n hC dX9_days_12 rfl (j := 0) rfl <| s_getI hC dX9_days_13 wfl_X9_166 rfl (by decide) (by decide) (by decide) (by decide) <| x_iload_n hC dX9_days_16 rfl (j := 1) rfl <| x_iadd hC dX9_days_17 <| x_bipush (v := (60 : Int32)) hC dX9_days_18 (by decide) <| ?_
    refine x_icmp_le (tgt := 26) hC dX9_days_20 (by decide) (fun c3 => ?_) (fun c3 => ?_)
    · replace h := (if_pos c3).symm.trans h
      refine x_iconst (v := (0 : Int32)) hC dX9_days_26 (by decide) <| x_istore_n hC dX9_days_27 rfl (by decide) rfl <| x_iconst (v := (0 : Int32)) hC dX9_days_28 (by decide) <| x_istore_n hC dX9_days_29 rfl (by decide) rfl <| ?_
      refine x_sub [2, 3, 1, 0] rfl ?_
      exact B_X9_days_30 hC hR hE xFU a1 (0 : Int32) (0 : Int32) σ h
    · replace h := (if_neg c3).symm.trans h
      refine x_bipush (v := (-5 : Int32)) hC dX9_days_23 (by decide) <| ?_
      obtain ⟨e1, e2⟩ := xso2 h
      subst e1
      subst e2
      exact x_iret (rest := []) hC hE rfl dX9_days_25
  · replace h := (if_pos c2).symm.trans h
    refine x_iconst (v := (-1 : Int32)) hC dX9_days_10 (by decide) <| ?_
    obtain ⟨e1, e2⟩ := xso2 h
    subst e1
    subst e2
    exact x_iret (rest := []) hC hE rfl dX9_days_11
set_option maxRecDepth 100000 in
set_option maxHeartbeats 4000000 in
theorem C_X9_think {G : xG} {l : Launch} {σ : xS2} {τ : xS2} (h : J_X9_think σ = some τ) : xC G l mM_X9_think 0 [.ref (xad G 43)] (xM σ) none (xM τ) := by
  refine xC_of (by decide) rfl (Nat.le_refl _) (Nat.le_of_ble_eq_true rfl) (fun K hC hE hR _ => ?_)
  refine x_aload_n hC dX9_think_0 rfl (j := 0) rfl <| x_aload_n hC dX9_think_1 rfl (j := 0) rfl <| s_getI hC dX9_think_2 wfl_X9_169 rfl (by decide) (by decide) (by decide) (by decide) <| s_putI hC dX9_think_5 wfl_X9_261 rfl (by decide) (by decide) (by decide) (by decide) (by decide) <| x_aload_n hC dX9_think_8 rfl (j := 0) rfl <| x_aload_n hC dX9_think_9 rfl (j := 0) rfl <| ?_
  refine s_getI hC dX9_think_10 wfl_X9_29 rfl (by decide) (by decide) (by decide) (by decide) <| s_putI hC dX9_think_13 wfl_X9_264 rfl (by decide) (by decide) (by decide) (by decide) (by decide) <| x_aload_n hC dX9_think_16 rfl (j := 0) rfl <| x_aload_n hC dX9_think_17 rfl (j := 0) rfl <| s_getI hC dX9_think_18 wfl_X9_172 rfl (by decide) (by decide) (by decide) (by decide) <| s_putI hC dX9_think_21 wfl_X9_267 rfl (by decide) (by decide) (by decide) (by decide) (by decide) <| ?_
  refine x_aload_n hC dX9_think_24 rfl (j := 0) rfl <| x_aload_n hC dX9_think_25 rfl (j := 0) rfl <| s_getL hC dX9_think_26 wfl_X9_124 rfl (by decide) (by decide) (by decide) (by decide) <| s_putL hC dX9_think_29 wfl_X9_270 rfl (by decide) (by decide) (by decide) (by decide) (by decide) <| ?_
  have e1 := Option.some.inj h
  subst e1
  exact x_vret (rest := []) hC hE rfl dX9_think_32
set_option maxRecDepth 100000 in
set_option maxHeartbeats 4000000 in
theorem C_X9_unthink {G : xG} {l : Launch} {σ : xS2} {τ : xS2} (h : J_X9_unthink σ = some τ) : xC G l mM_X9_unthink 0 [.ref (xad G 43)] (xM σ) none (xM τ) := by
  refine xC_of (by decide) rfl (Nat.le_refl _) (Nat.le_of_ble_eq_true rfl) (fun K hC hE hR _ => ?_)
  refine x_aload_n hC dX9_unthink_0 rfl (j := 0) rfl <| x_aload_n hC dX9_unthink_1 rfl (j := 0) rfl <| s_getI hC dX9_unthink_2 wfl_X9_261 rfl (by decide) (by decide) (by decide) (by decide) <| s_putI hC dX9_unthink_5 wfl_X9_169 rfl (by decide) (by decide) (by decide) (by decide) (by decide) <| x_aload_n hC dX9_unthink_8 rfl (j := 0) rfl <| x_aload_n hC dX9_unthink_9 rfl (j := 0) rfl <| ?_
  refine s_getI hC dX9_unthink_10 wfl_X9_264 rfl (by decide) (by decide) (by decide) (by decide) <| s_putI hC dX9_unthink_13 wfl_X9_29 rfl (by decide) (by decide) (by decide) (by decide) (by decide) <| x_aload_n hC dX9_unthink_16 rfl (j := 0) rfl <| x_aload_n hC dX9_unthink_17 rfl (j := 0) rfl <| s_getI hC dX9_unthink_18 wfl_X9_267 rfl (by decide) (by decide) (by decide) (by decide) <| s_putI hC dX9_unthink_21 wfl_X9_172 rfl (by decide) (by decide) (by decide) (by decide) (by decide) <| ?_
  refine x_aload_n hC dX9_unthink_24 rfl (j := 0) rfl <| x_aload_n hC dX9_unthink_25 rfl (j := 0) rfl <| s_getL hC dX9_unthink_26 wfl_X9_270 rfl (by decide) (by decide) (by decide) (by decide) <| s_putL hC dX9_unthink_29 wfl_X9_124 rfl (by decide) (by decide) (by decide) (by decide) (by decide) <| ?_
  have e1 := Option.some.inj h
  subst e1
  exact x_vret (rest := []) hC hE rfl dX9_unthink_32
set_option maxRecDepth 100000 in
set_option maxHeartbeats 4000000 in
theorem B_X9_drawn_140 {G : xG} {l : Launch} {K : xK} {r : Int32} {τ : xS2} (hC : xCX G mM_X9_drawn K) (hR : xRd K 4) (hE : xE G K (some (.int r)) (xM τ)) {k37 : Int32 → Int32 → Int32 → Int32 → Int32 → Int32 → xS2 → Option (Int32 × xS2)} (hk37 : ∀ (l2 : Int32) (l3 : Int32) (l4 : Int32) (l5 : Int32) (l6 : Int32) (l7 : Int32) (σ : xS2), k37 l2 l3 l4 l5 l6 l7 σ = some (r, τ) → xV G l mM_X9_drawn K 37 [(0, .ref (xad G 43)), (2, .int l2), (3, .int l3), (4, .int l4), (5, .int l5), (6, .int l6), (7, .int l7)] [] (xM σ)) : ∀ (l2 : Int32) (l3 : Int32) (l4 : Int32) (l5 : Int32) (l6 : Int32) (l7 : Int32) (σ : xS2), J_X9_drawn_140 k37 l2 l3 l4 l5 l6 l7 σ = some (r, τ) → xV G l mM_X9_drawn K 140 [(0, .ref (xad G 43)), (2, .int l2), (3, .int l3), (4, .int l4), (5, .int l5), (6, .int l6), (7, .int l7)] [] (xM σ) := by
  intro l2 l3 l4 l5 l6 l7 σ h
  refine x_iload hC dX9_drawn_140 (j := 5) rfl <| x_aload_n hC dX9_drawn_142 rfl (j := 0) rfl <| s_getI hC dX9_drawn_143 wfl_X9_29 rfl (by decide) (by decide) (by decide) (by decide) <| x_iadd hC dX9_drawn_146 <| x_istore hC dX9_drawn_147 (by decide) rfl <| x_aload_n hC dX9_drawn_149 rfl (j := 1) rfl <| ?_
  obtain ⟨x10, h10, h⟩ := Option.bind_eq_some_iff.mp h
  refine x_callV hC hR dX9_drawn_150 mK_X9_unthink wml_X9_296 (C_X9_unthink (σ := σ) h10) (by omega) rfl (by decide) rfl rfl (xlt (by decide)) rfl (Nat.le_of_ble_eq_true rfl) rfl rfl rfl <| ?_
  refine x_iinc hC dX9_drawn_153 (j := 6) (v := (l7 + (1 : Int32))) rfl rfl (by decide) rfl <| x_goto (tgt := 37) hC dX9_drawn_156 (by decide) <| ?_
  refine x_sub [2, 3, 4, 5, 6, 1, 0] rfl ?_
  exact hk37 l2 l3 l4 l5 (l6 + (σ.1 43 9)) (l7 + (1 : Int32)) x10 h
set_option maxRecDepth 100000 in
set_option maxHeartbeats 4000000 in
theorem B_X9_drawn_124 {G : xG} {l : Launch} {K : xK} {r : Int32} {τ : xS2} (hC : xCX G mM_X9_drawn K) (hR : xRd K 4) (hE : xE G K (some (.int r)) (xM τ)) {k37 : Int32 → Int32 → Int32 → Int32 → Int32 → Int32 → xS2 → Option (Int32 × xS2)} (hk37 : ∀ (l2 : Int32) (l3 : Int32) (l4 : Int32) (l5 : Int32) (l6 : Int32) (l7 : Int32) (σ : xS2), k37 l2 l3 l4 l5 l6 l7 σ = some (r, τ) → xV G l mM_X9_drawn K 37 [(0, .ref (xad G 43)), (2, .int l2), (3, .int l3), (4, .int l4), (5, .int l5), (6, .int l6), (7, .int l7)] [] (xM σ)) {k52 : Int32 → Int32 → Int32 → Int32 → Int32 → Int32 → Bool → Int32 → xS2 → Option (Int32 × xS2)} (hk52 : ∀ (l2 : Int32) (l3 : Int32) (l4 : Int32) (l5 : Int32) (l6 : Int32) (l7 : Int32) (l8 : Bool) (l9 : Int32) (σ : xS2), k52 l2 l3 l4 l5 l6 l7 l8 l9 σ = some (r, τ) → xV G l mM_X9_drawn K 52 [(0, .ref (xad G 43)), (2, .int l2), (3, .int l3), (4, .int l4), (5, .int l5), (6, .int l6), (7, .int l7), (8, .int (xb l8)), (9, .int l9)] [] (xM σ)) : ∀ (l2 : Int32) (l3 : Int32) (l4 : Int32) (l5 : Int32) (l6 : Int32) (l7 : Int32) (l9 : Int32) (s0 : Bool) (σ : xS2), J_X9_drawn_124 k37 k52 l2 l3 l4 l5 l6 l7 l9 s0 σ = some (r, τ) → xV G l mM_X9_drawn K 124 [(0, .ref (xad G 43)), (2, .int l2), (3, .int l3), (4, .int l4), (5, .int l5), (6, .int l6), (7, .int l7), (9, .int l9)] [.int (xb s0)] (xM σ) := by
  intro l2 l3 l4 l5 l6 l7 l9 s0 σ h
  refine x_istore hC dX9_drawn_124 (by decide) rfl <| x_iinc hC dX9_drawn_126 (j := 8) (v := (l9 + (1 : Int32))) rfl rfl (by decide) rfl <| x_goto (tgt := 52) hC dX9_drawn_129 (by decide) <| ?_
  refine x_sub [2, 3, 4, 5, 6, 7, 8, 1, 0] rfl ?_
  exact hk52 l2 l3 l4 l5 l6 l7 s0 (l9 + (1 : Int32)) σ h
set_option maxRecDepth 100000 in
set_option maxHeartbeats 4000000 in
theorem B_X9_drawn_119 {G : xG} {l : Launch} {K : xK} {r : Int32} {τ : xS2} (hC : xCX G mM_X9_drawn K) (hR : xRd K 4) (hE : xE G K (some (.int r)) (xM τ)) {k37 : Int32 → Int32 → Int32 → Int32 → Int32 → Int32 → xS2 → Option (Int32 × xS2)} (hk37 : ∀ (l2 : Int32) (l3 : Int32) (l4 : Int32) (l5 : Int32) (l6 : Int32) (l7 : Int32) (σ : xS2), k37 l2 l3 l4 l5 l6 l7 σ = some (r, τ) → xV G l mM_X9_drawn K 37 [(0, .ref (xad G 43)), (2, .int l2), (3, .int l3), (4, .int l4), (5, .int l5), (6, .int l6), (7, .int l7)] [] (xM σ)) {k52 : Int32 → Int32 → Int32 → Int32 → Int32 → Int32 → Bool → Int32 → xS2 → Option (Int32 × xS2)} (hk52 : ∀ (l2 : Int32) (l3 : Int32) (l4 : Int32) (l5 : Int32) (l6 : Int32) (l7 : Int32) (l8 : Bool) (l9 : Int32) (σ : xS2), k52 l2 l3 l4 l5 l6 l7 l8 l9 σ = some (r, τ) → xV G l mM_X9_drawn K 52 [(0, .ref (xad G 43)), (2, .int l2), (3, .int l3), (4, .int l4), (5, .int l5), (6, .int l6), (7, .int l7), (8, .int (xb l8)), (9, .int l9)] [] (xM σ)) : ∀ (l2 : Int32) (l3 : Int32) (l4 : Int32) (l5 : Int32) (l6 : Int32) (l7 : Int32) (l9 : Int32) (σ : xS2), J_X9_drawn_119 k37 k52 l2 l3 l4 l5 l6 l7 l9 σ = some (r, τ) → xV G l mM_X9_drawn K 119 [(0, .ref (xad G 43)), (2, .int l2), (3, .int l3), (4, .int l4), (5, .int l5), (6, .int l6), (7, .int l7), (9, .int l9)] [] (xM σ) := by
  intro l2 l3 l4 l5 l6 l7 l9 σ h
  refine x_iconst (v := (1 : Int32)) hC dX9_drawn_119 (by decide) <| x_goto (tgt := 124) hC dX9_drawn_120 (by decide) <| ?_
  refine x_sub [0, 1, 2, 3, 4, 5, 6, 7] rfl ?_
  exact B_X9_drawn_124 hC hR hE hk37 hk52 l2 l3 l4 l5 l6 l7 l9 true σ h
set_option maxRecDepth 100000 in
set_option maxHeartbeats 4000000 in
theorem B_X9_drawn_103 {G : xG} {l : Launch} {K : xK} {r : Int32} {τ : xS2} (hC : xCX G mM_X9_drawn K) (hR : xRd K 4) (hE : xE G K (some (.int r)) (xM τ)) {k37 : Int32 → Int32 → Int32 → Int32 → Int32 → Int32 → xS2 → Option (Int32 × xS2)} (hk37 : ∀ (l2 : Int32) (l3 : Int32) (l4 : Int32) (l5 : Int32) (l6 : Int32) (l7 : Int32) (σ : xS2), k37 l2 l3 l4 l5 l6 l7 σ = some (r, τ) → xV G l mM_X9_drawn K 37 [(0, .ref (xad G 43)), (2, .int l2), (3, .int l3), (4, .int l4), (5, .int l5), (6, .int l6), (7, .int l7)] [] (xM σ)) {k52 : Int32 → Int32 → Int32 → Int32 → Int32 → Int32 → Bool → Int32 → xS2 → Option (Int32 × xS2)} (hk52 : ∀ (l2 : Int32) (l3 : Int32) (l4 : Int32) (l5 : Int32) (l6 : Int32) (l7 : Int32) (l8 : Bool) (l9 : Int32) (σ : xS2), k52 l2 l3 l4 l5 l6 l7 l8 l9 σ = some (r, τ) → xV G l mM_X9_drawn K 52 [(0, .ref (xad G 43)), (2, .int l2), (3, .int l3), (4, .int l4), (5, .int l5), (6, .int l6), (7, .int l7), (8, .int (xb l8)), (9, .int l9)] [] (xM σ)) : ∀ (l2 : Int32) (l3 : Int32) (l4 : Int32) (l5 : Int32) (l6 : Int32) (l7 : Int32) (l8 : Bool) (l9 : Int32) (s1 : Bool) (s2 : Int32) (s3 : Int32) (s4 : Int32) (σ : xS2), J_X9_drawn_103 k37 k52 l2 l3 l4 l5 l6 l7 l8 l9 s1 s2 s3 s4 σ = some (r, τ) → xV G l mM_X9_drawn K 103 [(0, .ref (xad G 43)), (2, .int l2), (3, .int l3), (4, .int l4), (5, .int l5), (6, .int l6), (7, .int l7), (8, .int (xb l8)), (9, .int l9)] [.int s4, .int s3, .int s2, .int (xb s1), .ref (xad G 43)] (xM σ) := by
  intro l2 l3 l4 l5 l6 l7 l8 l9 s1 s2 s3 s4 σ h
  obtain ⟨x13, h13, h⟩ := Option.bind_eq_some_iff.mp h
  refine x_callV hC hR dX9_drawn_103 mK_X9_goDay wml_X9_283 (C_X9_goDay (a1 := (xb s1)) (a2 := s2) (a3 := s3) (a4 := s4) (σ := σ) h13) (by omega) rfl (by decide) rfl rfl (xlt (by decide)) rfl (Nat.le_of_ble_eq_true rfl) rfl rfl rfl <| ?_
  refine x_pop hC dX9_drawn_106 rfl <| x_iload hC dX9_drawn_107 (j := 7) rfl <| ?_
  refine x_if_ne (tgt := 119) hC dX9_drawn_109 (by decide) (fun c14 => ?_) (fun c14 => ?_)
  · replace h := (if_neg c14).symm.trans h
    refine x_sub [0, 1, 2, 3, 4, 5, 6, 8] rfl ?_
    exact B_X9_drawn_119 hC hR hE hk37 hk52 l2 l3 l4 l5 l6 l7 l9 x13.2 h
  · replace h := (if_pos c14).symm.trans h
    refine x_aload_n hC dX9_drawn_112 rfl (j := 0) rfl <| s_getI hC dX9_drawn_113 wfl_X9_29 rfl (by decide) (by decide) (by decide) (by decide) <| ?_
    refine x_if_ne (tgt := 123) hC dX9_drawn_116 (by decide) (fun c15 => ?_) (fun c15 => ?_)
    · replace h := (if_neg c15).symm.trans h
      refine x_iconst (v := (0 : Int32)) hC dX9_drawn_123 (by decide) <| ?_
      refine x_sub [0, 1, 2, 3, 4, 5, 6, 8] rfl ?_
      exact B_X9_drawn_124 hC hR hE hk37 hk52 l2 l3 l4 l5 l6 l7 l9 false x13.2 h
    · replace h := (if_pos c15).symm.trans h
      refine x_sub [0, 1, 2, 3, 4, 5, 6, 8] rfl ?_
      exact B_X9_drawn_119 hC hR hE hk37 hk52 l2 l3 l4 l5 l6 l7 l9 x13.2 h
set_option maxRecDepth 100000 in
set_option maxHeartbeats 4000000 in
theorem B_X9_drawn_52 {G : xG} {l : Launch} {K : xK} {r : Int32} {τ : xS2} (hC : xCX G mM_X9_drawn K) (hR : xRd K 4) (hE : xE G K (some (.int r)) (xM τ)) {k37 : Int32 → Int32 → Int32 → Int32 → Int32 → Int32 → xS2 → Option (Int32 × xS2)} (hk37 : ∀ (l2 : Int32) (l3 : Int32) (l4 : Int32) (l5 : Int32) (l6 : Int32) (l7 : Int32) (σ : xS2), k37 l2 l3 l4 l5 l6 l7 σ = some (r, τ) → xV G l mM_X9_drawn K 37 [(0, .ref (xad G 43)), (2, .int l2), (3, .int l3), (4, .int l4), (5, .int l5), (6, .int l6), (7, .int l7)] [] (xM σ)) : ∀ (f : Nat) (l2 : Int32) (l3 : Int32) (l4 : Int32) (l5 : Int32) (l6 : Int32) (l7 : Int32) (l8 : Bool) (l9 : Int32) (σ : xS2), J_X9_drawn_52 k37 f l2 l3 l4 l5 l6 l7 l8 l9 σ = some (r, τ) → xV G l mM_X9_drawn K 52 [(0, .ref (xad G 43)), (2, .int l2), (3, .int l3), (4, .int l4), (5, .int l5), (6, .int l6), (7, .int l7), (8, .int (xb l8)), (9, .int l9)] [] (xM σ) := by
  intro f
  induction f with
  | zero => intro l2 l3 l4 l5 l6 l7 l8 l9 σ h; cases h
  | succ f ih =>
    intro l2 l3 l4 l5 l6 l7 l8 l9 σ h
    refine x_iload hC dX9_drawn_52 (j := 8) rfl <| x_bipush (v := (60 : Int32)) hC dX9_drawn_54 (by decide) <| ?_
    refine x_icmp_ge (tgt := 132) hC dX9_drawn_56 (by decide) (fun c8 => ?_) (fun c8 => ?_)
    · replace h := (if_pos c8).symm.trans h
      refine x_iload hC dX9_drawn_132 (j := 7) rfl <| ?_
      refine x_if_eq (tgt := 140) hC dX9_drawn_134 (by decide) (fun c9 => ?_) (fun c9 => ?_)
      · replace h := (if_pos c9).symm.trans h
        refine x_sub [0, 1, 2, 3, 4, 5, 6] rfl ?_
        exact B_X9_drawn_140 hC hR hE hk37 l2 l3 l4 l5 l6 l7 σ h
      · replace h := (if_neg c9).symm.trans h
        refine x_iinc hC dX9_drawn_137 (j := 4) (v := (l5 + (1 : Int32))) rfl rfl (by decide) rfl <| ?_
        refine x_sub [1, 2, 3, 4, 0, 5, 6] rfl ?_
        exact B_X9_drawn_140 hC hR hE hk37 l2 l3 l4 (l5 + (1 : Int32)) l6 l7 σ h
    · replace h := (if_neg c8).symm.trans h
      refine x_iload hC dX9_drawn_59 (j := 3) rfl <| x_ldcw hC dX9_drawn_61 wconst_X9_354 <| x_imul hC dX9_drawn_64 <| x_sipush (v := (12345 : Int32)) hC dX9_drawn_65 (by decide) <| x_iadd hC dX9_drawn_68 <| x_istore hC dX9_drawn_69 (by decide) rfl <| ?_
      refine x_aload_n hC dX9_drawn_71 rfl (j := 1) rfl <| x_iconst (v := (0 : Int32)) hC dX9_drawn_72 (by decide) <| x_iload hC dX9_drawn_73 (j := 8) rfl <| x_aload_n hC dX9_drawn_75 rfl (j := 1) rfl <| s_getR (q := 46) hC dX9_drawn_76 wfl_X9_16 rfl (by decide) (by decide) (by decide) (by decide) (by decide) <| x_iload hC dX9_drawn_79 (j := 8) rfl <| ?_
      obtain ⟨h11, h⟩ := xgd_some h
      refine s_iald hC dX9_drawn_81 rfl (by decide) h11 <| ?_
      refine x_iload hC dX9_drawn_82 (j := 0) rfl <| x_bipush (v := (8 : Int32)) hC dX9_drawn_84 (by decide) <| x_iushr (v := (xus ((l4 * (1103515245 : Int32)) + (12345 : Int32)) (8 : Int32))) hC dX9_drawn_86 rfl <| x_bipush (v := (12 : Int32)) hC dX9_drawn_87 (by decide) <| x_irm hC dX9_drawn_89 (by decide) <| x_aload_n hC dX9_drawn_90 rfl (j := 1) rfl <| ?_
      refine s_getI hC dX9_drawn_91 wfl_X9_26 rfl (by decide) (by decide) (by decide) (by decide) <| ?_
      refine x_icmp_ge (tgt := 102) hC dX9_drawn_94 (by decide) (fun c12 => ?_) (fun c12 => ?_)
      · replace h := (if_pos c12).symm.trans h
        refine x_iconst (v := (0 : Int32)) hC dX9_drawn_102 (by decide) <| ?_
        refine x_sub [1, 2, 3, 0, 4, 5, 6, 7, 8] rfl ?_
        exact B_X9_drawn_103 hC hR hE hk37 ih l2 l3 ((l4 * (1103515245 : Int32)) + (12345 : Int32)) l5 l6 l7 l8 l9 false l9 (σ.1 46 l9.toNatClampNeg) (0 : Int32) σ h
      · replace h := (if_neg c12).symm.trans h
        refine x_bipush (v := (9 : Int32)) hC dX9_drawn_97 (by decide) <| x_goto (tgt := 103) hC dX9_drawn_99 (by decide) <| ?_
        refine x_sub [1, 2, 3, 0, 4, 5, 6, 7, 8] rfl ?_
        exact B_X9_drawn_103 hC hR hE hk37 ih l2 l3 ((l4 * (1103515245 : Int32)) + (12345 : Int32)) l5 l6 l7 l8 l9 false l9 (σ.1 46 l9.toNatClampNeg) (9 : Int32) σ h
set_option maxRecDepth 100000 in
set_option maxHeartbeats 4000000 in
theorem B_X9_drawn_37 {G : xG} {l : Launch} {K : xK} {r : Int32} {τ : xS2} (hC : xCX G mM_X9_drawn K) (hR : xRd K 4) (hE : xE G K (some (.int r)) (xM τ)) : ∀ (f : Nat) (l2 : Int32) (l3 : Int32) (l4 : Int32) (l5 : Int32) (l6 : Int32) (l7 : Int32) (σ : xS2), J_X9_drawn_37 f l2 l3 l4 l5 l6 l7 σ = some (r, τ) → xV G l mM_X9_drawn K 37 [(0, .ref (xad G 43)), (2, .int l2), (3, .int l3), (4, .int l4), (5, .int l5), (6, .int l6), (7, .int l7)] [] (xM σ) := by
  intro f
  induction f with
  | zero => intro l2 l3 l4 l5 l6 l7 σ h; cases h
  | succ f ih =>
    intro l2 l3 l4 l5 l6 l7 σ h
    refine x_iload hC dX9_drawn_37 (j := 6) rfl <| x_iload_n hC dX9_drawn_39 rfl (j := 1) rfl <| ?_
    refine x_icmp_ge (tgt := 159) hC dX9_drawn_40 (by decide) (fun c6 => ?_) (fun c6 => ?_)
    · replace h := (if_pos c6).symm.trans h
      refine x_iload_n hC dX9_drawn_159 rfl (j := 2) rfl <| ?_
      refine x_if_ne (tgt := 168) hC dX9_drawn_160 (by decide) (fun c7 => ?_) (fun c7 => ?_)
      · replace h := (if_neg c7).symm.trans h
        refine x_iload hC dX9_drawn_168 (j := 5) rfl <| ?_
        obtain ⟨e1, e2⟩ := xso2 h
        subst e1
        subst e2
        exact x_iret (rest := []) hC hE rfl dX9_drawn_170
      · replace h := (if_pos c7).symm.trans h
        refine x_iload hC dX9_drawn_163 (j := 4) rfl <| x_goto (tgt := 170) hC dX9_drawn_165 (by decide) <| ?_
        obtain ⟨e1, e2⟩ := xso2 h
        subst e1
        subst e2
        exact x_iret (rest := []) hC hE rfl dX9_drawn_170
    · replace h := (if_neg c6).symm.trans h
      refine x_iconst (v := (0 : Int32)) hC dX9_drawn_43 (by decide) <| x_istore hC dX9_drawn_44 (by decide) rfl <| x_aload_n hC dX9_drawn_46 rfl (j := 1) rfl <| s_getI hC dX9_drawn_47 wfl_X9_166 rfl (by decide) (by decide) (by decide) (by decide) <| x_istore hC dX9_drawn_50 (by decide) rfl <| ?_
      refine x_sub [2, 3, 4, 5, 6, 7, 8, 1, 0] rfl ?_
      exact B_X9_drawn_52 hC hR hE ih xFU l2 l3 l4 l5 l6 l7 false (σ.1 43 7) σ h
set_option maxRecDepth 100000 in
set_option maxHeartbeats 4000000 in
theorem C_X9_drawn {G : xG} {l : Launch} {a1 : Int32} {a2 : Int32} {a3 : Int32} {σ : xS2} {r : Int32} {τ : xS2} (h : J_X9_drawn a1 a2 a3 σ = some (r, τ)) : xC G l mM_X9_drawn 4 [.ref (xad G 43), .int a1, .int a2, .int a3] (xM σ) (some (.int r)) (xM τ) := by
  refine xC_of (by decide) rfl (Nat.le_refl _) (Nat.le_of_ble_eq_true rfl) (fun K hC hE hR _ => ?_)
  refine x_iload_n hC dX9_drawn_0 rfl (j := 2) rfl <| x_iconst (v := (1 : Int32)) hC dX9_drawn_1 (by decide) <| x_bipush (v := (30 : Int32)) hC dX9_drawn_2 (by decide) <| x_callS hC hR dX9_drawn_4 mK_X9_in wml_X9_116 (C_X9_in (a0 := a2) (a1 := (1 : Int32)) (a2 := (30 : Int32)) (σ := σ)) (by omega) rfl (Nat.le_of_ble_eq_true rfl) rfl rfl rfl <| ?_
  refine x_if_eq (tgt := 19) hC dX9_drawn_7 (by decide) (fun c2 => ?_) (fun c2 => ?_)
  · replace h := (if_pos c2).symm.trans h
    refine x_iconst (v := (-1 : Int32)) hC dX9_drawn_19 (by decide) <| ?_
    obtain ⟨e1, e2⟩ := xso2 h
    subst e1
    subst e2
    exact x_iret (rest := []) hC hE rfl dX9_drawn_20
  · replace h := (if_neg c2).symm.trans h
    refine x_iload_n hC dX9_drawn_10 rfl (j := 3) rfl <| x_iconst (v := (0 : Int32)) hC dX9_drawn_11 (by decide) <| x_iconst (v := (1 : Int32)) hC dX9_drawn_12 (by decide) <| x_callS hC hR dX9_drawn_13 mK_X9_in wml_X9_116 (C_X9_in (a0 := a3) (a1 := (0 : Int32)) (a2 := (1 : Int32)) (σ := σ)) (by omega) rfl (Nat.le_of_ble_eq_true rfl) rfl rfl rfl <| ?_
    refine x_if_ne (tgt := 21) hC dX9_drawn_16 (by decide) (fun c4 => ?_) (fun c4 => ?_)
    · replace h := (if_neg c4).symm.trans h
      refine x_iload_n hC dX9_drawn_21 rfl (j := 1) rfl <| x_istore hC dX9_drawn_22 (by decide) rfl <| x_iconst (v := (0 : Int32)) hC dX9_drawn_24 (by decide) <| x_istore hC dX9_drawn_25 (by decide) rfl <| x_iconst (v := (0 : Int32)) hC dX9_drawn_27 (by decide) <| x_istore hC dX9_drawn_28 (by decide) rfl <| ?_
      refine x_aload_n hC dX9_drawn_30 rfl (j := 3) rfl <| ?_
      obtain ⟨x5, h5, h⟩ := Option.bind_eq_some_iff.mp h
      refine x_callV hC hR dX9_drawn_31 mK_X9_think wml_X9_302 (C_X9_think (σ := σ) h5) (by omega) rfl (by decide) rfl rfl (xlt (by decide)) rfl (Nat.le_of_ble_eq_true rfl) rfl rfl rfl <| ?_
      refine x_iconst (v := (0 : Int32)) hC dX9_drawn_34 (by decide) <| x_istore hC dX9_drawn_35 (by decide) rfl <| ?_
      refine x_sub [4, 6, 7, 3, 2, 1, 0] rfl ?_
      exact B_X9_drawn_37 hC hR hE xFU a2 a3 a1 (0 : Int32) (0 : Int32) (0 : Int32) x5 h
    · replace h := (if_pos c4).symm.trans h
      refine x_iconst (v := (-1 : Int32)) hC dX9_drawn_19 (by decide) <| ?_
      obtain ⟨e1, e2⟩ := xso2 h
      subst e1
      subst e2
      exact x_iret (rest := []) hC hE rfl dX9_drawn_20
set_option maxRecDepth 100000 in
set_option maxHeartbeats 4000000 in
theorem C_X9_isShelf {G : xG} {l : Launch} {a0 : Int32} {σ : xS2} : xC G l mM_X9_isShelf 1 [.int a0] (xM σ) (some (.int (xb (J_X9_isShelf a0)))) (xM σ) := by
  refine xC_of (by decide) rfl (Nat.le_refl _) (Nat.le_of_ble_eq_true rfl) (fun K hC hE hR _ => ?_)
  obtain ⟨r, h⟩ : ∃ r, J_X9_isShelf a0 = r := ⟨_, rfl⟩
  rw [h] at hE
  refine x_iload_n hC dX9_isShelf_0 rfl (j := 0) rfl <| x_iconst (v := (0 : Int32)) hC dX9_isShelf_1 (by decide) <| x_iconst (v := (5 : Int32)) hC dX9_isShelf_2 (by decide) <| x_callS hC hR dX9_isShelf_3 mK_X9_in wml_X9_116 (C_X9_in (a0 := a0) (a1 := (0 : Int32)) (a2 := (5 : Int32)) (σ := σ)) (by omega) rfl (Nat.le_of_ble_eq_true rfl) rfl rfl rfl <| ?_
  subst h
  exact x_zret (rest := []) hC hE rfl (rfl) dX9_isShelf_6
set_option maxRecDepth 100000 in
set_option maxHeartbeats 4000000 in
theorem C_X9_whyNoPlace {G : xG} {l : Launch} {a1 : Int32} {a2 : Int32} {σ : xS2} {r : Int32} (h : J_X9_whyNoPlace a1 a2 σ = some r) : xC G l mM_X9_whyNoPlace 2 [.ref (xad G 43), .int a1, .int a2] (xM σ) (some (.int r)) (xM σ) := by
  refine xC_of (by decide) rfl (Nat.le_refl _) (Nat.le_of_ble_eq_true rfl) (fun K hC hE hR _ => ?_)
  refine x_iload_n hC dX9_whyNoPlace_0 rfl (j := 1) rfl <| x_callS hC hR dX9_whyNoPlace_1 mK_X9_isShelf wml_X9_179 (C_X9_isShelf (a0 := a1) (σ := σ)) (by omega) rfl (Nat.le_of_ble_eq_true rfl) rfl rfl rfl <| ?_
  refine x_if_ne (tgt := 9) hC dX9_whyNoPlace_4 (by decide) (fun c2 => ?_) (fun c2 => ?_)
  · replace h := (if_neg c2).symm.trans h
    refine x_aload_n hC dX9_whyNoPlace_9 rfl (j := 0) rfl <| s_getR (q := 70) hC dX9_whyNoPlace_10 wfl_X9_100 rfl (by decide) (by decide) (by decide) (by decide) (by decide) <| x_iload_n hC dX9_whyNoPlace_13 rfl (j := 1) rfl <| ?_
    obtain ⟨h3, h⟩ := xgd_some h
    refine s_iald hC dX9_whyNoPlace_14 rfl (by decide) h3 <| ?_
    refine x_iconst (v := (-1 : Int32)) hC dX9_whyNoPlace_15 (by decide) <| ?_
    refine x_icmp_ne (tgt := 22) hC dX9_whyNoPlace_16 (by decide) (fun c4 => ?_) (fun c4 => ?_)
    · replace h := (if_neg c4).symm.trans h
      refine x_aload_n hC dX9_whyNoPlace_22 rfl (j := 0) rfl <| s_getR (q := 70) hC dX9_whyNoPlace_23 wfl_X9_100 rfl (by decide) (by decide) (by decide) (by decide) (by decide) <| x_iload_n hC dX9_whyNoPlace_26 rfl (j := 1) rfl <| ?_
      obtain ⟨h5, h⟩ := xgd_some h
      refine s_iald hC dX9_whyNoPlace_27 rfl (by decide) h5 <| ?_
      refine x_if_lt (tgt := 34) hC dX9_whyNoPlace_28 (by decide) (fun c6 => ?_) (fun c6 => ?_)
      · replace h := (if_pos c6).symm.trans h
        refine x_iload_n hC dX9_whyNoPlace_34 rfl (j := 2) rfl <| x_iconst (v := (0 : Int32)) hC dX9_whyNoPlace_35 (by decide) <| x_aload_n hC dX9_whyNoPlace_36 rfl (j := 0) rfl <| s_getR (q := 71) hC dX9_whyNoPlace_37 wfl_X9_103 rfl (by decide) (by decide) (by decide) (by decide) (by decide) <| x_iload_n hC dX9_whyNoPlace_40 rfl (j := 1) rfl <| ?_
        obtain ⟨h7, h⟩ := xgd_some h
        refine s_iald hC dX9_whyNoPlace_41 rfl (by decide) h7 <| ?_
        refine x_iconst (v := (1 : Int32)) hC dX9_whyNoPlace_42 (by decide) <| x_isub hC dX9_whyNoPlace_43 <| x_callS hC hR dX9_whyNoPlace_44 mK_X9_in wml_X9_116 (C_X9_in (a0 := a2) (a1 := (0 : Int32)) (a2 := ((σ.1 71 a1.toNatClampNeg) - (1 : Int32))) (σ := σ)) (by omega) rfl (Nat.le_of_ble_eq_true rfl) rfl rfl rfl <| ?_
        refine x_if_eq (tgt := 54) hC dX9_whyNoPlace_47 (by decide) (fun c9 => ?_) (fun c9 => ?_)
        · replace h := (if_pos c9).symm.trans h
          refine x_bipush (v := (-13 : Int32)) hC dX9_whyNoPlace_54 (by decide) <| ?_
          have e1 := Option.some.inj h
          subst e1
          exact x_iret (rest := []) hC hE rfl dX9_whyNoPlace_56
        · replace h := (if_neg c9).symm.trans h
          refine x_iconst (v := (0 : Int32)) hC dX9_whyNoPlace_50 (by decide) <| x_goto (tgt := 56) hC dX9_whyNoPlace_51 (by decide) <| ?_
          have e1 := Option.some.inj h
          subst e1
          exact x_iret (rest := []) hC hE rfl dX9_whyNoPlace_56
      · replace h := (if_neg c6).symm.trans h
        refine x_bipush (v := (-12 : Int32)) hC dX9_whyNoPlace_31 (by decide) <| ?_
        have e1 := Option.some.inj h
        subst e1
        exact x_iret (rest := []) hC hE rfl dX9_whyNoPlace_33
    · replace h := (if_pos c4).symm.trans h
      refine x_bipush (v := (-11 : Int32)) hC dX9_whyNoPlace_19 (by decide) <| ?_
      have e1 := Option.some.inj h
      subst e1
      exact x_iret (rest := []) hC hE rfl dX9_whyNoPlace_21
  · replace h := (if_pos c2).symm.trans h
    refine x_iconst (v := (-1 : Int32)) hC dX9_whyNoPlace_7 (by decide) <| ?_
    have e1 := Option.some.inj h
    subst e1
    exact x_iret (rest := []) hC hE rfl dX9_whyNoPlace_8
set_option maxRecDepth 100000 in
set_option maxHeartbeats 4000000 in
theorem C_X9_element {G : xG} {l : Launch} {a1 : Int32} {a2 : Int32} {σ : xS2} {r : Int64} (h : J_X9_element a1 a2 σ = some r) : xC G l mM_X9_element 3 [.ref (xad G 43), .int a1, .int a2] (xM σ) (some (.long r)) (xM σ) := by
  refine xC_of (by decide) rfl (Nat.le_refl _) (Nat.le_of_ble_eq_true rfl) (fun K hC hE hR _ => ?_)
  refine x_aload_n hC dX9_element_0 rfl (j := 0) rfl <| x_iload_n hC dX9_element_1 rfl (j := 1) rfl <| x_iload_n hC dX9_element_2 rfl (j := 2) rfl <| ?_
  obtain ⟨x1, h1, h⟩ := Option.bind_eq_some_iff.mp h
  refine x_callV hC hR dX9_element_3 mK_X9_whyNoPlace wml_X9_427 (C_X9_whyNoPlace (a1 := a1) (a2 := a2) (σ := σ) h1) (by omega) rfl (by decide) rfl rfl (xlt (by decide)) rfl (Nat.le_of_ble_eq_true rfl) rfl rfl rfl <| ?_
  refine x_if_ge (tgt := 15) hC dX9_element_6 (by decide) (fun c2 => ?_) (fun c2 => ?_)
  · replace h := (if_pos c2).symm.trans h
    refine x_aload_n hC dX9_element_15 rfl (j := 0) rfl <| s_getR (q := 72) hC dX9_element_16 wfl_X9_106 rfl (by decide) (by decide) (by decide) (by decide) (by decide) <| x_bipush (v := (60 : Int32)) hC dX9_element_19 (by decide) <| x_iload_n hC dX9_element_21 rfl (j := 1) rfl <| x_imul hC dX9_element_22 <| x_iload_n hC dX9_element_23 rfl (j := 2) rfl <| ?_
    refine x_iadd hC dX9_element_24 <| ?_
    obtain ⟨h3, h⟩ := xgd_some h
    refine s_lald hC dX9_element_25 rfl (by decide) h3 <| ?_
    have e1 := Option.some.inj h
    subst e1
    exact x_lret (rest := []) hC hE rfl dX9_element_26
  · replace h := (if_neg c2).symm.trans h
    refine x_ldc2 hC dX9_element_9 wconstL_X9_341 <| x_goto (tgt := 26) hC dX9_element_12 (by decide) <| ?_
    have e1 := Option.some.inj h
    subst e1
    exact x_lret (rest := []) hC hE rfl dX9_element_26
set_option maxRecDepth 100000 in
set_option maxHeartbeats 4000000 in
theorem B_X9_endOf_50 {G : xG} {l : Launch} {K : xK} {r : Int32} {σ : xS2} (hC : xCX G mM_X9_endOf K) (hR : xRd K 1) (hE : xE G K (some (.int r)) (xM σ)) {k5 : Int32 → Int32 → Int32 → xS2 → Option Int32} (hk5 : ∀ (l1 : Int32) (l3 : Int32) (l4 : Int32), k5 l1 l3 l4 σ = some r → xV G l mM_X9_endOf K 5 [(0, .ref (xad G 43)), (1, .int l1), (3, .int l3), (4, .int l4)] [] (xM σ)) : ∀ (l1 : Int32) (l4 : Int32) (s0 : Int32), J_X9_endOf_50 k5 l1 l4 s0 σ = some r → xV G l mM_X9_endOf K 50 [(0, .ref (xad G 43)), (1, .int l1), (4, .int l4)] [.int s0] (xM σ) := by
  intro l1 l4 s0 h
  refine x_istore_n hC dX9_endOf_50 rfl (by decide) rfl <| x_iinc hC dX9_endOf_51 (j := 3) (v := (l4 + (1 : Int32))) rfl rfl (by decide) rfl <| x_goto (tgt := 5) hC dX9_endOf_54 (by decide) <| ?_
  refine x_sub [2, 3, 1, 0] rfl ?_
  exact hk5 l1 s0 (l4 + (1 : Int32)) h
set_option maxRecDepth 100000 in
set_option maxHeartbeats 4000000 in
theorem B_X9_endOf_5 {G : xG} {l : Launch} {K : xK} {r : Int32} {σ : xS2} (hC : xCX G mM_X9_endOf K) (hR : xRd K 1) (hE : xE G K (some (.int r)) (xM σ)) : ∀ (f : Nat) (l1 : Int32) (l3 : Int32) (l4 : Int32), J_X9_endOf_5 f l1 l3 l4 σ = some r → xV G l mM_X9_endOf K 5 [(0, .ref (xad G 43)), (1, .int l1), (3, .int l3), (4, .int l4)] [] (xM σ) := by
  intro f
  induction f with
  | zero => intro l1 l3 l4 h; cases h
  | succ f ih =>
    intro l1 l3 l4 h
    refine x_iload hC dX9_endOf_5 (j := 3) rfl <| x_aload_n hC dX9_endOf_7 rfl (j := 0) rfl <| s_getR (q := 71) hC dX9_endOf_8 wfl_X9_103 rfl (by decide) (by decide) (by decide) (by decide) (by decide) <| x_iload_n hC dX9_endOf_11 rfl (j := 1) rfl <| ?_
    obtain ⟨h1, h⟩ := xgd_some h
    refine s_iald hC dX9_endOf_12 rfl (by decide) h1 <| ?_
    refine x_icmp_ge (tgt := 57) hC dX9_endOf_13 (by decide) (fun c2 => ?_) (fun c2 => ?_)
    · replace h := (if_pos c2).symm.trans h
      refine x_iload_n hC dX9_endOf_57 rfl (j := 2) rfl <| ?_
      have e1 := Option.some.inj h
      subst e1
      exact x_iret (rest := []) hC hE rfl dX9_endOf_58
    · replace h := (if_neg c2).symm.trans h
      refine x_iload_n hC dX9_endOf_16 rfl (j := 2) rfl <| ?_
      refine x_if_lt (tgt := 57) hC dX9_endOf_17 (by decide) (fun c3 => ?_) (fun c3 => ?_)
      · replace h := (if_pos c3).symm.trans h
        refine x_iload_n hC dX9_endOf_57 rfl (j := 2) rfl <| ?_
        have e1 := Option.some.inj h
        subst e1
        exact x_iret (rest := []) hC hE rfl dX9_endOf_58
      · replace h := (if_neg c3).symm.trans h
        refine x_aload_n hC dX9_endOf_20 rfl (j := 0) rfl <| x_iload_n hC dX9_endOf_21 rfl (j := 1) rfl <| x_iload hC dX9_endOf_22 (j := 3) rfl <| ?_
        obtain ⟨x4, h4, h⟩ := Option.bind_eq_some_iff.mp h
        refine x_callV hC hR dX9_endOf_24 mK_X9_byteAt wml_X9_293 (C_X9_byteAt (a1 := l1) (a2 := l4) (σ := σ) h4) (by omega) rfl (by decide) rfl rfl (xlt (by decide)) rfl (Nat.le_of_ble_eq_true rfl) rfl rfl rfl <| ?_
        refine x_iconst (v := (1 : Int32)) hC dX9_endOf_27 (by decide) <| x_iconst (v := (4 : Int32)) hC dX9_endOf_28 (by decide) <| x_callS hC hR dX9_endOf_29 mK_X9_in wml_X9_116 (C_X9_in (a0 := x4) (a1 := (1 : Int32)) (a2 := (4 : Int32)) (σ := σ)) (by omega) rfl (Nat.le_of_ble_eq_true rfl) rfl rfl rfl <| ?_
        refine x_if_eq (tgt := 49) hC dX9_endOf_32 (by decide) (fun c6 => ?_) (fun c6 => ?_)
        · replace h := (if_pos c6).symm.trans h
          refine x_iconst (v := (-1 : Int32)) hC dX9_endOf_49 (by decide) <| ?_
          refine x_sub [0, 1, 3] rfl ?_
          exact B_X9_endOf_50 hC hR hE ih l1 l4 (-1 : Int32) h
        · replace h := (if_neg c6).symm.trans h
          refine x_iload_n hC dX9_endOf_35 rfl (j := 2) rfl <| x_aload_n hC dX9_endOf_36 rfl (j := 0) rfl <| x_iload_n hC dX9_endOf_37 rfl (j := 1) rfl <| x_iload hC dX9_endOf_38 (j := 3) rfl <| ?_
          obtain ⟨x7, h7, h⟩ := Option.bind_eq_some_iff.mp h
          refine x_callV hC hR dX9_endOf_40 mK_X9_byteAt wml_X9_293 (C_X9_byteAt (a1 := l1) (a2 := l4) (σ := σ) h7) (by omega) rfl (by decide) rfl rfl (xlt (by decide)) rfl (Nat.le_of_ble_eq_true rfl) rfl rfl rfl <| ?_
          refine x_callS hC hR dX9_endOf_43 mK_X9_beside wml_X9_120 (C_X9_beside (a0 := l3) (a1 := x7) (σ := σ)) (by omega) rfl (Nat.le_of_ble_eq_true rfl) rfl rfl rfl <| x_goto (tgt := 50) hC dX9_endOf_46 (by decide) <| ?_
          refine x_sub [0, 1, 3] rfl ?_
          exact B_X9_endOf_50 hC hR hE ih l1 l4 (J_X9_beside l3 x7) h
set_option maxRecDepth 100000 in
set_option maxHeartbeats 4000000 in
theorem C_X9_endOf {G : xG} {l : Launch} {a1 : Int32} {a2 : Int32} {σ : xS2} {r : Int32} (h : J_X9_endOf a1 a2 σ = some r) : xC G l mM_X9_endOf 1 [.ref (xad G 43), .int a1, .int a2] (xM σ) (some (.int r)) (xM σ) := by
  refine xC_of (by decide) rfl (Nat.le_refl _) (Nat.le_of_ble_eq_true rfl) (fun K hC hE hR _ => ?_)
  refine x_iload_n hC dX9_endOf_0 rfl (j := 2) rfl <| x_istore_n hC dX9_endOf_1 rfl (by decide) rfl <| x_iconst (v := (0 : Int32)) hC dX9_endOf_2 (by decide) <| x_istore hC dX9_endOf_3 (by decide) rfl <| ?_
  refine x_sub [2, 3, 1, 0] rfl ?_
  exact B_X9_endOf_5 hC hR hE xFU a1 a2 (0 : Int32) h
set_option maxRecDepth 100000 in
set_option maxHeartbeats 4000000 in
theorem C_X9_feed {G : xG} {l : Launch} {a1 : Int32} {σ : xS2} {r : Int32} {τ : xS2} (h : J_X9_feed a1 σ = some (r, τ)) : xC G l mM_X9_feed 1 [.ref (xad G 43), .int a1] (xM σ) (some (.int r)) (xM τ) := by
  refine xC_of (by decide) rfl (Nat.le_refl _) (Nat.le_of_ble_eq_true rfl) (fun K hC hE hR _ => ?_)
  refine x_iload_n hC dX9_feed_0 rfl (j := 1) rfl <| x_iconst (v := (0 : Int32)) hC dX9_feed_1 (by decide) <| x_sipush (v := (255 : Int32)) hC dX9_feed_2 (by decide) <| x_callS hC hR dX9_feed_5 mK_X9_in wml_X9_116 (C_X9_in (a0 := a1) (a1 := (0 : Int32)) (a2 := (255 : Int32)) (σ := σ)) (by omega) rfl (Nat.le_of_ble_eq_true rfl) rfl rfl rfl <| ?_
  refine x_if_ne (tgt := 13) hC dX9_feed_8 (by decide) (fun c2 => ?_) (fun c2 => ?_)
  · replace h := (if_neg c2).symm.trans h
    refine x_aload_n hC dX9_feed_13 rfl (j := 0) rfl <| s_getI hC dX9_feed_14 wfl_X9_182 rfl (by decide) (by decide) (by decide) (by decide) <| x_bipush (v := (120 : Int32)) hC dX9_feed_17 (by decide) <| ?_
    refine x_icmp_ne (tgt := 25) hC dX9_feed_19 (by decide) (fun c3 => ?_) (fun c3 => ?_)
    · replace h := (if_neg c3).symm.trans h
      refine x_aload_n hC dX9_feed_25 rfl (j := 0) rfl <| s_getR (q := 54) hC dX9_feed_26 wfl_X9_50 rfl (by decide) (by decide) (by decide) (by decide) (by decide) <| x_aload_n hC dX9_feed_29 rfl (j := 0) rfl <| s_getI hC dX9_feed_30 wfl_X9_182 rfl (by decide) (by decide) (by decide) (by decide) <| x_iload_n hC dX9_feed_33 rfl (j := 1) rfl <| x_i2b (v := (a1.toInt8.toInt32)) hC dX9_feed_34 rfl <| ?_
      obtain ⟨h4, h⟩ := xgd_some h
      refine s_bast hC dX9_feed_35 rfl (by decide) h4 <| ?_
      refine x_aload_n hC dX9_feed_36 rfl (j := 0) rfl <| x_dup hC dX9_feed_37 rfl <| s_getI hC dX9_feed_38 wfl_X9_182 rfl (by decide) (by decide) (by decide) (by decide) <| x_iconst (v := (1 : Int32)) hC dX9_feed_41 (by decide) <| x_iadd hC dX9_feed_42 <| s_putI hC dX9_feed_43 wfl_X9_182 rfl (by decide) (by decide) (by decide) (by decide) (by decide) <| ?_
      refine x_aload_n hC dX9_feed_46 rfl (j := 0) rfl <| s_getI hC dX9_feed_47 wfl_X9_182 rfl (by decide) (by decide) (by decide) (by decide) <| ?_
      obtain ⟨e1, e2⟩ := xso2 h
      subst e1
      subst e2
      exact x_iret (rest := []) hC hE rfl dX9_feed_50
    · replace h := (if_pos c3).symm.trans h
      refine x_bipush (v := (-3 : Int32)) hC dX9_feed_22 (by decide) <| ?_
      obtain ⟨e1, e2⟩ := xso2 h
      subst e1
      subst e2
      exact x_iret (rest := []) hC hE rfl dX9_feed_24
  · replace h := (if_pos c2).symm.trans h
    refine x_iconst (v := (-1 : Int32)) hC dX9_feed_11 (by decide) <| ?_
    obtain ⟨e1, e2⟩ := xso2 h
    subst e1
    subst e2
    exact x_iret (rest := []) hC hE rfl dX9_feed_12
set_option maxRecDepth 100000 in
set_option maxHeartbeats 4000000 in
theorem C_X9_orderAt {G : xG} {l : Launch} {a1 : Int32} {a2 : Int32} {σ : xS2} {r : Int32} (h : J_X9_orderAt a1 a2 σ = some r) : xC G l mM_X9_orderAt 1 [.ref (xad G 43), .int a1, .int a2] (xM σ) (some (.int r)) (xM σ) := by
  refine xC_of (by decide) rfl (Nat.le_refl _) (Nat.le_of_ble_eq_true rfl) (fun K hC hE hR _ => ?_)
  refine x_aload_n hC dX9_orderAt_0 rfl (j := 0) rfl <| x_iload_n hC dX9_orderAt_1 rfl (j := 1) rfl <| x_iload_n hC dX9_orderAt_2 rfl (j := 2) rfl <| ?_
  obtain ⟨x1, h1, h⟩ := Option.bind_eq_some_iff.mp h
  refine x_callV hC hR dX9_orderAt_3 mK_X9_byteAt wml_X9_293 (C_X9_byteAt (a1 := a1) (a2 := a2) (σ := σ) h1) (by omega) rfl (by decide) rfl rfl (xlt (by decide)) rfl (Nat.le_of_ble_eq_true rfl) rfl rfl rfl <| ?_
  refine x_iconst (v := (0 : Int32)) hC dX9_orderAt_6 (by decide) <| x_iconst (v := (5 : Int32)) hC dX9_orderAt_7 (by decide) <| x_callS hC hR dX9_orderAt_8 mK_X9_in wml_X9_116 (C_X9_in (a0 := x1) (a1 := (0 : Int32)) (a2 := (5 : Int32)) (σ := σ)) (by omega) rfl (Nat.le_of_ble_eq_true rfl) rfl rfl rfl <| ?_
  refine x_if_eq (tgt := 23) hC dX9_orderAt_11 (by decide) (fun c3 => ?_) (fun c3 => ?_)
  · replace h := (if_pos c3).symm.trans h
    refine x_iconst (v := (0 : Int32)) hC dX9_orderAt_23 (by decide) <| ?_
    have e1 := Option.some.inj h
    subst e1
    exact x_iret (rest := []) hC hE rfl dX9_orderAt_24
  · replace h := (if_neg c3).symm.trans h
    refine x_aload_n hC dX9_orderAt_14 rfl (j := 0) rfl <| x_iload_n hC dX9_orderAt_15 rfl (j := 1) rfl <| x_iload_n hC dX9_orderAt_16 rfl (j := 2) rfl <| ?_
    obtain ⟨x4, h4, h⟩ := Option.bind_eq_some_iff.mp h
    refine x_callV hC hR dX9_orderAt_17 mK_X9_byteAt wml_X9_293 (C_X9_byteAt (a1 := a1) (a2 := a2) (σ := σ) h4) (by omega) rfl (by decide) rfl rfl (xlt (by decide)) rfl (Nat.le_of_ble_eq_true rfl) rfl rfl rfl <| ?_
    refine x_goto (tgt := 24) hC dX9_orderAt_20 (by decide) <| ?_
    have e1 := Option.some.inj h
    subst e1
    exact x_iret (rest := []) hC hE rfl dX9_orderAt_24
set_option maxRecDepth 100000 in
set_option maxHeartbeats 4000000 in
theorem C_X9_rowFault {G : xG} {l : Launch} {a1 : Int32} {σ : xS2} {r : Int32} (h : J_X9_rowFault a1 σ = some r) : xC G l mM_X9_rowFault 0 [.ref (xad G 43), .int a1] (xM σ) (some (.int r)) (xM σ) := by
  refine xC_of (by decide) rfl (Nat.le_refl _) (Nat.le_of_ble_eq_true rfl) (fun K hC hE hR _ => ?_)
  refine x_aload_n hC dX9_rowFault_0 rfl (j := 0) rfl <| s_getR (q := 70) hC dX9_rowFault_1 wfl_X9_100 rfl (by decide) (by decide) (by decide) (by decide) (by decide) <| x_iload_n hC dX9_rowFault_4 rfl (j := 1) rfl <| ?_
  obtain ⟨h1, h⟩ := xgd_some h
  refine s_iald hC dX9_rowFault_5 rfl (by decide) h1 <| ?_
  refine x_iconst (v := (-1 : Int32)) hC dX9_rowFault_6 (by decide) <| ?_
  refine x_icmp_ne (tgt := 15) hC dX9_rowFault_7 (by decide) (fun c2 => ?_) (fun c2 => ?_)
  · replace h := (if_neg c2).symm.trans h
    refine x_aload_n hC dX9_rowFault_15 rfl (j := 0) rfl <| s_getR (q := 70) hC dX9_rowFault_16 wfl_X9_100 rfl (by decide) (by decide) (by decide) (by decide) (by decide) <| x_iload_n hC dX9_rowFault_19 rfl (j := 1) rfl <| ?_
    obtain ⟨h3, h⟩ := xgd_some h
    refine s_iald hC dX9_rowFault_20 rfl (by decide) h3 <| ?_
    refine x_bipush (v := (-2 : Int32)) hC dX9_rowFault_21 (by decide) <| ?_
    refine x_icmp_ne (tgt := 30) hC dX9_rowFault_23 (by decide) (fun c4 => ?_) (fun c4 => ?_)
    · replace h := (if_neg c4).symm.trans h
      refine x_bipush (v := (-12 : Int32)) hC dX9_rowFault_30 (by decide) <| ?_
      have e1 := Option.some.inj h
      subst e1
      exact x_iret (rest := []) hC hE rfl dX9_rowFault_32
    · replace h := (if_pos c4).symm.trans h
      refine x_iconst (v := (0 : Int32)) hC dX9_rowFault_26 (by decide) <| x_goto (tgt := 32) hC dX9_rowFault_27 (by decide) <| ?_
      have e1 := Option.some.inj h
      subst e1
      exact x_iret (rest := []) hC hE rfl dX9_rowFault_32
  · replace h := (if_pos c2).symm.trans h
    refine x_bipush (v := (-11 : Int32)) hC dX9_rowFault_10 (by decide) <| x_goto (tgt := 32) hC dX9_rowFault_12 (by decide) <| ?_
    have e1 := Option.some.inj h
    subst e1
    exact x_iret (rest := []) hC hE rfl dX9_rowFault_32
set_option maxRecDepth 100000 in
set_option maxHeartbeats 4000000 in
theorem B_X9_first_84 {G : xG} {l : Launch} {K : xK} {r : Int32} {τ : xS2} (hC : xCX G mM_X9_first K) (hR : xRd K 5) (hE : xE G K (some (.int r)) (xM τ)) : ∀ (l2 : Int32) (σ : xS2), J_X9_first_84 l2 σ = some (r, τ) → xV G l mM_X9_first K 84 [(0, .ref (xad G 43)), (2, .int l2)] [] (xM σ) := by
  intro l2 σ h
  refine x_aload_n hC dX9_first_84 rfl (j := 0) rfl <| ?_
  obtain ⟨x8, h8, h⟩ := Option.bind_eq_some_iff.mp h
  refine x_callV hC hR dX9_first_85 mK_X9_unthink wml_X9_296 (C_X9_unthink (σ := σ) h8) (by omega) rfl (by decide) rfl rfl (xlt (by decide)) rfl (Nat.le_of_ble_eq_true rfl) rfl rfl rfl <| ?_
  refine x_iload_n hC dX9_first_88 rfl (j := 1) rfl <| ?_
  obtain ⟨e1, e2⟩ := xso2 h
  subst e1
  subst e2
  exact x_iret (rest := []) hC hE rfl dX9_first_89
set_option maxRecDepth 100000 in
set_option maxHeartbeats 4000000 in
theorem B_X9_first_78 {G : xG} {l : Launch} {K : xK} {r : Int32} {τ : xS2} (hC : xCX G mM_X9_first K) (hR : xRd K 5) (hE : xE G K (some (.int r)) (xM τ)) {k32 : Int32 → Int32 → Int32 → xS2 → Option (Int32 × xS2)} (hk32 : ∀ (l1 : Int32) (l2 : Int32) (l3 : Int32) (σ : xS2), k32 l1 l2 l3 σ = some (r, τ) → xV G l mM_X9_first K 32 [(0, .ref (xad G 43)), (1, .int l1), (2, .int l2), (3, .int l3)] [] (xM σ)) : ∀ (l1 : Int32) (l2 : Int32) (l3 : Int32) (σ : xS2), J_X9_first_78 k32 l1 l2 l3 σ = some (r, τ) → xV G l mM_X9_first K 78 [(0, .ref (xad G 43)), (1, .int l1), (2, .int l2), (3, .int l3)] [] (xM σ) := by
  intro l1 l2 l3 σ h
  refine x_iinc hC dX9_first_78 (j := 3) (v := (l3 + (1 : Int32))) rfl rfl (by decide) rfl <| x_goto (tgt := 32) hC dX9_first_81 (by decide) <| ?_
  refine x_sub [1, 2, 3, 0] rfl ?_
  exact hk32 l1 l2 (l3 + (1 : Int32)) σ h
set_option maxRecDepth 100000 in
set_option maxHeartbeats 4000000 in
theorem B_X9_first_32 {G : xG} {l : Launch} {K : xK} {r : Int32} {τ : xS2} (hC : xCX G mM_X9_first K) (hR : xRd K 5) (hE : xE G K (some (.int r)) (xM τ)) : ∀ (f : Nat) (l1 : Int32) (l2 : Int32) (l3 : Int32) (σ : xS2), J_X9_first_32 f l1 l2 l3 σ = some (r, τ) → xV G l mM_X9_first K 32 [(0, .ref (xad G 43)), (1, .int l1), (2, .int l2), (3, .int l3)] [] (xM σ) := by
  intro f
  induction f with
  | zero => intro l1 l2 l3 σ h; cases h
  | succ f ih =>
    intro l1 l2 l3 σ h
    refine x_iload_n hC dX9_first_32 rfl (j := 3) rfl <| x_aload_n hC dX9_first_33 rfl (j := 0) rfl <| s_getR (q := 71) hC dX9_first_34 wfl_X9_103 rfl (by decide) (by decide) (by decide) (by decide) (by decide) <| x_iload_n hC dX9_first_37 rfl (j := 1) rfl <| ?_
    obtain ⟨h6, h⟩ := xgd_some h
    refine s_iald hC dX9_first_38 rfl (by decide) h6 <| ?_
    refine x_icmp_ge (tgt := 84) hC dX9_first_39 (by decide) (fun c7 => ?_) (fun c7 => ?_)
    · replace h := (if_pos c7).symm.trans h
      refine x_sub [0, 2] rfl ?_
      exact B_X9_first_84 hC hR hE l2 σ h
    · replace h := (if_neg c7).symm.trans h
      refine x_aload_n hC dX9_first_42 rfl (j := 0) rfl <| s_getI hC dX9_first_43 wfl_X9_166 rfl (by decide) (by decide) (by decide) (by decide) <| x_iload_n hC dX9_first_46 rfl (j := 3) rfl <| x_iadd hC dX9_first_47 <| x_bipush (v := (60 : Int32)) hC dX9_first_48 (by decide) <| ?_
      refine x_icmp_ge (tgt := 84) hC dX9_first_50 (by decide) (fun c9 => ?_) (fun c9 => ?_)
      · replace h := (if_pos c9).symm.trans h
        refine x_sub [0, 2] rfl ?_
        exact B_X9_first_84 hC hR hE l2 σ h
      · replace h := (if_neg c9).symm.trans h
        refine x_iload_n hC dX9_first_53 rfl (j := 2) rfl <| ?_
        refine x_if_ge (tgt := 84) hC dX9_first_54 (by decide) (fun c10 => ?_) (fun c10 => ?_)
        · replace h := (if_pos c10).symm.trans h
          refine x_sub [0, 2] rfl ?_
          exact B_X9_first_84 hC hR hE l2 σ h
        · replace h := (if_neg c10).symm.trans h
          refine x_aload_n hC dX9_first_57 rfl (j := 0) rfl <| x_aload_n hC dX9_first_58 rfl (j := 0) rfl <| x_iload_n hC dX9_first_59 rfl (j := 1) rfl <| x_iload_n hC dX9_first_60 rfl (j := 3) rfl <| ?_
          obtain ⟨x11, h11, h⟩ := Option.bind_eq_some_iff.mp h
          refine x_callV hC hR dX9_first_61 mK_X9_orderAt wml_X9_305 (C_X9_orderAt (a1 := l1) (a2 := l3) (σ := σ) h11) (by omega) rfl (by decide) rfl rfl (xlt (by decide)) rfl (Nat.le_of_ble_eq_true rfl) rfl rfl rfl <| ?_
          refine x_aload_n hC dX9_first_64 rfl (j := 0) rfl <| s_getI hC dX9_first_65 wfl_X9_166 rfl (by decide) (by decide) (by decide) (by decide) <| x_iload_n hC dX9_first_68 rfl (j := 3) rfl <| x_iadd hC dX9_first_69 <| ?_
          obtain ⟨x12, h12, h⟩ := Option.bind_eq_some_iff.mp h
          refine x_callV hC hR dX9_first_70 mK_X9_goOwn wml_X9_287 (C_X9_goOwn (a1 := x11) (a2 := ((σ.1 43 7) + l3)) (σ := σ) h12) (by omega) rfl (by decide) rfl rfl (xlt (by decide)) rfl (Nat.le_of_ble_eq_true rfl) rfl rfl rfl <| ?_
          refine x_if_ne (tgt := 78) hC dX9_first_73 (by decide) (fun c13 => ?_) (fun c13 => ?_)
          · replace h := (if_neg c13).symm.trans h
            refine x_sub [0, 1, 2, 3] rfl ?_
            exact B_X9_first_78 hC hR hE ih l1 l2 l3 x12.2 h
          · replace h := (if_pos c13).symm.trans h
            refine x_iload_n hC dX9_first_76 rfl (j := 3) rfl <| x_istore_n hC dX9_first_77 rfl (by decide) rfl <| ?_
            refine x_sub [1, 2, 0, 3] rfl ?_
            exact B_X9_first_78 hC hR hE ih l1 l3 l3 x12.2 h
set_option maxRecDepth 100000 in
set_option maxHeartbeats 4000000 in
theorem C_X9_first {G : xG} {l : Launch} {a1 : Int32} {σ : xS2} {r : Int32} {τ : xS2} (h : J_X9_first a1 σ = some (r, τ)) : xC G l mM_X9_first 5 [.ref (xad G 43), .int a1] (xM σ) (some (.int r)) (xM τ) := by
  refine xC_of (by decide) rfl (Nat.le_refl _) (Nat.le_of_ble_eq_true rfl) (fun K hC hE hR _ => ?_)
  refine x_iload_n hC dX9_first_0 rfl (j := 1) rfl <| x_callS hC hR dX9_first_1 mK_X9_isShelf wml_X9_179 (C_X9_isShelf (a0 := a1) (σ := σ)) (by omega) rfl (Nat.le_of_ble_eq_true rfl) rfl rfl rfl <| ?_
  refine x_if_ne (tgt := 9) hC dX9_first_4 (by decide) (fun c2 => ?_) (fun c2 => ?_)
  · replace h := (if_neg c2).symm.trans h
    refine x_aload_n hC dX9_first_9 rfl (j := 0) rfl <| x_iload_n hC dX9_first_10 rfl (j := 1) rfl <| ?_
    obtain ⟨x3, h3, h⟩ := Option.bind_eq_some_iff.mp h
    refine x_callV hC hR dX9_first_11 mK_X9_rowFault wml_X9_299 (C_X9_rowFault (a1 := a1) (σ := σ) h3) (by omega) rfl (by decide) rfl rfl (xlt (by decide)) rfl (Nat.le_of_ble_eq_true rfl) rfl rfl rfl <| ?_
    refine x_if_ge (tgt := 23) hC dX9_first_14 (by decide) (fun c4 => ?_) (fun c4 => ?_)
    · replace h := (if_pos c4).symm.trans h
      refine x_aload_n hC dX9_first_23 rfl (j := 0) rfl <| ?_
      obtain ⟨x5, h5, h⟩ := Option.bind_eq_some_iff.mp h
      refine x_callV hC hR dX9_first_24 mK_X9_think wml_X9_302 (C_X9_think (σ := σ) h5) (by omega) rfl (by decide) rfl rfl (xlt (by decide)) rfl (Nat.le_of_ble_eq_true rfl) rfl rfl rfl <| ?_
      refine x_bipush (v := (-2 : Int32)) hC dX9_first_27 (by decide) <| x_istore_n hC dX9_first_29 rfl (by decide) rfl <| x_iconst (v := (0 : Int32)) hC dX9_first_30 (by decide) <| x_istore_n hC dX9_first_31 rfl (by decide) rfl <| ?_
      refine x_sub [2, 3, 1, 0] rfl ?_
      exact B_X9_first_32 hC hR hE xFU a1 (-2 : Int32) (0 : Int32) x5 h
    · replace h := (if_neg c4).symm.trans h
      refine x_aload_n hC dX9_first_17 rfl (j := 0) rfl <| x_iload_n hC dX9_first_18 rfl (j := 1) rfl <| ?_
      obtain ⟨x14, h14, h⟩ := Option.bind_eq_some_iff.mp h
      refine x_callV hC hR dX9_first_19 mK_X9_rowFault wml_X9_299 (C_X9_rowFault (a1 := a1) (σ := σ) h14) (by omega) rfl (by decide) rfl rfl (xlt (by decide)) rfl (Nat.le_of_ble_eq_true rfl) rfl rfl rfl <| ?_
      obtain ⟨e1, e2⟩ := xso2 h
      subst e1
      subst e2
      exact x_iret (rest := []) hC hE rfl dX9_first_22
  · replace h := (if_pos c2).symm.trans h
    refine x_iconst (v := (-1 : Int32)) hC dX9_first_7 (by decide) <| ?_
    obtain ⟨e1, e2⟩ := xso2 h
    subst e1
    subst e2
    exact x_iret (rest := []) hC hE rfl dX9_first_8
