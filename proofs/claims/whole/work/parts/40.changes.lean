/-! The changes: undo, redo, mend. -/
theorem nI_sub1 {n : Nat} (h : 0 < n) : nI n - 1 = nI (n - 1) := by
  obtain ⟨m, rfl⟩ : ∃ m, n = m + 1 := ⟨n - 1, by omega⟩
  exact nI_pred m
theorem nI_sub {a b : Nat} (h : b ≤ a) (ha : a < 2147483648) : nI a - nI b = nI (a - b) := by
  apply Int32.toInt_inj.mp
  rw [Int32.toInt_sub, nI_toInt (by omega), nI_toInt (by omega), nI_toInt (by omega), Int.bmod_eq_of_le (by omega) (by omega)]
  omega
theorem step_undo : xStep_undo xIv := by
  intro σ hI
  obtain ⟨hP, hC, hT, hK, hU, hF, hL, hS, hW⟩ := id hI
  obtain ⟨d, k, hdk, hk, e3, e4, e14, e15, hr⟩ := hU
  by_cases hd : d = 0
  · subst hd
    refine ⟨-5, σ, σ, ?_, ?_, hI⟩
    · unfold J_X8_undo J_X1_takeBack
      rw [e3, if_neg (by decide)]
      rfl
    · unfold J_X9_undo
      rw [e14, if_pos (by decide)]
  · obtain ⟨w, a, hw, ha, g24, g50, g51, g52, g53, g25, g26⟩ := hr (d - 1) (by omega)
    have hb := xBg_top w hw
    have h1 : J_X8_undo σ = some (nI (d - 1), yI (yI σ 23 3 (nI (d - 1))) 2 (xBg w + a) (σ.1 25 (d - 1))) := by
      unfold J_X8_undo J_X1_takeBack
      rw [e3, if_pos (k_lt (x := (0 : Int32)) 0 rfl (by decide) (by omega) (by omega)), nI_sub1 (by omega), c_xin (by omega) (by decide), xgd_t, xgd_t, nI_c (by omega), g24, X3_tell (by omega), Option.bind_some, Option.bind_some, if_neg xb_nt]
      rfl
    obtain ⟨τ, hτ⟩ : ∃ τ, τ = yI (yI σ 23 3 (nI (d - 1))) 2 (xBg w + a) (σ.1 25 (d - 1)) := ⟨_, rfl⟩
    rw [← hτ] at h1
    have h2 : J_X9_undo τ = some (nI (d - 1), yI (yI (yI τ 43 14 (nI (d - 1))) 43 15 (nI (k - (d - 1)))) (xMo w a).1 (xMo w a).2 (σ.1 25 (d - 1))) := by
      unfold J_X9_undo
      rw [show τ.1 43 14 = nI d by rw [hτ]; exact e14, show τ.1 43 15 = nI (k - d) by rw [hτ]; exact e15, if_neg (nI_ne0 (by omega) (by omega)), nI_sub1 (by omega), c_xin (by omega) (by decide), xgd_t, xgd_t, xgd_t, nI_c (by omega),
        show τ.1 50 (d - 1) = nI w by rw [hτ]; exact g50, show τ.1 51 (d - 1) = nI a by rw [hτ]; exact g51, show τ.1 52 (d - 1) = σ.1 25 (d - 1) by rw [hτ]; exact g52, X9_lays_eq hw ha, Option.bind_some, nI_1, show k - d + 1 = k - (d - 1) by omega]
      congr 2
      rw [xMo_other hw (by omega)]
      rfl
    obtain ⟨ρ, hρ⟩ : ∃ ρ, ρ = yI (yI (yI τ 43 14 (nI (d - 1))) 43 15 (nI (k - (d - 1)))) (xMo w a).1 (xMo w a).2 (σ.1 25 (d - 1)) := ⟨_, rfl⟩
    rw [← hρ] at h2
    have f1 := F_X8_undo h1
    have f2 := F_X9_undo h2
    refine ⟨nI (d - 1), τ, ρ, h1, h2, ?_, xIC_f f1 f2 (by decide) (by decide) hC, xIT_f f1 f2 (by decide) (by decide) hT, xIK_f f1 f2 (by decide) (by decide) hK, ?_, xIF_f f1 f2 (by decide) (by decide) hF, xIL_f f1 f2 (by decide) (by decide) hL, xIS_f f1 f2 (by decide) (by decide) hS, xIW_f f1 f2 (by decide) (by decide) hW⟩
    · refine xIP_lay (v := σ.1 25 (d - 1)) hP hw ha g25 (fun k' => ?_) (fun w' a' hw' ha' => ?_)
      · rw [hρ, xMo_other hw (by omega), yI_1, if_neg (by decide), yI_1, if_neg (by decide), hτ]; rfl
      · rw [hρ, xMo_at hw ha hw' ha']
        by_cases z : w' = w ∧ a' = a
        · rw [if_pos z, if_pos z]
        · rw [if_neg z, if_neg z, xMo_skip hw' (by omega), xMo_skip hw' (by omega), hτ, xMo_skip hw' (by omega), xMo_skip hw' (by omega)]
    · refine ⟨d - 1, k, by omega, hk, ?_, ?_, ?_, ?_, fun i hi => ?_⟩
      · rw [hρ, xMo_other hw (by omega), hτ]; rfl
      · rw [hρ, xMo_other hw (by omega), hτ]; exact e4
      · rw [hρ, xMo_other hw (by omega)]; rfl
      · rw [hρ, xMo_other hw (by omega)]; rfl
      · have m : ∀ o k', o < 43 ∧ o ≠ 2 ∧ o ≠ 23 ∨ 47 < o → ρ.1 o k' = σ.1 o k' := by
          intro o k' ho
          rw [hρ, xMo_other hw (by omega), yI_1, if_neg (by omega), yI_1, if_neg (by omega), hτ, yI_1, if_neg (by omega), yI_1, if_neg (by omega)]
        rw [m 24 i (by omega), m 25 i (by omega), m 26 i (by omega), m 50 i (by omega), m 51 i (by omega), m 52 i (by omega), m 53 i (by omega)]
        exact hr i hi
theorem step_redo : xStep_redo xIv := by
  intro σ hI
  obtain ⟨hP, hC, hT, hK, hU, hF, hL, hS, hW⟩ := id hI
  obtain ⟨d, k, hdk, hk, e3, e4, e14, e15, hr⟩ := hU
  by_cases hd : d = k
  · subst hd
    refine ⟨-5, σ, σ, ?_, ?_, hI⟩
    · unfold J_X8_redo J_X1_bringBack
      rw [e3, e4, if_neg (c_nlt (by omega) (by omega) (by omega))]
      rfl
    · unfold J_X9_redo
      rw [e15, Nat.sub_self, if_pos (by decide)]
  · obtain ⟨w, a, hw, ha, g24, g50, g51, g52, g53, g25, g26⟩ := hr d (by omega)
    have hb := xBg_top w hw
    have h1 : J_X8_redo σ = some (nI (k - (d + 1)), yI (yI σ 2 (xBg w + a) (σ.1 26 d)) 23 3 (nI (d + 1))) := by
      unfold J_X8_redo J_X1_bringBack
      rw [e3, e4, if_pos (c_lt (by omega) (by omega) (by omega)), c_xin (by omega) (by decide), xgd_t, xgd_t, nI_c (by omega), g24, X3_tell (by omega), Option.bind_some, Option.bind_some, if_neg xb_nt]
      have q3 : (yI σ 2 (xBg w + a) (σ.1 26 d)).1 23 3 = nI d := by rw [yI_1, if_neg (by decide)]; exact e3
      rw [q3, nI_1]
      have q4 : (yI (yI σ 2 (xBg w + a) (σ.1 26 d)) 23 3 (nI (d + 1))).1 23 4 = nI k := by rw [yI_1, if_pos rfl, if_neg (by decide), yI_1, if_neg (by decide)]; exact e4
      have q5 : (yI (yI σ 2 (xBg w + a) (σ.1 26 d)) 23 3 (nI (d + 1))).1 23 3 = nI (d + 1) := by rw [yI_1, if_pos rfl, if_pos rfl]
      show some ((yI (yI σ 2 (xBg w + a) (σ.1 26 d)) 23 3 (nI (d + 1))).1 23 4 - (yI (yI σ 2 (xBg w + a) (σ.1 26 d)) 23 3 (nI (d + 1))).1 23 3, _) = _
      rw [q4, q5, nI_sub (by omega) (by omega)]
    obtain ⟨τ, hτ⟩ : ∃ τ, τ = yI (yI σ 2 (xBg w + a) (σ.1 26 d)) 23 3 (nI (d + 1)) := ⟨_, rfl⟩
    rw [← hτ] at h1
    have h2 : J_X9_redo τ = some (nI (k - (d + 1)), yI (yI (yI τ (xMo w a).1 (xMo w a).2 (σ.1 26 d)) 43 14 (nI (d + 1))) 43 15 (nI (k - (d + 1)))) := by
      unfold J_X9_redo
      have t14 : τ.1 43 14 = nI d := by rw [hτ]; exact e14
      have t15 : τ.1 43 15 = nI (k - d) := by rw [hτ]; exact e15
      rw [t14, t15, if_neg (nI_ne0 (by omega) (by omega)), c_xin (by omega) (by decide), xgd_t, xgd_t, xgd_t, nI_c (by omega),
        show τ.1 50 d = nI w by rw [hτ]; exact g50, show τ.1 51 d = nI a by rw [hτ]; exact g51, show τ.1 53 d = σ.1 26 d by rw [hτ]; exact g53, X9_lays_eq hw ha, Option.bind_some, xMo_other hw (by omega), xMo_other hw (by omega), t14, t15, nI_sub1 (by omega), nI_1, show k - d - 1 = k - (d + 1) by omega]
    obtain ⟨ρ, hρ⟩ : ∃ ρ, ρ = yI (yI (yI τ (xMo w a).1 (xMo w a).2 (σ.1 26 d)) 43 14 (nI (d + 1))) 43 15 (nI (k - (d + 1))) := ⟨_, rfl⟩
    rw [← hρ] at h2
    have f1 := F_X8_redo h1
    have f2 := F_X9_redo h2
    refine ⟨nI (k - (d + 1)), τ, ρ, h1, h2, ?_, xIC_f f1 f2 (by decide) (by decide) hC, xIT_f f1 f2 (by decide) (by decide) hT, xIK_f f1 f2 (by decide) (by decide) hK, ?_, xIF_f f1 f2 (by decide) (by decide) hF, xIL_f f1 f2 (by decide) (by decide) hL, xIS_f f1 f2 (by decide) (by decide) hS, xIW_f f1 f2 (by decide) (by decide) hW⟩
    · refine xIP_lay (v := σ.1 26 d) hP hw ha g26 (fun k' => ?_) (fun w' a' hw' ha' => ?_)
      · rw [hρ, yI_1, if_neg (by decide), yI_1, if_neg (by decide), xMo_other hw (by omega), hτ]; rfl
      · rw [hρ, xMo_skip hw' (by omega), xMo_skip hw' (by omega), xMo_at hw ha hw' ha', hτ, xMo_skip hw' (by omega), xMo_skip hw' (by omega)]
    · refine ⟨d + 1, k, by omega, hk, ?_, ?_, ?_, ?_, fun i hi => ?_⟩
      · rw [hρ, yI_1, if_neg (by decide), yI_1, if_neg (by decide), xMo_other hw (by omega), hτ]; rfl
      · rw [hρ, yI_1, if_neg (by decide), yI_1, if_neg (by decide), xMo_other hw (by omega), hτ]; exact e4
      · rw [hρ]; rfl
      · rw [hρ]; rfl
      · have m : ∀ o k', o < 43 ∧ o ≠ 2 ∧ o ≠ 23 ∨ 47 < o → ρ.1 o k' = σ.1 o k' := by
          intro o k' ho
          rw [hρ, yI_1, if_neg (by omega), yI_1, if_neg (by omega), xMo_other hw (by omega), hτ, yI_1, if_neg (by omega), yI_1, if_neg (by omega)]
        rw [m 24 i (by omega), m 25 i (by omega), m 26 i (by omega), m 50 i (by omega), m 51 i (by omega), m 52 i (by omega), m 53 i (by omega)]
        exact hr i hi
