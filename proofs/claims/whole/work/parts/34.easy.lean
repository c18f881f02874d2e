theorem step_back : xStep_back xIv := by
  intro σ hI
  obtain ⟨hP, hC, hT, hK, hU, hF, hL, hS, hW⟩ := hI
  unfold J_X8_back J_X9_back
  rcases hK with ⟨k1, k2⟩ | hK
  · rw [k1, if_neg (by decide)]
    exact ⟨-5, σ, σ, rfl, by rw [if_pos k2], hP, hC, hT, Or.inl ⟨k1, k2⟩, hU, hF, hL, hS, hW⟩
  · have hK0 := hK
    obtain ⟨k1, ⟨k2, kr⟩, ⟨k3, kr3⟩, ⟨k4, kr4⟩, ⟨k5, kr5⟩, k6⟩ := hK
    obtain ⟨t, ht, htb, e⟩ := xRg_nat kr
    rw [if_pos (by rw [e]; exact nI_pos' (by omega)), X0_become (by decide), Option.bind_some]
    have e1 : ∃ τ, some (((yL (yI (yI (yI σ 3 0 (σ.1 5 0)) 3 1 (σ.1 5 1)) 3 2 (σ.1 5 2)) 3 3 (σ.2 5 3)).1 0 13), yI (yL (yI (yI (yI σ 3 0 (σ.1 5 0)) 3 1 (σ.1 5 1)) 3 2 (σ.1 5 2)) 3 3 (σ.2 5 3)) 0 12 ((yL (yI (yI (yI σ 3 0 (σ.1 5 0)) 3 1 (σ.1 5 1)) 3 2 (σ.1 5 2)) 3 3 (σ.2 5 3)).1 0 13)) = some (σ.1 0 13, τ) ∧ τ = yI (yL (yI (yI (yI σ 3 0 (σ.1 5 0)) 3 1 (σ.1 5 1)) 3 2 (σ.1 5 2)) 3 3 (σ.2 5 3)) 0 12 (σ.1 0 13) := ⟨_, rfl, rfl⟩
    obtain ⟨τ, e1, hτ⟩ := e1
    have f1 : xFr [(3, 0), (3, 1), (3, 2), (3, 3), (0, 12)] σ τ := by rw [hτ]; exact xFr_yI (xFr_yL (xFr_yI (xFr_yI (xFr_yI xFr_rf rfl) rfl) rfl) rfl) rfl
    have h46 : τ.1 43 46 = σ.1 43 46 := (f1 43 46 rfl).1
    have h47 : τ.1 43 47 = σ.1 43 47 := (f1 43 47 rfl).1
    have h48 : τ.1 43 48 = σ.1 43 48 := (f1 43 48 rfl).1
    have h49 : τ.1 43 49 = σ.1 43 49 := (f1 43 49 rfl).1
    have h50 : τ.1 43 50 = σ.1 43 50 := (f1 43 50 rfl).1
    have h51 : τ.2 43 51 = σ.2 43 51 := (f1 43 51 rfl).2
    obtain ⟨ρ, hρ⟩ : ∃ ρ, ρ = (yL (yI (yI (yI (yI τ 43 7 (τ.1 43 47)) 43 8 (τ.1 43 48)) 43 9 (τ.1 43 49)) 43 10 (τ.1 43 50)) 43 11 (τ.2 43 51)) := ⟨_, rfl⟩
    have f2 : xFr [(43, 7), (43, 8), (43, 9), (43, 10), (43, 11)] τ ρ := by rw [hρ]; exact xFr_yL (xFr_yI (xFr_yI (xFr_yI (xFr_yI xFr_rf rfl) rfl) rfl) rfl) rfl
    have e2 : (if τ.1 43 46 = 0 then some ((-5 : Int32), τ) else some ((τ.1 43 47), (yL (yI (yI (yI (yI τ 43 7 (τ.1 43 47)) 43 8 (τ.1 43 48)) 43 9 (τ.1 43 49)) 43 10 (τ.1 43 50)) 43 11 (τ.2 43 51)))) = some (σ.1 0 13, ρ) := by
      rw [if_neg (by rw [h46, k1]; decide), hρ, h47, k2]
    refine ⟨σ.1 0 13, τ, ρ, e1, e2, xIP_f f1 f2 (by decide) (by decide) hP, ?_, ?_, xIK_f f1 f2 (by decide) (by decide) (Or.inr hK0), xIU_f f1 f2 (by decide) (by decide) hU, xIF_f f1 f2 (by decide) (by decide) hF, xIL_f f1 f2 (by decide) (by decide) hL, xIS_f f1 f2 (by decide) (by decide) hS, xIW_f f1 f2 (by decide) (by decide) hW⟩
    · subst hρ
      rw [h47, h48, h49, h50, h51]
      subst hτ
      simp [xIC, yI_1, yI_2, yL_1, yL_2]
      exact ⟨⟨k3, kr3⟩, ⟨k4, kr4⟩, ⟨k5, kr5⟩, k6⟩
    · have g6 : ∀ d, ρ.1 6 d = σ.1 6 d := fun d => ((f2 6 d rfl).1).trans (f1 6 d rfl).1
      have g7 : ∀ d, ρ.1 7 d = σ.1 7 d := fun d => ((f2 7 d rfl).1).trans (f1 7 d rfl).1
      have g48 : ∀ d, ρ.1 48 d = σ.1 48 d := fun d => ((f2 48 d rfl).1).trans (f1 48 d rfl).1
      have g49 : ∀ d, ρ.1 49 d = σ.1 49 d := fun d => ((f2 49 d rfl).1).trans (f1 49 d rfl).1
      have a1 : ρ.1 0 12 = σ.1 0 13 := by rw [(f2 0 12 rfl).1, hτ]; rfl
      have a2 : ρ.1 43 7 = σ.1 0 13 := by rw [hρ, h47, k2]; rfl
      refine ⟨⟨by rw [a1, a2], by rw [a1]; exact kr⟩, fun d hd => by rw [g48, g6]; exact hT.2.1 d hd, fun d hd => by rw [g49, g7]; exact hT.2.2 d hd⟩
theorem xRg_eq {x y : Int32} {a b : Int} (e : x = y) (h : xRg y a b) : xRg x a b := e ▸ h
theorem step_body : xStep_body xIv := by
  intro a1 σ hI
  have hI0 := hI
  obtain ⟨hP, hC, hT, hK, hU, hF, hL, hS, hW⟩ := hI
  obtain ⟨⟨w1, wr⟩, w2, w3, w4⟩ := hW
  obtain ⟨n, hn50, hnb, hn⟩ := xRg_nat wr
  unfold J_X8_body J_X9_body J_X7_add
  rw [X7_isKind]
  cases hk : J_X9_in a1 0 7 with
  | false => exact ⟨-1, σ, σ, rfl, rfl, hI0⟩
  | true =>
    rw [if_neg xb_nt, hn]
    have ea : nI n + 1 - 1 = nI n := by rw [nI_1]; exact nI_pred n
    by_cases q : n < 50
    · obtain ⟨τ, hτ⟩ : ∃ τ, τ = yI (yI σ 41 n a1) 40 3 (nI (n + 1)) := ⟨_, rfl⟩
      rw [if_pos (r_lt (x := 50) 50 rfl (by decide) hnb q), c_xin q (by decide), xgd_t, Option.bind_some, nI_c hnb]
      rw [ea, if_pos (nI_pos' (by omega)), nI_1, ← hτ]
      have f1 : xFr [(41, 99), (40, 3)] σ τ := by rw [hτ]; exact xFr_yI (xFr_yI xFr_rf rfl) rfl
      have h52 : τ.1 43 52 = nI n := by rw [(f1 43 52 rfl).1, w1, hn]
      obtain ⟨ρ, hρ⟩ : ∃ ρ, ρ = yI (yI τ 68 n a1) 43 52 (nI (n + 1)) := ⟨_, rfl⟩
      have e2 : (if xb true = 0 then some ((-1 : Int32), τ) else if τ.1 43 52 = 50 then some (-3, τ) else xgd (xin (τ.1 43 52) 50) (some (τ.1 43 52 + 1 - 1, yI (yI τ 68 (τ.1 43 52).toNatClampNeg a1) 43 52 (τ.1 43 52 + 1)))) = some (nI n, ρ) := by
        rw [if_neg xb_nt, h52, if_neg (r_ne (x := 50) 50 rfl (by decide) hnb (by omega)), c_xin q (by decide), xgd_t, nI_c hnb, ea, nI_1, hρ]
      have f2 : xFr [(68, 99), (43, 52)] τ ρ := by rw [hρ]; exact xFr_yI (xFr_yI xFr_rf rfl) rfl
      have a40 : ρ.1 40 3 = nI (n + 1) := by rw [(f2 40 3 rfl).1, hτ]; rfl
      have a52 : ρ.1 43 52 = nI (n + 1) := by rw [hρ]; rfl
      have a41 : ∀ k, ρ.1 41 k = if k = n then a1 else σ.1 41 k := by
        intro k
        rw [(f2 41 k rfl).1, hτ, yI_1, if_neg (by decide), yI_1, if_pos rfl]
      have a68 : ∀ k, ρ.1 68 k = if k = n then a1 else σ.1 68 k := by
        intro k
        rw [hρ, yI_1, if_neg (by decide), yI_1, if_pos rfl, (f1 68 k rfl).1]
      refine ⟨nI n, τ, ρ, rfl, e2, xIP_f f1 f2 (by decide) (by decide) hP, xIC_f f1 f2 (by decide) (by decide) hC, xIT_f f1 f2 (by decide) (by decide) hT, xIK_f f1 f2 (by decide) (by decide) hK, xIU_f f1 f2 (by decide) (by decide) hU, xIF_f f1 f2 (by decide) (by decide) hF, xIL_f f1 f2 (by decide) (by decide) hL, ?_, ?_⟩
      · intro s hs
        have e := xEq_tr (xFr_eq (s := zsS) f1 (by decide)) (xFr_eq (s := zsS) f2 (by decide))
        have h1 : xIS (yI ρ 40 3 (σ.1 40 3)) := by
          refine xIS_eq (σ := σ) (fun o k hk => ?_) rfl hS
          obtain ⟨g1, g2⟩ := e o k hk
          refine ⟨?_, g2⟩
          rw [yI_1]
          by_cases q1 : o = 40
          · subst q1
            have : xWn zsS 40 k = false := rfl
            rw [this] at hk; cases hk
          · rw [if_neg q1]; exact g1
        have h2 := h1 s hs
        have z : ∀ k, (yI ρ 40 3 (σ.1 40 3)).1 (28 + 2 * s) k = ρ.1 (28 + 2 * s) k := fun k => by rw [yI_1, if_neg (by omega)]
        simp only [xSh1, z, yI_2] at h2 ⊢
        refine ⟨h2.1, h2.2.1, h2.2.2.1, ?_⟩
        have z70 : (yI ρ 40 3 (σ.1 40 3)).1 70 s = ρ.1 70 s := rfl
        have z71 : (yI ρ 40 3 (σ.1 40 3)).1 40 3 = σ.1 40 3 := rfl
        rw [z70, z71] at h2
        rcases h2.2.2.2 with h | h | h
        · exact Or.inl h
        · refine Or.inr (Or.inl ⟨h.1, h.2.1, h.2.2.1, ?_⟩)
          have := h.2.2.2
          rw [a40, nI_toInt (by omega)]
          rw [hn, nI_toInt (by omega)] at this
          omega
        · exact Or.inr (Or.inr h)
      · refine ⟨⟨by rw [a40, a52], by rw [a40]; exact nI_rg (by omega) (by omega)⟩, fun b hb hlt => ?_, ?_, ?_⟩
        · rw [a40, nI_toInt (by omega)] at hlt
          rw [a68, a41]
          by_cases e : b = n
          · rw [if_pos e, if_pos e]
            exact ⟨rfl, X9_rg 0 7 hk rfl rfl⟩
          · rw [if_neg e, if_neg e]
            exact w2 b hb (by rw [hn, nI_toInt (by omega)]; omega)
        · rw [(f2 43 54 rfl).1, (f1 43 54 rfl).1, (f2 40 4 rfl).1, (f1 40 4 rfl).1]
          exact w3
        · intro i hi hlt
          rw [(f2 40 4 rfl).1, (f1 40 4 rfl).1] at hlt
          rw [(f2 69 i rfl).1, (f1 69 i rfl).1, (f2 42 i rfl).1, (f1 42 i rfl).1]
          exact w4 i hi hlt
    · have hn2 : n = 50 := by omega
      subst hn2
      rw [if_neg (by decide), Option.bind_some, if_neg (show ¬ (0 : Int32) ≤ -1 by decide)]
      exact ⟨-3, σ, σ, rfl, by rw [if_neg xb_nt, w1, hn, if_pos (by decide)], hI0⟩
theorem step_feed : xStep_feed xIv := by
  intro a1 σ hI
  have hI0 := hI
  obtain ⟨hP, hC, hT, hK, hU, hF, hL, hS, hW⟩ := hI
  obtain ⟨n, hn, h9, h21, hb⟩ := hF
  unfold J_X8_feed J_X9_feed J_X2_take
  have e0 : ∀ {α : Type} (x y : α), (if a1 < 0 then x else if a1 ≤ 255 then y else x) = (if J_X9_in a1 0 255 = true then y else x) := by
    intro α x y
    rw [← x_two]
    by_cases q : a1 < 0
    · rw [if_pos q, if_pos q]
    · rw [if_neg q, if_neg q]
      by_cases q2 : a1 ≤ 255
      · rw [if_pos q2, if_neg (fun z => by rw [Int32.lt_iff_toInt_lt] at z; rw [Int32.le_iff_toInt_le] at q2; omega)]
      · rw [if_neg q2, if_pos (by rw [Int32.le_iff_toInt_le] at q2; rw [Int32.lt_iff_toInt_lt]; omega)]
  rw [e0]
  cases hk : J_X9_in a1 0 255 with
  | false => exact ⟨-1, σ, σ, rfl, rfl, hI0⟩
  | true =>
    rw [if_pos rfl, h9]
    by_cases q : n < 120
    · obtain ⟨τ, hτ⟩ : ∃ τ, τ = yI (yI σ 9 n a1) 8 9 (nI (n + 1)) := ⟨_, rfl⟩
      rw [if_pos (r_lt (x := 120) 120 rfl (by decide) (by omega) q), c_xin q (by decide), xgd_t, Option.bind_some, nI_c (by omega), nI_1, ← hτ]
      show ∃ (r : Int32) (τ_1 ρ : xS2), (if xb true = 0 then some (-3, τ) else some (τ.1 8 9, τ)) = some (r, τ_1) ∧ _
      rw [if_neg xb_nt]
      have f1 : xFr [(9, 99), (8, 9)] σ τ := by rw [hτ]; exact xFr_yI (xFr_yI xFr_rf rfl) rfl
      have t9 : τ.1 8 9 = nI (n + 1) := by rw [hτ]; rfl
      have h21' : τ.1 43 21 = nI n := by rw [(f1 43 21 rfl).1, h21]
      obtain ⟨ρ, hρ⟩ : ∃ ρ, ρ = yI (yI τ 54 n (vp_nar .byte (a1.toInt8.toInt32))) 43 21 (nI (n + 1)) := ⟨_, rfl⟩
      have e2 : (if xb true = 0 then some ((-1 : Int32), τ) else if τ.1 43 21 = 120 then some (-3, τ) else xgd (xin (τ.1 43 21) 120) (some (τ.1 43 21 + 1, yI (yI τ 54 (τ.1 43 21).toNatClampNeg (vp_nar .byte a1.toInt8.toInt32)) 43 21 (τ.1 43 21 + 1)))) = some (nI (n + 1), ρ) := by
        rw [if_neg xb_nt, h21', if_neg (r_ne (x := 120) 120 rfl (by decide) (by omega) (by omega)), c_xin q (by decide), xgd_t, nI_c (by omega), nI_1, hρ]
      rw [t9]
      have f2 : xFr [(54, 99), (43, 21)] τ ρ := by rw [hρ]; exact xFr_yI (xFr_yI xFr_rf rfl) rfl
      refine ⟨nI (n + 1), τ, ρ, rfl, e2, xIP_f f1 f2 (by decide) (by decide) hP, xIC_f f1 f2 (by decide) (by decide) hC, xIT_f f1 f2 (by decide) (by decide) hT, xIK_f f1 f2 (by decide) (by decide) hK, xIU_f f1 f2 (by decide) (by decide) hU, ?_, xIL_f f1 f2 (by decide) (by decide) hL, xIS_f f1 f2 (by decide) (by decide) hS, xIW_f f1 f2 (by decide) (by decide) hW⟩
      refine ⟨n + 1, by omega, by rw [(f2 8 9 rfl).1, t9], by rw [hρ]; rfl, fun i hi => ?_⟩
      have a9 : ρ.1 9 i = if i = n then a1 else σ.1 9 i := by rw [(f2 9 i rfl).1, hτ, yI_1, if_neg (by decide), yI_1, if_pos rfl]
      have a54 : ρ.1 54 i = if i = n then vp_nar .byte (a1.toInt8.toInt32) else σ.1 54 i := by rw [hρ, yI_1, if_neg (by decide), yI_1, if_pos rfl, (f1 54 i rfl).1]
      rw [a9, a54]
      by_cases e : i = n
      · rw [if_pos e, if_pos e]
        refine ⟨X9_rg 0 255 hk rfl rfl, ?_⟩
        rw [vp_nar_byte]
        simp
      · rw [if_neg e, if_neg e]
        exact hb i (by omega)
    · have hn2 : n = 120 := by omega
      subst hn2
      rw [if_neg (by decide), Option.bind_some, if_pos (show xb false = 0 by decide)]
      refine ⟨-3, σ, σ, rfl, ?_, hI0⟩
      rw [if_neg xb_nt, h21, if_pos (by decide)]
theorem stones_eq {σ : xS2} (hP : xIP σ) : ∀ n c f, c + n = 36 → ∀ l1, ∃ r, J_X3_stones_4 (n + 1 + f) l1 (nI c) σ = some r ∧ J_X9_stones_4 (n + 1 + f) l1 (nI c) σ = some r := by
  intro n
  induction n with
  | zero =>
    intro c f hc l1
    have : c = 36 := by omega
    subst this
    rw [show 0 + 1 + f = f + 1 by omega, E_X3_stones_4, E_X9_stones_4, if_pos (by decide), if_pos (by decide)]
    exact ⟨l1, rfl, rfl⟩
  | succ n ih =>
    intro c f hc l1
    have hc36 : c < 36 := by omega
    obtain ⟨e, hr⟩ := hP.2.1 c hc36
    rw [show n + 1 + 1 + f = (n + 1 + f) + 1 by omega, E_X3_stones_4, E_X9_stones_4, if_neg (k_nle (x := 36) 36 rfl (by decide) (by omega) hc36), if_neg (k_nle (x := 36) 36 rfl (by decide) (by omega) hc36), X3_isStone hc36, Option.bind_some, c_xin hc36 (by decide), xgd_t, nI_c (by omega), e]
    unfold J_X3_stones_21
    rw [nI_1]
    obtain ⟨m, hm, hmb, hme⟩ := xRg_nat hr
    rcases (show m = 0 ∨ m = 1 by omega) with rfl | rfl
    · rw [hme, if_pos (by decide), show l1 + nI 0 = l1 by rw [nI_0]; simp]
      exact ih (c + 1) f (by omega) l1
    · rw [hme, if_neg (by decide)]
      exact ih (c + 1) f (by omega) (l1 + 1)
theorem hollows_eq {σ : xS2} (hP : xIP σ) : ∀ n c f, c + n = 36 → ∀ l1, ∃ r, J_X3_hollows_4 (n + 1 + f) l1 (nI c) σ = some r ∧ J_X9_hollows_4 (n + 1 + f) l1 (nI c) σ = some r := by
  intro n
  induction n with
  | zero =>
    intro c f hc l1
    have : c = 36 := by omega
    subst this
    rw [show 0 + 1 + f = f + 1 by omega, E_X3_hollows_4, E_X9_hollows_4, if_pos (by decide), if_pos (by decide)]
    exact ⟨l1, rfl, rfl⟩
  | succ n ih =>
    intro c f hc l1
    have hc36 : c < 36 := by omega
    rw [show n + 1 + 1 + f = (n + 1 + f) + 1 by omega, E_X3_hollows_4, E_X9_hollows_4, if_neg (k_nle (x := 36) 36 rfl (by decide) (by omega) hc36), if_neg (k_nle (x := 36) 36 rfl (by decide) (by omega) hc36), X3_isHollow hc36, X9_isHollow hc36, Option.bind_some, Option.bind_some, xHollow_eq hc36 (fun k hk => (hP.1 k hk).1)]
    unfold J_X3_hollows_21 J_X9_hollows_21
    rw [nI_1]
    cases xHollow (σ.1 2) c with
    | false => rw [if_pos (by decide), if_pos (by decide)]; exact ih (c + 1) f (by omega) l1
    | true => rw [if_neg (by decide), if_neg (by decide)]; exact ih (c + 1) f (by omega) (l1 + 1)
theorem step_count : xStep_count xIv := by
  intro a1 σ hI
  have hI0 := hI
  obtain ⟨hP, hC, hT, hK, hU, hF, hL, hS, hW⟩ := hI
  unfold J_X8_count J_X9_count
  by_cases q0 : a1 = 0
  · rw [if_pos q0, if_pos q0]
    obtain ⟨r, e1, e2⟩ := stones_eq hP 36 0 1963 rfl 0
    have g1 : J_X3_stones σ = some r := e1
    have g2 : J_X9_stones σ = some r := e2
    rw [g1, g2]
    exact ⟨r, rfl, rfl, hI0⟩
  rw [if_neg q0, if_neg q0]
  by_cases q1 : a1 = 1
  · rw [if_pos q1, if_pos q1]
    obtain ⟨r, e1, e2⟩ := hollows_eq hP 36 0 1963 rfl 0
    have g1 : J_X3_hollows σ = some r := e1
    have g2 : J_X9_hollows σ = some r := e2
    rw [g1, g2]
    exact ⟨r, rfl, rfl, hI0⟩
  rw [if_neg q1, if_neg q1]
  by_cases q2 : a1 = 2
  · rw [if_pos q2, if_pos q2]
    obtain ⟨n, -, h9, h21, -⟩ := hF
    exact ⟨_, rfl, by rw [h9, h21], hI0⟩
  rw [if_neg q2, if_neg q2]
  by_cases q3 : a1 = 3
  · rw [if_pos q3, if_pos q3]
    obtain ⟨d, k, -, -, h3, -, h14, -⟩ := hU
    exact ⟨_, rfl, by rw [h3, h14], hI0⟩
  rw [if_neg q3, if_neg q3]
  by_cases q4 : a1 = 4
  · rw [if_pos q4, if_pos q4]
    exact ⟨_, rfl, by rw [hW.1.1], hI0⟩
  rw [if_neg q4, if_neg q4]
  by_cases q5 : a1 = 5
  · rw [if_pos q5, if_pos q5]
    exact ⟨_, rfl, by rw [hW.2.2.1.1], hI0⟩
  rw [if_neg q5, if_neg q5]
  exact ⟨_, rfl, rfl, hI0⟩
