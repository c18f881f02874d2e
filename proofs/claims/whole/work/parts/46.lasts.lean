/-! A thought of the cart: lasts. -/
def zsC4 : List (Nat × Nat) := [(43, 10), (43, 11), (43, 8), (43, 9)]
def xBc (σ : xS2) : xS2 := yL (yI (yI (yI σ 4 0 (σ.1 3 0)) 4 1 (σ.1 3 1)) 4 2 (σ.1 3 2)) 4 3 (σ.2 3 3)
theorem X0_become43 {σ : xS2} : J_X0_become 4 3 σ = some (xBc σ) := rfl
def xTh (σ : xS2) : xS2 := yL (yI (yI (yI σ 43 34 (σ.1 43 8)) 43 35 (σ.1 43 9)) 43 36 (σ.1 43 10)) 43 37 (σ.2 43 11)
def xUn (σ : xS2) : xS2 := yL (yI (yI (yI σ 43 8 (σ.1 43 34)) 43 9 (σ.1 43 35)) 43 10 (σ.1 43 36)) 43 11 (σ.2 43 37)
theorem X9_think_eq {σ : xS2} : J_X9_think σ = some (xTh σ) := rfl
theorem X9_unthink_eq {σ : xS2} : J_X9_unthink σ = some (xUn σ) := rfl
theorem xCt_3 {σ : xS2} (h : xIC σ) : xCt 3 σ σ := by
  obtain ⟨⟨h0, r0⟩, ⟨h1, r1⟩, ⟨h2, r2⟩, h3⟩ := h
  obtain ⟨c, hc, ec⟩ := xRg_at (l := 35) r0
  obtain ⟨s, hs, es⟩ := xRg_at (l := 99) r1
  obtain ⟨d, hd, ed⟩ := xRg_at (l := 9) r2
  exact ⟨c, s, d, by omega, hs, hd, ec, es, ed, h0.trans ec, h1.trans es, h2.trans ed, h3.symm⟩
/-- the thought as the class begins it, against a reference whose cart stands as at first -/
theorem xCt_4 {σ μ : xS2} (h : xIC σ) (e8 : μ.1 43 8 = σ.1 43 8) (e9 : μ.1 43 9 = σ.1 43 9) (e10 : μ.1 43 10 = σ.1 43 10) (e11 : μ.2 43 11 = σ.2 43 11) : xCt 4 (xBc σ) μ := by
  obtain ⟨c, s, d, hc, hs, hd, h0, h1, h2, m8, m9, m10, hl⟩ := xCt_3 h
  exact ⟨c, s, d, hc, hs, hd, h0, h1, h2, e8.trans m8, e9.trans m9, e10.trans m10, hl.trans e11.symm⟩
/-- thought and unthought: the reference's cart is what it was -/
theorem xIC_un {σ τ μ : xS2} {l : List (Nat × Nat)} (hC : xIC σ) (f : xFr l σ τ) (hl : xDj zsC l = true) (g : xFr zsC4 (xTh τ) μ) : xIC (xUn μ) := by
  have hT : xIC τ := xIC_eq (xFr_eq f hl) hC
  have e3 : ∀ k, (xUn μ).1 3 k = τ.1 3 k := fun k => (g 3 k rfl).1
  have e3l : ∀ k, (xUn μ).2 3 k = τ.2 3 k := fun k => (g 3 k rfl).2
  have e8 : (xUn μ).1 43 8 = τ.1 43 8 := (g 43 34 rfl).1
  have e9 : (xUn μ).1 43 9 = τ.1 43 9 := (g 43 35 rfl).1
  have e10 : (xUn μ).1 43 10 = τ.1 43 10 := (g 43 36 rfl).1
  have e11 : (xUn μ).2 43 11 = τ.2 43 11 := (g 43 37 rfl).2
  simpa only [xIC, e3, e3l, e8, e9, e10, e11] using hT
theorem xPl_fr {o : Nat} {σ μ σ1 μ1 : xS2} (ho : o ≠ 2) (h : xPl σ μ) (f : xFr [(o, 0), (o, 1), (o, 2), (o, 3)] σ σ1) (g : xFr zsC4 μ μ1) : xPl σ1 μ1 := by
  intro w a hw ha
  have e1 : ∀ k, σ1.1 2 k = σ.1 2 k := fun k => (f 2 k (by simp [xWn]; omega)).1
  have e2 : μ1.1 (xMo w a).1 (xMo w a).2 = μ.1 (xMo w a).1 (xMo w a).2 := (g _ _ (by rcases w6 hw with rfl | rfl | rfl | rfl | rfl | rfl <;> rfl)).1
  rw [e1, e2]
  exact h w a hw ha
theorem goDay_fr {a1 a2 a3 a4 : Int32} {σ τ : xS2} {r : Bool} (h : J_X9_goDay a1 a2 a3 a4 σ = some (r, τ)) : xFr zsC4 σ τ := F_X9_goDay h
theorem sun_at {σ μ : xS2} {j : Nat} (h : xPl σ μ) (hj : j < 60) : μ.1 46 j = σ.1 2 (72 + j) ∧ xRg (σ.1 2 (72 + j)) 0 20 := h 2 j (by decide) hj
theorem wind_at {σ μ : xS2} {j : Nat} (h : xPl σ μ) (hj : j < 60) : μ.1 47 j = σ.1 2 (132 + j) ∧ xRg (σ.1 2 (132 + j)) 0 9 := h 3 j (by decide) hj
theorem less_eq : ∀ x, x < 21 → ∀ y, y < 21 → (if nI x ≤ nI y then 0 else nI x - nI y) = xmax 0 (nI x - nI y) := by decide +kernel
theorem lasts_sim {A : Nat} (hA : A ≤ 20) : ∀ (n j f g : Nat) (σ μ : xS2), j + n = 60 → n < f → n + 1 < g → xPl σ μ → xCt 4 σ μ → ∃ r σ' μ', J_X8_lasts_28 f (nI A) (nI j) σ = some (r, σ') ∧ J_X9_lasts_24 g (nI A) (-2) (nI j) μ = some (r, xUn μ') ∧ xFr zsC4 μ μ' := by
  intro n
  induction n with
  | zero =>
    intro j f g σ μ h hf hg hp hc
    obtain ⟨f, rfl⟩ : ∃ z, f = z + 1 := ⟨f - 1, by omega⟩
    obtain ⟨g, rfl⟩ : ∃ z, g = z + 1 := ⟨g - 1, by omega⟩
    obtain rfl : j = 60 := by omega
    refine ⟨-2, σ, μ, ?_, ?_, xFr_rf⟩
    · rw [E_X8_lasts_28, if_pos (by decide)]
    · rw [E_X9_lasts_24, if_pos (by decide)]
      rfl
  | succ n ih =>
    intro j f g σ μ h hf hg hp hc
    obtain ⟨f, rfl⟩ : ∃ z, f = z + 1 := ⟨f - 1, by omega⟩
    obtain ⟨g, rfl⟩ : ∃ z, g = z + 2 := ⟨g - 2, by omega⟩
    obtain ⟨es, hs⟩ := sun_at hp (show j < 60 by omega)
    obtain ⟨ew, hw⟩ := wind_at hp (show j < 60 by omega)
    obtain ⟨x, hx, ex⟩ := xRg_at (l := 20) hs
    obtain ⟨b, σ1, μ1, d1, d2, d3⟩ := day_eq (n := 0) (t := nI j) (u := xmax 0 (nI x - nI A)) (v := σ.1 2 (132 + j)) (by decide) hp hc (by omega)
    have hp1 := xPl_fr (by decide) hp (F_X0_liveUnder d1) (goDay_fr d2)
    have kc : J_X8_lasts_28 (f + 1) (nI A) (nI j) σ = if σ1.1 4 1 = 0 then some (nI j, σ1) else J_X8_lasts_28 f (nI A) (nI (j + 1)) σ1 := by
      rw [E_X8_lasts_28, if_neg (k_nle (x := (60 : Int32)) 60 rfl (by decide) (by omega) (by omega)), X3_sun (by omega), Option.bind_some, X3_wind (by omega), Option.bind_some, ex, nI_1]
      show (J_X0_liveUnder 4 (nI j) (nI 0) _ _ σ).bind _ = _
      rw [d1, Option.bind_some]
    have km : J_X9_lasts_24 (g + 2) (nI A) (-2) (nI j) μ = if μ1.1 43 9 = 0 then J_X9_lasts_24 (g + 1) (nI A) (nI j) (nI (j + 1)) μ1 else J_X9_lasts_24 (g + 1) (nI A) (-2) (nI (j + 1)) μ1 := by
      have k59 : J_X9_lasts_59 (J_X9_lasts_24 (g + 1)) (nI A) (-2) (nI j) false (nI j) (xmax 0 (nI x - nI A)) μ = if μ1.1 43 9 = 0 then J_X9_lasts_24 (g + 1) (nI A) (nI j) (nI (j + 1)) μ1 else J_X9_lasts_24 (g + 1) (nI A) (-2) (nI (j + 1)) μ1 := by
        unfold J_X9_lasts_59 J_X9_lasts_78
        rw [c_xin (by omega) (by decide), xgd_t, nI_c (by omega), ew, nI_1]
        show (J_X9_goDay (nI 0) _ _ _ μ).bind _ = _
        rw [d2, Option.bind_some]
      rw [← k59, E_X9_lasts_24, if_neg (k_nle (x := (60 : Int32)) 60 rfl (by decide) (by omega) (by omega)), if_neg (by decide), c_xin (by omega) (by decide), xgd_t, xgd_t, nI_c (by omega), es, ex, ← less_eq x (by omega) A (by omega)]
      by_cases z : nI x ≤ nI A
      · rw [if_pos z, if_pos z]
      · rw [if_neg z, if_neg z]
    obtain ⟨c', s', d', hc', hs', hd', h0, h1, h2, m8, m9, m10, hl⟩ := id d3
    rw [h1] at kc
    rw [m9] at km
    by_cases z : nI s' = 0
    · rw [if_pos z] at kc km
      refine ⟨nI j, σ1, μ1, kc, ?_, goDay_fr d2⟩
      rw [km, E_X9_lasts_24]
      by_cases z2 : (60 : Int32) ≤ nI (j + 1)
      · rw [if_pos z2]; rfl
      · rw [if_neg z2, if_pos (nI_pos' (by omega))]; rfl
    · rw [if_neg z] at kc km
      obtain ⟨r, σ', μ', r1, r2, r3⟩ := ih (j + 1) f (g + 1) σ1 μ1 (by omega) (by omega) (by omega) hp1 d3
      exact ⟨r, σ', μ', kc.trans r1, km.trans r2, xFr_tq (goDay_fr d2) r3⟩
theorem step_lasts : xStep_lasts xIv := by
  intro a1 σ hI
  obtain ⟨hP, hC, hT, hK, hU, hF, hL, hS, hW⟩ := id hI
  by_cases q : xRg a1 0 20
  · obtain ⟨A, hA, rfl⟩ := xRg_at (l := 20) q
    obtain ⟨t, ht, et⟩ := xRg_at (l := 60) hT.1.2
    have hp0 : xPl (xBc σ) (xBc σ) := fun w a hw ha => by
      have e : (xBc σ).1 (xMo w a).1 (xMo w a).2 = σ.1 (xMo w a).1 (xMo w a).2 := by rcases w6 hw with rfl | rfl | rfl | rfl | rfl | rfl <;> rfl
      rw [e]
      exact xPl_of hP w a hw ha
    have k1 : J_X8_lasts (nI A) σ = J_X8_lasts_28 xFU (nI A) (nI t) (xBc σ) := by
      unfold J_X8_lasts
      rw [if_neg (nI_pos (by omega)), if_pos (r_le (x := (20 : Int32)) 20 rfl (by decide) (by omega) hA), X0_become43, Option.bind_some, show (xBc σ).1 0 12 = σ.1 0 12 from rfl, et]
    obtain ⟨r, τ, -, e1, -, -⟩ := lasts_sim hA (60 - t) t xFU xFU (xBc σ) (xBc σ) (by omega) (by show 60 - t < 2000; omega) (by show 60 - t + 1 < 2000; omega) hp0 (xCt_4 hC rfl rfl rfl rfl)
    have e1' := k1.trans e1
    have f1 := F_X8_lasts e1'
    have hp1 : xPl (xBc σ) (xTh τ) := fun w a hw ha => by
      have e : (xTh τ).1 (xMo w a).1 (xMo w a).2 = σ.1 (xMo w a).1 (xMo w a).2 := by
        have g1 : τ.1 (xMo w a).1 (xMo w a).2 = σ.1 (xMo w a).1 (xMo w a).2 := (f1 _ _ (by rcases w6 hw with rfl | rfl | rfl | rfl | rfl | rfl <;> rfl)).1
        rw [← g1]
        rcases w6 hw with rfl | rfl | rfl | rfl | rfl | rfl <;> rfl
      rw [e]
      exact xPl_of hP w a hw ha
    obtain ⟨r2, τ2, μ', e2, e3, g3⟩ := lasts_sim hA (60 - t) t xFU xFU (xBc σ) (xTh τ) (by omega) (by show 60 - t < 2000; omega) (by show 60 - t + 1 < 2000; omega) hp1 (xCt_4 hC (f1 43 8 rfl).1 (f1 43 9 rfl).1 (f1 43 10 rfl).1 (f1 43 11 rfl).2)
    have er : r2 = r := (xso2 (e2.symm.trans e1)).1
    subst er
    have k2 : J_X9_lasts (nI A) τ = some (r2, xUn μ') := by
      unfold J_X9_lasts
      rw [X9_in_of (a := nI A) (lo := 0) (hi := 20) (by rw [show (0 : Int32).toInt = 0 from rfl, show (20 : Int32).toInt = 20 from rfl]; exact q), if_neg xb_nt, X9_think_eq, Option.bind_some]
      have et2 : (xTh τ).1 43 7 = nI t := by
        show τ.1 43 7 = _
        rw [(f1 43 7 rfl).1, hT.1.1, et]
      rw [et2]
      exact e3
    have f2 := F_X9_lasts k2
    exact ⟨r2, τ, xUn μ', e1', k2, xIP_f f1 f2 (by decide) (by decide) hP, xIC_un hC f1 (by decide) g3, xIT_f f1 f2 (by decide) (by decide) hT, xIK_f f1 f2 (by decide) (by decide) hK, xIU_f f1 f2 (by decide) (by decide) hU, xIF_f f1 f2 (by decide) (by decide) hF, xIL_f f1 f2 (by decide) (by decide) hL, xIS_f f1 f2 (by decide) (by decide) hS, xIW_f f1 f2 (by decide) (by decide) hW⟩
  · refine ⟨-1, σ, σ, ?_, ?_, hI⟩
    · unfold J_X8_lasts
      by_cases z : a1 < 0
      · rw [if_pos z]
      · rw [if_neg z, if_neg]
        intro z2
        rw [Int32.lt_iff_toInt_lt, show (0 : Int32).toInt = 0 from rfl] at z
        rw [Int32.le_iff_toInt_le, show (20 : Int32).toInt = 20 from rfl] at z2
        exact q ⟨by omega, z2⟩
    · unfold J_X9_lasts
      cases hh : J_X9_in a1 0 20 with
      | false => rw [if_pos xb_ff]
      | true => exact absurd (X9_rg 0 20 hh rfl rfl) q
