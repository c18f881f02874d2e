/-! run, out of: both count bits alike. -/
def xBits : Prop := ∀ x : Int64, J_X9_bitsIn x = some (J_J13_bitCount_95d88 x)
theorem tell_eq {a3 : Int32} {σ μ : xS2} (hb : xBits) (h : xCt 4 σ μ) (h37 : μ.2 43 37 = σ.2 3 3) (ha : xRg a3 0 3) : J_X9_tellThought a3 μ = some (J_X8_thoughtOf a3 σ, xUn μ) := by
  obtain ⟨c, s, d, hc, hs, hd, h0, h1, h2, m8, m9, m10, hl⟩ := h
  obtain ⟨k, hk, rfl⟩ := xRg_at (l := 3) ha
  unfold J_X9_tellThought J_X9_tellThought_50 J_X8_thoughtOf
  rcases (show k = 0 ∨ k = 1 ∨ k = 2 ∨ k = 3 by omega) with rfl | rfl | rfl | rfl
  · rw [if_pos (by decide), if_pos (by decide), X9_unthink_eq, Option.bind_some, m8, h0]
  · rw [if_neg (by decide), if_pos (by decide), if_neg (by decide), if_pos (by decide), X9_unthink_eq, Option.bind_some, m9, h1]
  · rw [if_neg (by decide), if_neg (by decide), if_pos (by decide), if_neg (by decide), if_neg (by decide), if_pos (by decide), X9_unthink_eq, Option.bind_some, m10, h2]
  · rw [if_neg (by decide), if_neg (by decide), if_neg (by decide), if_neg (by decide), if_neg (by decide), if_neg (by decide), hb, Option.bind_some, hb, Option.bind_some, X9_unthink_eq, Option.bind_some, h37, hl]
theorem run_sim {s t l N : Nat} {a3 : Int32} (hs : s < 6) (hl : l ≤ 60) (ht : t ≤ 60) (hN : N ≤ l) (hN2 : t + N ≤ 60) : ∀ (n j f g : Nat) (σ μ : xS2), j + n = N → n < f → n < g → xRl s t l σ μ →
    ∃ σ' μ', J_X8_run_77 f (nI s) (nI N) a3 (nI j) σ = some (J_X8_thoughtOf a3 σ', σ') ∧ J_X9_run_67 g (nI s) (nI N) a3 (nI j) μ = J_X9_tellThought a3 μ' ∧ xCt 4 σ' μ' ∧ xFr [(4, 0), (4, 1), (4, 2), (4, 3)] σ σ' ∧ xFr zsC4 μ μ' := by
  have hb : ∀ {x : Option (Int32 × xS2)}, (x.bind fun x7 => some (x7.1, x7.2)) = x := fun {x} => by cases x <;> rfl
  intro n
  induction n with
  | zero =>
    intro j f g σ μ h hf hg hr
    obtain ⟨f, rfl⟩ : ∃ z, f = z + 1 := ⟨f - 1, by omega⟩
    obtain ⟨g, rfl⟩ : ∃ z, g = z + 1 := ⟨g - 1, by omega⟩
    refine ⟨σ, μ, ?_, ?_, hr.2.1, xFr_rf, xFr_rf⟩
    · rw [E_X8_run_77, if_pos (c_le (by omega) (by omega) (by omega))]
    · rw [E_X9_run_67, if_pos (c_le (by omega) (by omega) (by omega)), hb]
  | succ n ih =>
    intro j f g σ μ h hf hg hr
    obtain ⟨f, rfl⟩ : ∃ z, f = z + 1 := ⟨f - 1, by omega⟩
    obtain ⟨g, rfl⟩ : ∃ z, g = z + 1 := ⟨g - 1, by omega⟩
    obtain ⟨m, hm, o1, o2⟩ := rl_order hr hs hl (show j < l by omega)
    obtain ⟨b, σ1, μ1, d1, d2, d3, d4, d5, d6⟩ := own_eq (o := 4) (n := m) (j := t + j) (by decide) (by omega) hr.1 hr.2.1 hm
    obtain ⟨σ', μ', r1, r2, r3, r4, r5⟩ := ih (j + 1) f g σ1 μ1 (by omega) (by omega) (by omega) (xRl_fr hr d4 d3 d5 d6)
    refine ⟨σ', μ', ?_, ?_, r3, xFr_tq d5 r4, xFr_tq d6 r5⟩
    · rw [E_X8_run_77, if_neg (c_nle (by omega) (by omega) (by omega)), c_xin hs (by decide), xgd_t, nI_c (by omega), o1, Option.bind_some, hr.2.2.1, nI_add, d1, Option.bind_some, nI_1]
      exact r1
    · rw [E_X9_run_67, if_neg (c_nle (by omega) (by omega) (by omega)), o2, Option.bind_some, hr.2.2.2.1, nI_add, d2, Option.bind_some, nI_1]
      exact r2
theorem step_run (hbits : xBits) : xStep_run xIv := by
  intro a1 a2 a3 σ hI
  obtain ⟨hP, hC, hT, hK, hU, hF, hL, hS, hW⟩ := id hI
  cases hsh : J_X9_isShelf a1 with
  | false => exact ⟨-1, σ, σ, by unfold J_X8_run; rw [X8_isShelf, hsh, if_pos xb_ff], by unfold J_X9_run; rw [hsh, if_pos xb_ff], hI⟩
  | true =>
    obtain ⟨s, hs, rfl⟩ := isShelf_nat hsh
    by_cases q2 : a2 < 0
    · exact ⟨-1, σ, σ, by unfold J_X8_run; rw [X8_isShelf, hsh, if_neg xb_nt, if_pos q2], by unfold J_X9_run; rw [hsh, if_neg xb_nt, if_pos q2], hI⟩
    · cases h3 : J_X9_in a3 0 3 with
      | false => exact ⟨-1, σ, σ, by unfold J_X8_run; rw [X8_isShelf, hsh, if_neg xb_nt, if_neg q2, X8_oneOf4, h3, if_pos xb_ff], by unfold J_X9_run; rw [hsh, if_neg xb_nt, if_neg q2, h3, if_pos xb_ff], hI⟩
      | true =>
        have k8 : J_X8_run (nI s) a2 a3 σ = (J_X8_refusedBytes (nI s) σ).bind fun x6 => if x6 = 0 then (if σ.1 (28 + 2 * s) 4 < a2 then some (-5, σ) else if a2 ≤ 60 - σ.1 0 12 then (J_X0_become 4 3 σ).bind fun x11 => J_X8_run_77 xFU (nI s) a2 a3 0 x11 else some (-5, σ)) else some (x6, σ) := by
          unfold J_X8_run
          rw [X8_isShelf, hsh, if_neg xb_nt, if_neg q2, X8_oneOf4, h3, if_neg xb_nt, c_xin hs (by decide), xgd_t, nI_c (by omega)]
        have k9 : ∀ τ : xS2, J_X9_run (nI s) a2 a3 τ = (J_X9_rowFault (nI s) τ).bind fun x6 => if 0 ≤ x6 then (if τ.1 71 s < a2 then some (-5, τ) else if a2 ≤ 60 - τ.1 43 7 then (J_X9_think τ).bind fun x11 => J_X9_run_67 xFU (nI s) a2 a3 0 x11 else some (-5, τ)) else (J_X9_rowFault (nI s) τ).bind fun x16 => some (x16, τ) := by
          intro τ
          unfold J_X9_run
          rw [hsh, if_neg xb_nt, if_neg q2, h3, if_neg xb_nt, c_xin hs (by decide), xgd_t, nI_c (by omega)]
        rcases bytes_why hs (hS s hs) with ⟨w1, w2, w3⟩ | ⟨r, r0, r1, w1, w2⟩
        · obtain ⟨t, ht, et⟩ := xRg_at (l := 60) hT.1.2
          obtain ⟨l, hl, el⟩ := xRg_at (l := 60) (hS s hs).1
          have e71 : σ.1 71 s = nI l := (hS s hs).2.1.trans el
          by_cases g1 : nI l < a2
          · refine ⟨-5, σ, σ, ?_, ?_, hI⟩
            · rw [k8, w1, Option.bind_some, if_pos rfl, el, if_pos g1]
            · rw [k9, w2, Option.bind_some, if_pos (by decide), e71, if_pos g1]
          · by_cases g2 : a2 ≤ 60 - nI t
            · have e60 : (60 : Int32) - nI t = nI (60 - t) := nI_sub (a := 60) ht (by decide)
              obtain ⟨N, hN, rfl, hNb⟩ := i_nat (i := a2) (l := l) (by rw [Int32.lt_iff_toInt_lt, show (0 : Int32).toInt = 0 from rfl] at q2; omega) (by rw [Int32.lt_iff_toInt_lt, nI_toInt (by omega)] at g1; omega)
              have hN2 : t + N ≤ 60 := by
                rw [e60] at g2
                have := (nI_leI (by omega) (by omega)).mp g2
                omega
              obtain ⟨τ, -, e1, -, -, -, -⟩ := run_sim (a3 := a3) hs hl ht hN hN2 N 0 xFU xFU (xBc σ) (xTh σ) (by omega) (by show N < 2000; omega) (by show N < 2000; omega) (rl_start hs hP hC hT (hS s hs) et el xFr_rf)
              have k1 : J_X8_run (nI s) (nI N) a3 σ = some (J_X8_thoughtOf a3 τ, τ) := by
                rw [k8, w1, Option.bind_some, if_pos rfl, el, if_neg g1, et, if_pos g2, X0_become43, Option.bind_some]
                exact e1
              have f1 := F_X8_run k1
              obtain ⟨τ2, μ', e2, e3, c3, f3, g3⟩ := run_sim (a3 := a3) hs hl ht hN hN2 N 0 xFU xFU (xBc σ) (xTh τ) (by omega) (by show N < 2000; omega) (by show N < 2000; omega) (rl_start hs hP hC hT (hS s hs) et el f1)
              obtain ⟨-, rfl⟩ := xso2 (e2.symm.trans e1)
              have h37 : μ'.2 43 37 = τ2.2 3 3 := by
                have z1 : μ'.2 43 37 = τ2.2 43 11 := (g3 43 37 rfl).2
                rw [z1, (f1 43 11 rfl).2, (f1 3 3 rfl).2]
                exact hC.2.2.2
              have k2 : J_X9_run (nI s) (nI N) a3 τ2 = some (J_X8_thoughtOf a3 τ2, xUn μ') := by
                have w2' : J_X9_rowFault (nI s) τ2 = some 0 := by
                  have : J_X9_rowFault (nI s) τ2 = J_X9_rowFault (nI s) σ := by
                    unfold J_X9_rowFault
                    rw [(f1 70 _ rfl).1]
                  rw [this, w2]
                rw [k9, w2', Option.bind_some, if_pos (by decide), (f1 71 s rfl).1, e71, if_neg g1, (f1 43 7 rfl).1, hT.1.1, et, if_pos g2, X9_think_eq, Option.bind_some]
                exact e3.trans (tell_eq hbits c3 h37 (X9_rg 0 3 h3 rfl rfl))
              have f2 := F_X9_run k2
              exact ⟨_, τ2, xUn μ', k1, k2, xIP_f f1 f2 (by decide) (by decide) hP, xIC_un hC f1 (by decide) g3, xIT_f f1 f2 (by decide) (by decide) hT, xIK_f f1 f2 (by decide) (by decide) hK, xIU_f f1 f2 (by decide) (by decide) hU, xIF_f f1 f2 (by decide) (by decide) hF, xIL_f f1 f2 (by decide) (by decide) hL, xIS_f f1 f2 (by decide) (by decide) hS, xIW_f f1 f2 (by decide) (by decide) hW⟩
            · refine ⟨-5, σ, σ, ?_, ?_, hI⟩
              · rw [k8, w1, Option.bind_some, if_pos rfl, el, if_neg g1, et, if_neg g2]
              · rw [k9, w2, Option.bind_some, if_pos (by decide), e71, if_neg g1, hT.1.1, et, if_neg g2]
        · refine ⟨r, σ, σ, ?_, ?_, hI⟩
          · rw [k8, w1, Option.bind_some, if_neg r0]
          · rw [k9, w2 σ rfl, Option.bind_some, if_neg r1, Option.bind_some]
