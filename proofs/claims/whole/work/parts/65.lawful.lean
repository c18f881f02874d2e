/-! Days by THE LAW: lawful, days. -/
def zrC : List (Nat × Nat) := [(43, 8), (43, 9), (43, 10), (43, 11)]
def zrP : List (Nat × Nat) := [(44, 99), (45, 99), (46, 99), (47, 99), (43, 5), (43, 6)]
theorem xFr_wk {l l2 : List (Nat × Nat)} {σ τ : xS2} (h : xFr l2 σ τ) (hs : ∀ q ∈ l2, q ∈ l) : xFr l σ τ := xFr_tr xFr_rf h hs
theorem tw_P {l l2 : List (Nat × Nat)} {σ μ σ' μ' : xS2} (f : xFr l σ σ') (g : xFr l2 μ μ') (d : xDj [(2, 99)] l = true) (d2 : xDj zrP l2 = true) (h : xPl σ μ) : xPl σ' μ' := by
  intro w a hw ha
  have e1 : ∀ k, σ'.1 2 k = σ.1 2 k := fun k => (f 2 k (xDj_not d rfl)).1
  have e2 : μ'.1 (xMo w a).1 (xMo w a).2 = μ.1 (xMo w a).1 (xMo w a).2 := (g _ _ (xDj_not d2 (by rcases w6 hw with rfl | rfl | rfl | rfl | rfl | rfl <;> rfl))).1
  rw [e1, e2]
  exact h w a hw ha
theorem tw_C {l l2 : List (Nat × Nat)} {o : Nat} {σ μ σ' μ' : xS2} (f : xFr l σ σ') (g : xFr l2 μ μ') (d : xDj [(o, 99)] l = true) (d2 : xDj zrC l2 = true) (h : xCt o σ μ) : xCt o σ' μ' := by
  obtain ⟨c, s, d', hc, hs, hd, h0, h1, h2, m8, m9, m10, hl⟩ := h
  have e1 : ∀ k, σ'.1 o k = σ.1 o k ∧ σ'.2 o k = σ.2 o k := fun k => f o k (xDj_not d (by simp [xWn]))
  exact ⟨c, s, d', hc, hs, hd, (e1 0).1.trans h0, (e1 1).1.trans h1, (e1 2).1.trans h2, (g 43 8 (xDj_not d2 rfl)).1.trans m8, (g 43 9 (xDj_not d2 rfl)).1.trans m9, (g 43 10 (xDj_not d2 rfl)).1.trans m10, (e1 3).2.trans (hl.trans (g 43 11 (xDj_not d2 rfl)).2.symm)⟩
def zoC (o : Nat) : List (Nat × Nat) := [(12, 99), (8, 6), (o, 0), (o, 1), (o, 2), (o, 3)]
def zoR : List (Nat × Nat) := [(60, 99), (61, 99), (43, 10), (43, 11), (43, 8), (43, 9)]
theorem ord_own {o t : Nat} {σ μ : xS2} (ho : o = 3 ∨ o = 4) (hp : xPl σ μ) (hc : xCt o σ μ) (hL : xIL (xMx σ μ)) (ht : t < 60) : ∃ n b σ1 μ1 σ2 μ2, n ≤ 5 ∧ J_X2_orderFor o (nI t) σ = some (nI n, σ1) ∧ J_X9_orderOf (nI t) μ = some (nI n, μ1) ∧
    J_X0_live o (nI t) (nI n) σ1 = some (b, σ2) ∧ J_X9_goOwn (nI n) (nI t) μ1 = some (b, μ2) ∧ xPl σ2 μ2 ∧ xCt o σ2 μ2 ∧ xIL (xMx σ2 μ2) ∧ xFr (zoC o) σ σ2 ∧ xFr zoR μ μ2 ∧ xFr [(12, 99), (8, 6)] σ σ1 ∧ xFr [(60, 99), (61, 99)] μ μ1 := by
  obtain ⟨n, σ1, μ1, hn, d1, d2⟩ := order_eq (o := o) (t := t) (by omega) (by omega) hL hp hc ht
  have f1 := F_X2_orderFor d1
  have f2 := F_X9_orderOf d2
  have hp1 : xPl σ1 μ1 := tw_P f1 f2 (by decide) (by decide) hp
  have hc1 : xCt o σ1 μ1 := tw_C f1 f2 (by rcases ho with rfl | rfl <;> decide) (by decide) hc
  have hL1 : xIL (xMx σ1 μ1) := xMx_eq f1 f2 (by decide) (by decide) hL
  obtain ⟨b, σ2, μ2, d3, d4, d5, d6, f3, f4⟩ := own_eq (o := o) (n := n) (j := t) (by omega) ht hp1 hc1 hn
  refine ⟨n, b, σ1, μ1, σ2, μ2, hn, d1, d2, d3, d4, d6, d5, xMx_eq f3 f4 (by rcases ho with rfl | rfl <;> decide) (by decide) hL1, ?_, ?_, f1, f2⟩
  · exact xFr_tr (xFr_wk f1 (by rcases ho with rfl | rfl <;> decide)) f3 (by rcases ho with rfl | rfl <;> decide)
  · exact xFr_tr (xFr_wk f2 (by decide)) f4 (by decide)
theorem lawful_sim {t N : Nat} {a3 : Int32} (hN : t + N ≤ 60) : ∀ (n j f g : Nat) (σ μ : xS2), j + n = N → n < f → n < g → σ.1 0 12 = nI t → μ.1 43 7 = nI t → xPl σ μ → xCt 4 σ μ → xIL (xMx σ μ) →
    ∃ σ' μ', J_X8_lawful_47 f (nI N) a3 (nI j) σ = some (J_X8_thoughtOf a3 σ', σ') ∧ J_X9_lawful_41 g (nI N) a3 (nI j) μ = J_X9_tellThought a3 μ' ∧ xCt 4 σ' μ' ∧ xFr zoR μ μ' := by
  have hb : ∀ {x : Option (Int32 × xS2)}, (x.bind fun x7 => some (x7.1, x7.2)) = x := fun {x} => by cases x <;> rfl
  intro n
  induction n with
  | zero =>
    intro j f g σ μ h hf hg h12 h7 hp hc hL
    obtain ⟨f, rfl⟩ : ∃ z, f = z + 1 := ⟨f - 1, by omega⟩
    obtain ⟨g, rfl⟩ : ∃ z, g = z + 1 := ⟨g - 1, by omega⟩
    refine ⟨σ, μ, ?_, ?_, hc, xFr_rf⟩
    · rw [E_X8_lawful_47, if_pos (c_le (by omega) (by omega) (by omega))]
    · rw [E_X9_lawful_41, if_pos (c_le (by omega) (by omega) (by omega)), hb]
  | succ n ih =>
    intro j f g σ μ h hf hg h12 h7 hp hc hL
    obtain ⟨f, rfl⟩ : ∃ z, f = z + 1 := ⟨f - 1, by omega⟩
    obtain ⟨g, rfl⟩ : ∃ z, g = z + 1 := ⟨g - 1, by omega⟩
    obtain ⟨m, b, σ1, μ1, σ2, μ2, hm, d1, d2, d3, d4, hp2, hc2, hL2, f1, f2, f3, f4⟩ := ord_own (o := 4) (t := t + j) (Or.inr rfl) hp hc hL (by omega)
    obtain ⟨σ', μ', r1, r2, r3, r4⟩ := ih (j + 1) f g σ2 μ2 (by omega) (by omega) (by omega) ((f1 0 12 rfl).1.trans h12) ((f2 43 7 rfl).1.trans h7) hp2 hc2 hL2
    refine ⟨σ', μ', ?_, ?_, r3, xFr_tq f2 r4⟩
    · rw [E_X8_lawful_47, if_neg (c_nle (by omega) (by omega) (by omega)), h12, nI_add, d1, Option.bind_some]
      show (J_X0_live 4 (nI (t + j)) (nI m) σ1).bind _ = _
      rw [d3, Option.bind_some, nI_1]
      exact r1
    · rw [E_X9_lawful_41, if_neg (c_nle (by omega) (by omega) (by omega)), h7, nI_add, d2, Option.bind_some]
      show (J_X9_goOwn (nI m) (μ1.1 43 7 + nI j) μ1).bind _ = _
      rw [(f4 43 7 rfl).1, h7, nI_add, d4, Option.bind_some, nI_1]
      exact r2
theorem step_lawful (hbits : xBits) : xStep_lawful xIv := by
  intro a1 a2 σ hI
  obtain ⟨hP, hC, hT, hK, hU, hF, hL, hS, hW⟩ := id hI
  obtain ⟨t, ht, et⟩ := xRg_at (l := 60) hT.1.2
  by_cases q1 : xRg a1 0 60
  · obtain ⟨N, hN, rfl⟩ := xRg_at (l := 60) q1
    have hin : J_X9_in (nI N) 0 60 = true := X9_in_of (by rw [show (0 : Int32).toInt = 0 from rfl, show (60 : Int32).toInt = 60 from rfl]; exact q1)
    cases h3 : J_X9_in a2 0 3 with
    | false =>
      refine ⟨-1, σ, σ, ?_, ?_, hI⟩
      · unfold J_X8_lawful
        rw [if_neg (nI_pos (by omega)), if_neg (k_nlt (x := (60 : Int32)) 60 rfl (by decide) (by omega) hN), X8_oneOf4, h3, if_pos xb_f]
      · unfold J_X9_lawful
        rw [hin, if_neg xb_nt, h3, if_pos xb_f]
    | true =>
      have e60 : (60 : Int32) - nI t = nI (60 - t) := nI_sub (a := 60) ht (by decide)
      by_cases q2 : t + N ≤ 60
      · have hp0 : xPl (xBc σ) (xTh σ) := fun w a hw ha => by
          have e : (xTh σ).1 (xMo w a).1 (xMo w a).2 = σ.1 (xMo w a).1 (xMo w a).2 := by rcases w6 hw with rfl | rfl | rfl | rfl | rfl | rfl <;> rfl
          rw [e]
          exact xPl_of hP w a hw ha
        have fB : xFr [(4, 0), (4, 1), (4, 2), (4, 3)] σ (xBc σ) := xFr_yL (xFr_yI (xFr_yI (xFr_yI xFr_rf rfl) rfl) rfl) rfl
        have fT : ∀ τ, xFr [(43, 34), (43, 35), (43, 36), (43, 37)] τ (xTh τ) := fun τ => xFr_yL (xFr_yI (xFr_yI (xFr_yI xFr_rf rfl) rfl) rfl) rfl
        have hL0 : xIL (xMx σ σ) := xMx_of (l := []) xFr_rf (by decide) hL
        have c2 : nI N ≤ 60 - nI t := by rw [e60]; exact c_le (by omega) (by omega) (by omega)
        obtain ⟨τ, -, e1, -, -, -⟩ := lawful_sim (a3 := a2) q2 N 0 xFU xFU (xBc σ) (xTh σ) (by omega) (by show N < 2000; omega) (by show N < 2000; omega) et (hT.1.1.trans et) hp0 (xCt_4 hC rfl rfl rfl rfl) (xMx_eq fB (fT σ) (by decide) (by decide) hL0)
        have k1 : J_X8_lawful (nI N) a2 σ = some (J_X8_thoughtOf a2 τ, τ) := by
          unfold J_X8_lawful
          rw [if_neg (nI_pos (by omega)), if_neg (k_nlt (x := (60 : Int32)) 60 rfl (by decide) (by omega) hN), X8_oneOf4, h3, if_neg xb_nt, et, if_pos c2, X0_become43, Option.bind_some]
          exact e1
        have f1 := F_X8_lawful k1
        obtain ⟨τ2, μ', e2, e3, c3, g3⟩ := lawful_sim (a3 := a2) q2 N 0 xFU xFU (xBc σ) (xTh τ) (by omega) (by show N < 2000; omega) (by show N < 2000; omega) et ((f1 43 7 rfl).1.trans (hT.1.1.trans et))
          (tw_P (xFr_rf (l := [])) (fT τ) (by decide) (by decide) (tw_P (xFr_rf (l := [])) f1 (by decide) (by decide) (tw_P fB (xFr_rf (l := [])) (by decide) (by decide) (xPl_of hP))))
          (xCt_4 hC (f1 43 8 rfl).1 (f1 43 9 rfl).1 (f1 43 10 rfl).1 (f1 43 11 rfl).2)
          (xMx_eq (xFr_rf (l := [])) (fT τ) (by decide) (by decide) (xMx_eq fB f1 (by decide) (by decide) hL0))
        obtain ⟨-, rfl⟩ := xso2 (e2.symm.trans e1)
        have h37 : μ'.2 43 37 = τ2.2 3 3 := by
          have z1 : μ'.2 43 37 = τ2.2 43 11 := (g3 43 37 rfl).2
          rw [z1, (f1 43 11 rfl).2, (f1 3 3 rfl).2]
          exact hC.2.2.2
        have k2 : J_X9_lawful (nI N) a2 τ2 = some (J_X8_thoughtOf a2 τ2, xUn μ') := by
          unfold J_X9_lawful
          rw [hin, if_neg xb_nt, h3, if_neg xb_nt, (f1 43 7 rfl).1, hT.1.1, et, if_pos c2, X9_think_eq, Option.bind_some]
          exact e3.trans (tell_eq hbits c3 h37 (X9_rg 0 3 h3 rfl rfl))
        have f2 := F_X9_lawful k2
        have hCC : xIC (xUn μ') := by
          have hTT : xIC τ2 := xIC_eq (xFr_eq f1 (by decide)) hC
          have e3 : ∀ k, (xUn μ').1 3 k = τ2.1 3 k := fun k => (f2 3 k rfl).1
          have e3l : ∀ k, (xUn μ').2 3 k = τ2.2 3 k := fun k => (f2 3 k rfl).2
          have e8 : (xUn μ').1 43 8 = τ2.1 43 8 := (g3 43 34 rfl).1
          have e9 : (xUn μ').1 43 9 = τ2.1 43 9 := (g3 43 35 rfl).1
          have e10 : (xUn μ').1 43 10 = τ2.1 43 10 := (g3 43 36 rfl).1
          have e11 : (xUn μ').2 43 11 = τ2.2 43 11 := (g3 43 37 rfl).2
          simpa only [xIC, e3, e3l, e8, e9, e10, e11] using hTT
        exact ⟨_, τ2, xUn μ', k1, k2, xIP_f f1 f2 (by decide) (by decide) hP, hCC, xIT_f f1 f2 (by decide) (by decide) hT, xIK_f f1 f2 (by decide) (by decide) hK, xIU_f f1 f2 (by decide) (by decide) hU, xIF_f f1 f2 (by decide) (by decide) hF, xIL_f f1 f2 (by decide) (by decide) hL, xIS_f f1 f2 (by decide) (by decide) hS, xIW_f f1 f2 (by decide) (by decide) hW⟩
      · have c2 : ¬ nI N ≤ 60 - nI t := by rw [e60]; exact c_nle (by omega) (by omega) (by omega)
        refine ⟨-5, σ, σ, ?_, ?_, hI⟩
        · unfold J_X8_lawful
          rw [if_neg (nI_pos (by omega)), if_neg (k_nlt (x := (60 : Int32)) 60 rfl (by decide) (by omega) hN), X8_oneOf4, h3, if_neg xb_nt, et, if_neg c2]
        · unfold J_X9_lawful
          rw [hin, if_neg xb_nt, h3, if_neg xb_nt, hT.1.1, et, if_neg c2]
  · refine ⟨-1, σ, σ, ?_, ?_, hI⟩
    · unfold J_X8_lawful
      by_cases z : a1 < 0
      · rw [if_pos z]
      · rw [if_neg z, if_pos]
        rw [Int32.lt_iff_toInt_lt, show (0 : Int32).toInt = 0 from rfl] at z
        rw [Int32.lt_iff_toInt_lt, show (60 : Int32).toInt = 60 from rfl]
        unfold xRg at q1
        omega
    · unfold J_X9_lawful
      cases hh : J_X9_in a1 0 60 with
      | false => rw [if_pos xb_f]
      | true => exact absurd (X9_rg 0 60 hh rfl rfl) q1
