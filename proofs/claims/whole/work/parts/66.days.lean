/-! days. -/
def xDs (t : Nat) (σ μ : xS2) : Prop := σ.1 0 12 = nI t ∧ μ.1 43 7 = nI t ∧ xPl σ μ ∧ xCt 3 σ μ ∧ xIL (xMx σ μ) ∧ (∀ d, d < 60 → μ.1 48 d = σ.1 6 d) ∧ ∀ d, d < 60 → μ.1 49 d = σ.1 7 d ∧ xRg (σ.1 7 d) 0 1
theorem days_one {t : Nat} {σ μ : xS2} (h : xDs t σ μ) (ht : t < 60) : ∃ n b σ1 μ1 σ2 μ2, J_X2_orderFor 3 (nI t) σ = some (nI n, σ1) ∧ J_X8_live (nI n) σ1 = some (b, σ2) ∧ J_X9_orderOf (nI t) μ = some (nI n, μ1) ∧ J_X9_lead (nI n) μ1 = some (xb b, μ2) ∧ xDs (t + 1) σ2 μ2 := by
  obtain ⟨h12, h7, hp, hc, hL, h48, h49⟩ := h
  obtain ⟨n, b, σ1, μ1, σa, μa, hn, d1, d2, d3, d4, hp2, hc2, hL2, f1, f2, f3, f4⟩ := ord_own (o := 3) (t := t) (Or.inl rfl) hp hc hL ht
  have e0 : σa.1 0 12 = nI t := (f1 0 12 rfl).1.trans h12
  have e01 : σ1.1 0 12 = nI t := (f3 0 12 rfl).1.trans h12
  have m7 : μa.1 43 7 = nI t := (f2 43 7 rfl).1.trans h7
  have m71 : μ1.1 43 7 = nI t := (f4 43 7 rfl).1.trans h7
  have fS : xFr [(6, 99), (7, 99), (0, 12)] σa (yI (yI (yI σa 6 t (nI n)) 7 t (xb b)) 0 12 (nI (t + 1))) := xFr_yI (xFr_yI (xFr_yI xFr_rf rfl) rfl) rfl
  have fM : xFr [(48, 99), (49, 99), (43, 7)] μa (yI (yI (yI μa 48 t (nI n)) 49 t (xb b)) 43 7 (nI (t + 1))) := xFr_yI (xFr_yI (xFr_yI xFr_rf rfl) rfl) rfl
  refine ⟨n, b, σ1, μ1, yI (yI (yI σa 6 t (nI n)) 7 t (xb b)) 0 12 (nI (t + 1)), yI (yI (yI μa 48 t (nI n)) 49 t (xb b)) 43 7 (nI (t + 1)), d1, ?_, d2, ?_, rfl, rfl, tw_P fS fM (by decide) (by decide) hp2, tw_C fS fM (by decide) (by decide) hc2, xMx_eq fS fM (by decide) (by decide) hL2, fun d hd => ?_, fun d hd => ?_⟩
  · unfold J_X8_live
    rw [e01, if_pos (r_lt (x := (60 : Int32)) 60 rfl (by decide) (by omega) ht), d3, Option.bind_some]
    show (xgd (xin (σa.1 0 12) 60) (xgd (xin (σa.1 0 12) 60) (some (b, yI (yI (yI σa 6 (σa.1 0 12).toNatClampNeg (nI n)) 7 (σa.1 0 12).toNatClampNeg (vp_nar .boolean (xb b))) 0 12 (σa.1 0 12 + 1))))) = _
    rw [e0, c_xin ht (by decide), xgd_t, xgd_t, nI_c (by omega), nar_b, nI_1]
  · unfold J_X9_lead
    rw [m71, d4, Option.bind_some]
    show (xgd (xin (μa.1 43 7) 60) (if xb b = 0 then J_X9_lead_37 b (μa.1 43 7) false (yI μa 48 (μa.1 43 7).toNatClampNeg (nI n)) else J_X9_lead_37 b (μa.1 43 7) true (yI μa 48 (μa.1 43 7).toNatClampNeg (nI n)))) = _
    unfold J_X9_lead_37
    rw [show (yI μa 48 (μa.1 43 7).toNatClampNeg (nI n)).1 43 7 = nI t from m7, m7, c_xin ht (by decide), xgd_t, xgd_t, xgd_t, nI_c (by omega), nI_1]
    cases b <;> rfl
  · show (if d = t then nI n else μa.1 48 d) = (if d = t then nI n else σa.1 6 d)
    rw [(f2 48 d rfl).1, (f1 6 d rfl).1, h48 d hd]
  · show (if d = t then xb b else μa.1 49 d) = (if d = t then xb b else σa.1 7 d) ∧ xRg (if d = t then xb b else σa.1 7 d) 0 1
    rw [(f2 49 d rfl).1, (f1 7 d rfl).1, (h49 d hd).1]
    refine ⟨rfl, ?_⟩
    by_cases e : d = t
    · rw [if_pos e]; exact xb_rg _
    · rw [if_neg e]; exact (h49 d hd).2
theorem days_sim {N : Nat} (hN : N ≤ 60) : ∀ (n j k t f g : Nat) (σ μ : xS2), j + n = N → t + n ≤ 60 → n < f → n < g → xDs t σ μ →
    ∃ r σ' μ', J_X8_days_31 f (nI N) (nI k) (nI j) σ = some (r, σ') ∧ J_X9_days_30 g (nI N) (nI k) (nI j) μ = some (r, μ') ∧ xDs (t + n) σ' μ' := by
  intro n
  induction n with
  | zero =>
    intro j k t f g σ μ h ht hf hg hd
    obtain ⟨f, rfl⟩ : ∃ z, f = z + 1 := ⟨f - 1, by omega⟩
    obtain ⟨g, rfl⟩ : ∃ z, g = z + 1 := ⟨g - 1, by omega⟩
    refine ⟨nI k, σ, μ, ?_, ?_, hd⟩
    · rw [E_X8_days_31, if_pos (c_le (by omega) (by omega) (by omega))]
    · rw [E_X9_days_30, if_pos (c_le (by omega) (by omega) (by omega))]
  | succ n ih =>
    intro j k t f g σ μ h ht hf hg hd
    obtain ⟨f, rfl⟩ : ∃ z, f = z + 1 := ⟨f - 1, by omega⟩
    obtain ⟨g, rfl⟩ : ∃ z, g = z + 1 := ⟨g - 1, by omega⟩
    obtain ⟨m, b, σ1, μ1, σ2, μ2, d1, d2, d3, d4, d5⟩ := days_one hd (by omega)
    have kc : J_X8_days_31 (f + 1) (nI N) (nI k) (nI j) σ = J_X8_days_31 f (nI N) (nI (if b then k + 1 else k)) (nI (j + 1)) σ2 := by
      rw [E_X8_days_31, if_neg (c_nle (by omega) (by omega) (by omega)), hd.1, d1, Option.bind_some]
      show (J_X8_live (nI m) σ1).bind _ = _
      rw [d2, Option.bind_some]
      unfold J_X8_days_65
      rw [nI_1, nI_1]
      cases b <;> rfl
    have km : J_X9_days_30 (g + 1) (nI N) (nI k) (nI j) μ = J_X9_days_30 g (nI N) (nI (if b then k + 1 else k)) (nI (j + 1)) μ2 := by
      rw [E_X9_days_30, if_neg (c_nle (by omega) (by omega) (by omega)), hd.2.1, d3, Option.bind_some]
      show (J_X9_lead (nI m) μ1).bind _ = _
      rw [d4, Option.bind_some, nI_1]
      cases b with
      | false => show J_X9_days_30 g (nI N) (nI k + 0) (nI (j + 1)) μ2 = _; rw [Int32.add_zero]; rfl
      | true => show J_X9_days_30 g (nI N) (nI k + 1) (nI (j + 1)) μ2 = _; rw [nI_1]; rfl
    obtain ⟨r, σ', μ', r1, r2, r3⟩ := ih (j + 1) (if b then k + 1 else k) (t + 1) f g σ2 μ2 (by omega) (by omega) (by omega) (by omega) d5
    exact ⟨r, σ', μ', kc.trans r1, km.trans r2, by rw [show t + (n + 1) = t + 1 + n by omega]; exact r3⟩
theorem step_days : xStep_days xIv := by
  intro a1 σ hI
  obtain ⟨hP, hC, hT, hK, hU, hF, hL, hS, hW⟩ := id hI
  obtain ⟨t, ht, et⟩ := xRg_at (l := 60) hT.1.2
  by_cases q1 : xRg a1 1 60
  · obtain ⟨N, hN, rfl⟩ := xRg_at (l := 60) (xRg_w q1 (by decide) (Int.le_refl _))
    have hN1 : 1 ≤ N := by
      have := q1.1
      rw [nI_toInt (by omega)] at this
      omega
    have hin : J_X9_in (nI N) 1 60 = true := X9_in_of (by rw [show (1 : Int32).toInt = 1 from rfl, show (60 : Int32).toInt = 60 from rfl]; exact q1)
    have e60 : (60 : Int32) - nI t = nI (60 - t) := nI_sub (a := 60) ht (by decide)
    by_cases q2 : t + N ≤ 60
    · have hL0 : xIL (xMx σ σ) := xMx_of (l := []) xFr_rf (by decide) hL
      have c2 : nI N ≤ 60 - nI t := by rw [e60]; exact c_le (by omega) (by omega) (by omega)
      have s0 : xDs t σ σ := ⟨et, hT.1.1.trans et, xPl_of hP, xCt_3 hC, hL0, hT.2.1, hT.2.2⟩
      obtain ⟨r, τ, -, e1, -, -⟩ := days_sim hN N 0 0 t xFU xFU σ σ (by omega) (by omega) (by show N < 2000; omega) (by show N < 2000; omega) s0
      have k1 : J_X8_days (nI N) σ = some (r, τ) := by
        unfold J_X8_days
        rw [if_neg (show ¬ nI N < (1 : Int32) from k_nlt (x := nI N) N rfl (by omega) (b := 1) (by decide) hN1), if_pos (r_le (x := (60 : Int32)) 60 rfl (by decide) (by omega) hN), et, if_pos c2]
        exact e1
      have f1 := F_X8_days k1
      have s1 : xDs t σ τ := ⟨et, (f1 43 7 rfl).1.trans (hT.1.1.trans et), tw_P (xFr_rf (l := [])) f1 (by decide) (by decide) (xPl_of hP), tw_C (xFr_rf (l := [])) f1 (by decide) (by decide) (xCt_3 hC), xMx_eq (xFr_rf (l := [])) f1 (by decide) (by decide) hL0,
        fun d hd => (f1 48 d rfl).1.trans (hT.2.1 d hd), fun d hd => ⟨(f1 49 d rfl).1.trans (hT.2.2 d hd).1, (hT.2.2 d hd).2⟩⟩
      obtain ⟨r2, τ2, ρ, e2, e3, s2⟩ := days_sim hN N 0 0 t xFU xFU σ τ (by omega) (by omega) (by show N < 2000; omega) (by show N < 2000; omega) s1
      obtain ⟨rfl, rfl⟩ := xso2 (e2.symm.trans e1)
      have k2 : J_X9_days (nI N) τ2 = some (r2, ρ) := by
        unfold J_X9_days
        rw [hin, if_neg xb_nt, (f1 43 7 rfl).1, hT.1.1, et, nI_add, if_pos (r_le (x := (60 : Int32)) 60 rfl (by decide) (by omega) q2)]
        exact e3
      have f2 := F_X9_days k2
      obtain ⟨r12, r7, -, c3, -, r48, r49⟩ := s2
      refine ⟨r2, τ2, ρ, k1, k2, xIP_f f1 f2 (by decide) (by decide) hP, xIC_of (tw_C f2 (xFr_rf (l := [])) (by decide) (by decide) c3), ?_, xIK_f f1 f2 (by decide) (by decide) hK, xIU_f f1 f2 (by decide) (by decide) hU, xIF_f f1 f2 (by decide) (by decide) hF, xIL_f f1 f2 (by decide) (by decide) hL, xIS_f f1 f2 (by decide) (by decide) hS, xIW_f f1 f2 (by decide) (by decide) hW⟩
      refine ⟨⟨?_, ?_⟩, fun d hd => ?_, fun d hd => ?_⟩
      · rw [r7, (f2 0 12 rfl).1, r12]
      · rw [(f2 0 12 rfl).1, r12]; exact nI_rg (by omega) (by omega)
      · rw [r48 d hd, (f2 6 d rfl).1]
      · rw [(r49 d hd).1, (f2 7 d rfl).1]; exact ⟨rfl, (r49 d hd).2⟩
    · have c2 : ¬ nI N ≤ 60 - nI t := by rw [e60]; exact c_nle (by omega) (by omega) (by omega)
      refine ⟨-5, σ, σ, ?_, ?_, hI⟩
      · unfold J_X8_days
        rw [if_neg (show ¬ nI N < (1 : Int32) from k_nlt (x := nI N) N rfl (by omega) (b := 1) (by decide) hN1), if_pos (r_le (x := (60 : Int32)) 60 rfl (by decide) (by omega) hN), et, if_neg c2]
      · unfold J_X9_days
        rw [hin, if_neg xb_nt, hT.1.1, et, nI_add, if_neg (r_nle (x := (60 : Int32)) 60 rfl (by decide) (by omega) (by omega))]
  · refine ⟨-1, σ, σ, ?_, ?_, hI⟩
    · unfold J_X8_days
      by_cases z : a1 < 1
      · rw [if_pos z]
      · rw [if_neg z, if_neg]
        intro z2
        rw [Int32.lt_iff_toInt_lt, show (1 : Int32).toInt = 1 from rfl] at z
        rw [Int32.le_iff_toInt_le, show (60 : Int32).toInt = 60 from rfl] at z2
        exact q1 ⟨by omega, z2⟩
    · unfold J_X9_days
      cases hh : J_X9_in a1 1 60 with
      | false => rw [if_pos xb_f]
      | true => exact absurd (X9_rg 1 60 hh rfl rfl) q1
