/-! day: the cart's own day. -/
theorem own_eq {o : Nat} {σ μ : xS2} {n j : Nat} (ho : o ≠ 2) (hj : j < 60) (hp : xPl σ μ) (hc : xCt o σ μ) (hn : n ≤ 5) : ∃ b σ' μ', J_X0_live o (nI j) (nI n) σ = some (b, σ') ∧ J_X9_goOwn (nI n) (nI j) μ = some (b, μ') ∧ xCt o σ' μ' ∧ xPl σ' μ' ∧ xFr [(o, 0), (o, 1), (o, 2), (o, 3)] σ σ' ∧ xFr zsC4 μ μ' := by
  obtain ⟨es, -⟩ := sun_at hp hj
  obtain ⟨ew, -⟩ := wind_at hp hj
  obtain ⟨b, σ1, μ1, d1, d2, d3⟩ := day_eq (n := n) (t := nI j) (u := σ.1 2 (72 + j)) (v := σ.1 2 (132 + j)) ho hp hc hn
  have f1 := F_X0_liveUnder d1
  refine ⟨b, σ1, μ1, ?_, ?_, d3, xPl_fr ho hp f1 (goDay_fr d2), f1, goDay_fr d2⟩
  · unfold J_X0_live
    rw [X3_sun hj, Option.bind_some, X3_wind hj, Option.bind_some, d1, Option.bind_some]
  · unfold J_X9_goOwn
    rw [c_xin hj (by decide), xgd_t, xgd_t, nI_c (by omega), es, ew, d2, Option.bind_some]
theorem xIC_of {ρ : xS2} (h : xCt 3 ρ ρ) : xIC ρ := by
  obtain ⟨c, s, d, hc, hs, hd, h0, h1, h2, m8, m9, m10, hl⟩ := h
  exact ⟨⟨m8.trans h0.symm, by rw [h0]; exact nI_rg (by omega) (by omega)⟩, ⟨m9.trans h1.symm, by rw [h1]; exact nI_rg (by omega) (by omega)⟩, ⟨m10.trans h2.symm, by rw [h2]; exact nI_rg (by omega) (by omega)⟩, hl.symm⟩
theorem nar_b (b : Bool) : vp_nar .boolean (xb b) = xb b := by cases b <;> decide
theorem xb_rg (b : Bool) : xRg (xb b) 0 1 := by cases b <;> exact ⟨by decide, by decide⟩
theorem step_day : xStep_day xIv := by
  intro a1 σ hI
  obtain ⟨hP, hC, hT, hK, hU, hF, hL, hS, hW⟩ := id hI
  by_cases q : xRg a1 0 5
  · obtain ⟨n, hn, rfl⟩ := xRg_at (l := 5) q
    obtain ⟨t, ht, et⟩ := xRg_at (l := 60) hT.1.2
    have hin : J_X9_in (nI n) 0 5 = true := X9_in_of (by rw [show (0 : Int32).toInt = 0 from rfl, show (5 : Int32).toInt = 5 from rfl]; exact q)
    by_cases z : t < 60
    · obtain ⟨b, σ1, -, d1, -, d3, -, g1, -⟩ := own_eq (o := 3) (n := n) (by decide) z (xPl_of hP) (xCt_3 hC) hn
      have e0 : σ1.1 0 12 = nI t := ((g1 0 12 rfl).1).trans et
      have k1 : J_X8_day (nI n) σ = some (xb b, yI (yI (yI σ1 6 t (nI n)) 7 t (xb b)) 0 12 (nI (t + 1))) := by
        unfold J_X8_day J_X8_live
        rw [if_neg (nI_pos (by omega)), if_pos (r_le (x := (5 : Int32)) 5 rfl (by decide) (by omega) hn), et, if_pos (r_lt (x := (60 : Int32)) 60 rfl (by decide) (by omega) z), if_pos (r_lt (x := (60 : Int32)) 60 rfl (by decide) (by omega) z), d1, Option.bind_some]
        show (xgd (xin (σ1.1 0 12) 60) (xgd (xin (σ1.1 0 12) 60) (some (b, yI (yI (yI σ1 6 (σ1.1 0 12).toNatClampNeg (nI n)) 7 (σ1.1 0 12).toNatClampNeg (vp_nar .boolean (xb b))) 0 12 (σ1.1 0 12 + 1))))).bind _ = _
        rw [e0, c_xin z (by decide), xgd_t, xgd_t, nI_c (by omega), nar_b, nI_1, Option.bind_some]
        cases b <;> rfl
      obtain ⟨τ, hτ⟩ : ∃ τ, τ = yI (yI (yI σ1 6 t (nI n)) 7 t (xb b)) 0 12 (nI (t + 1)) := ⟨_, rfl⟩
      rw [← hτ] at k1
      have f1 := F_X8_day k1
      have hp1 : xPl σ τ := fun w a hw ha => by
        rw [(f1 _ _ (by rcases w6 hw with rfl | rfl | rfl | rfl | rfl | rfl <;> rfl)).1]
        exact xPl_of hP w a hw ha
      have hc1 : xCt 3 σ τ := by
        obtain ⟨c, s, d, hc, hs, hd, h0, h1, h2, m8, m9, m10, hl⟩ := xCt_3 hC
        exact ⟨c, s, d, hc, hs, hd, h0, h1, h2, ((f1 43 8 rfl).1).trans m8, ((f1 43 9 rfl).1).trans m9, ((f1 43 10 rfl).1).trans m10, hl.trans ((f1 43 11 rfl).2).symm⟩
      obtain ⟨b2, σ2, μ1, d1', d2, d3', -, -, g2⟩ := own_eq (o := 3) (n := n) (by decide) z hp1 hc1 hn
      have eq := d1'.symm.trans d1
      obtain ⟨rfl, rfl⟩ : b2 = b ∧ σ2 = σ1 := by
        have := Option.some.inj eq
        exact ⟨congrArg Prod.fst this, congrArg Prod.snd this⟩
      have t7 : τ.1 43 7 = nI t := ((f1 43 7 rfl).1).trans (hT.1.1.trans et)
      have m7 : μ1.1 43 7 = nI t := ((g2 43 7 rfl).1).trans t7
      have k2 : J_X9_day (nI n) τ = some (xb b2, yI (yI (yI μ1 48 t (nI n)) 49 t (xb b2)) 43 7 (nI (t + 1))) := by
        unfold J_X9_day J_X9_lead
        rw [hin, if_neg xb_nt, t7, if_neg (fun zz => by have := (nI_eq (by omega) (by decide)).mp (zz.trans (show (60 : Int32) = nI 60 from rfl)); omega), d2, Option.bind_some]
        show (xgd (xin (μ1.1 43 7) 60) (if xb b2 = 0 then J_X9_lead_37 b2 (μ1.1 43 7) false (yI μ1 48 (μ1.1 43 7).toNatClampNeg (nI n)) else J_X9_lead_37 b2 (μ1.1 43 7) true (yI μ1 48 (μ1.1 43 7).toNatClampNeg (nI n)))).bind _ = _
        unfold J_X9_lead_37
        rw [show (yI μ1 48 (μ1.1 43 7).toNatClampNeg (nI n)).1 43 7 = nI t from m7, m7, c_xin z (by decide), xgd_t, xgd_t, xgd_t, nI_c (by omega), nI_1]
        cases b2 <;> rfl
      obtain ⟨ρ, hρ⟩ : ∃ ρ, ρ = yI (yI (yI μ1 48 t (nI n)) 49 t (xb b2)) 43 7 (nI (t + 1)) := ⟨_, rfl⟩
      rw [← hρ] at k2
      have f2 := F_X9_day k2
      refine ⟨xb b2, τ, ρ, k1, k2, xIP_f f1 f2 (by decide) (by decide) hP, ?_, ?_, xIK_f f1 f2 (by decide) (by decide) hK, xIU_f f1 f2 (by decide) (by decide) hU, xIF_f f1 f2 (by decide) (by decide) hF, xIL_f f1 f2 (by decide) (by decide) hL, xIS_f f1 f2 (by decide) (by decide) hS, xIW_f f1 f2 (by decide) (by decide) hW⟩
      · apply xIC_of
        obtain ⟨c, s, d, hc, hs, hd, h0, h1, h2, m8, m9, m10, hl⟩ := d3'
        have r3 : ∀ k, ρ.1 3 k = σ2.1 3 k := fun k => by
          rw [(f2 3 k rfl).1, hτ]; rfl
        have r3l : ∀ k, ρ.2 3 k = σ2.2 3 k := fun k => by
          rw [(f2 3 k rfl).2, hτ]; rfl
        exact ⟨c, s, d, hc, hs, hd, (r3 0).trans h0, (r3 1).trans h1, (r3 2).trans h2, by rw [hρ]; exact m8, by rw [hρ]; exact m9, by rw [hρ]; exact m10, by rw [r3l 3, hρ]; exact hl⟩
      · have r12 : ρ.1 0 12 = nI (t + 1) := by rw [(f2 0 12 rfl).1, hτ]; rfl
        have r7 : ρ.1 43 7 = nI (t + 1) := by rw [hρ]; rfl
        have a6 : ∀ k, ρ.1 6 k = if k = t then nI n else σ.1 6 k := fun k => by
          rw [(f2 6 k rfl).1, hτ]
          show (if k = t then nI n else σ2.1 6 k) = _
          rw [(g1 6 k rfl).1]
        have a7 : ∀ k, ρ.1 7 k = if k = t then xb b2 else σ.1 7 k := fun k => by
          rw [(f2 7 k rfl).1, hτ]
          show (if k = t then xb b2 else σ2.1 7 k) = _
          rw [(g1 7 k rfl).1]
        have a48 : ∀ k, ρ.1 48 k = if k = t then nI n else σ.1 48 k := fun k => by
          rw [hρ]
          show (if k = t then nI n else μ1.1 48 k) = _
          rw [(g2 48 k rfl).1, (f1 48 k rfl).1]
        have a49 : ∀ k, ρ.1 49 k = if k = t then xb b2 else σ.1 49 k := fun k => by
          rw [hρ]
          show (if k = t then xb b2 else μ1.1 49 k) = _
          rw [(g2 49 k rfl).1, (f1 49 k rfl).1]
        refine ⟨⟨r7.trans r12.symm, by rw [r12]; exact nI_rg (by omega) (by omega)⟩, fun d hd => ?_, fun d hd => ?_⟩
        · rw [a48, a6, hT.2.1 d hd]
        · rw [a49, a7, (hT.2.2 d hd).1]
          refine ⟨rfl, ?_⟩
          by_cases e : d = t
          · rw [if_pos e]; exact xb_rg _
          · rw [if_neg e]; exact (hT.2.2 d hd).2
    · obtain rfl : t = 60 := by omega
      refine ⟨-5, σ, σ, ?_, ?_, hI⟩
      · unfold J_X8_day
        rw [if_neg (nI_pos (by omega)), if_pos (r_le (x := (5 : Int32)) 5 rfl (by decide) (by omega) hn), et, if_neg (by decide)]
      · unfold J_X9_day
        rw [hin, if_neg xb_nt, hT.1.1, et, if_pos (by decide)]
  · refine ⟨-1, σ, σ, ?_, ?_, hI⟩
    · unfold J_X8_day
      by_cases z : a1 < 0
      · rw [if_pos z]
      · rw [if_neg z, if_neg]
        intro z2
        rw [Int32.lt_iff_toInt_lt, show (0 : Int32).toInt = 0 from rfl] at z
        rw [Int32.le_iff_toInt_le, show (5 : Int32).toInt = 5 from rfl] at z2
        exact q ⟨by omega, z2⟩
    · unfold J_X9_day
      cases hh : J_X9_in a1 0 5 with
      | false => rw [if_pos xb_ff]
      | true => exact absurd (X9_rg 0 5 hh rfl rfl) q
