/-! A thought of the cart: drawn. -/
def xLcg (z : Int32) : Int32 := (z * (1103515245 : Int32)) + (12345 : Int32)
theorem drawn_in {l2 l3 l7 : Int32} {k33 k37 : Int32 → Int32 → Int32 → Int32 → Int32 → Int32 → xS2 → Option (Int32 × xS2)} : ∀ (n j f g : Nat) (l4 l5 l6 : Int32) (l8 : Bool) (σ μ : xS2), j + n = 60 → n < f → n < g → xPl σ μ → xCt 4 σ μ →
    ∃ l4' l5' l6' σ' μ', J_X8_drawn_59 k33 f l2 l3 l4 l5 l6 l7 l8 (nI j) σ = k33 l2 l3 l4' l5' l6' (l7 + 1) σ' ∧ J_X9_drawn_52 k37 g l2 l3 l4 l5 l6 l7 l8 (nI j) μ = k37 l2 l3 l4' l5' l6' (l7 + 1) (xUn μ') ∧ xFr [(4, 0), (4, 1), (4, 2), (4, 3)] σ σ' ∧ xFr zsC4 μ μ' := by
  intro n
  induction n with
  | zero =>
    intro j f g l4 l5 l6 l8 σ μ h hf hg hp hc
    obtain ⟨f, rfl⟩ : ∃ z, f = z + 1 := ⟨f - 1, by omega⟩
    obtain ⟨g, rfl⟩ : ∃ z, g = z + 1 := ⟨g - 1, by omega⟩
    obtain rfl : j = 60 := by omega
    obtain ⟨c, s, d, hc', hs', hd', h0, h1, h2, m8, m9, m10, hl⟩ := hc
    cases l8 with
    | false =>
      refine ⟨l4, l5, l6 + nI s, σ, μ, ?_, ?_, xFr_rf, xFr_rf⟩
      · rw [E_X8_drawn_59, if_pos (by decide), if_pos (by decide)]
        unfold J_X8_drawn_157
        rw [h1]
      · rw [E_X9_drawn_52, if_pos (by decide), if_pos (by decide)]
        unfold J_X9_drawn_140
        rw [X9_unthink_eq, Option.bind_some, m9]
    | true =>
      refine ⟨l4, l5 + 1, l6 + nI s, σ, μ, ?_, ?_, xFr_rf, xFr_rf⟩
      · rw [E_X8_drawn_59, if_pos (by decide), if_neg (by decide)]
        unfold J_X8_drawn_157
        rw [h1]
      · rw [E_X9_drawn_52, if_pos (by decide), if_neg (by decide)]
        unfold J_X9_drawn_140
        rw [X9_unthink_eq, Option.bind_some, m9]
  | succ n ih =>
    intro j f g l4 l5 l6 l8 σ μ h hf hg hp hc
    obtain ⟨f, rfl⟩ : ∃ z, f = z + 1 := ⟨f - 1, by omega⟩
    obtain ⟨g, rfl⟩ : ∃ z, g = z + 1 := ⟨g - 1, by omega⟩
    obtain ⟨es, hs⟩ := sun_at hp (show j < 60 by omega)
    have eo : μ.1 43 6 = J_X3_odds σ := (hp 5 0 (by decide) (by decide)).1
    obtain ⟨v, hv⟩ : ∃ v : Int32, v = if J_X3_odds σ ≤ xrm (xus (xLcg l4) 8) 12 then 0 else 9 := ⟨_, rfl⟩
    obtain ⟨b, σ1, μ1, d1, d2, d3⟩ := day_eq (n := 0) (t := nI j) (u := σ.1 2 (72 + j)) (v := v) (by decide) hp hc (by omega)
    have f1 := F_X0_liveUnder d1
    have hp1 := xPl_fr (by decide) hp f1 (goDay_fr d2)
    obtain ⟨c', s', d', hc', hs', hd', h0, h1, h2, m8, m9, m10, hl⟩ := id d3
    have kc : J_X8_drawn_59 k33 (f + 1) l2 l3 l4 l5 l6 l7 l8 (nI j) σ = J_X8_drawn_59 k33 f l2 l3 (xLcg l4) l5 l6 l7 (l8 || decide (nI s' = 0)) (nI (j + 1)) σ1 := by
      have k102 : J_X8_drawn_102 k33 (J_X8_drawn_59 k33 f) l2 l3 (xLcg l4) l5 l6 l7 l8 (nI j) v σ = J_X8_drawn_59 k33 f l2 l3 (xLcg l4) l5 l6 l7 (l8 || decide (nI s' = 0)) (nI (j + 1)) σ1 := by
        unfold J_X8_drawn_102 J_X8_drawn_143
        rw [X3_sun (by omega), Option.bind_some]
        show (J_X0_liveUnder 4 (nI j) (nI 0) _ _ σ).bind _ = _
        rw [d1, Option.bind_some]
        show (if σ1.1 4 1 = 0 then _ else _) = _
        rw [h1, nI_1]
        by_cases z : nI s' = 0
        · rw [if_pos z, decide_eq_true z, Bool.or_true]
        · rw [if_neg z, decide_eq_false z, Bool.or_false]
      rw [← k102, E_X8_drawn_59, if_neg (k_nle (x := (60 : Int32)) 60 rfl (by decide) (by omega) (by omega)), hv]
      unfold xLcg
      split
      · rfl
      · rfl
    have km : J_X9_drawn_52 k37 (g + 1) l2 l3 l4 l5 l6 l7 l8 (nI j) μ = J_X9_drawn_52 k37 g l2 l3 (xLcg l4) l5 l6 l7 (l8 || decide (nI s' = 0)) (nI (j + 1)) μ1 := by
      have k103 : J_X9_drawn_103 k37 (J_X9_drawn_52 k37 g) l2 l3 (xLcg l4) l5 l6 l7 l8 (nI j) false (nI j) (σ.1 2 (72 + j)) v μ = J_X9_drawn_52 k37 g l2 l3 (xLcg l4) l5 l6 l7 (l8 || decide (nI s' = 0)) (nI (j + 1)) μ1 := by
        unfold J_X9_drawn_103 J_X9_drawn_119 J_X9_drawn_124
        show (J_X9_goDay (nI 0) _ _ _ μ).bind _ = _
        rw [d2, Option.bind_some]
        show (if xb l8 = 0 then (if μ1.1 43 9 = 0 then _ else _) else _) = _
        rw [m9, nI_1]
        cases l8 with
        | false =>
          rw [if_pos xb_ff]
          by_cases z : nI s' = 0
          · rw [if_pos z, decide_eq_true z, Bool.or_true]
          · rw [if_neg z, decide_eq_false z, Bool.or_false]
        | true => rw [if_neg xb_nt, Bool.true_or]
      rw [← k103, E_X9_drawn_52, if_neg (k_nle (x := (60 : Int32)) 60 rfl (by decide) (by omega) (by omega)), c_xin (by omega) (by decide), xgd_t, nI_c (by omega), es, eo, hv]
      unfold xLcg
      split
      · rfl
      · rfl
    obtain ⟨l4', l5', l6', σ', μ', r1, r2, r3, r4⟩ := ih (j + 1) f g (xLcg l4) l5 l6 (l8 || decide (nI s' = 0)) σ1 μ1 (by omega) (by omega) (by omega) hp1 d3
    exact ⟨l4', l5', l6', σ', μ', kc.trans r1, km.trans r2, xFr_tq f1 r3, xFr_tq (goDay_fr d2) r4⟩
theorem xCt_43 {σ μ : xS2} (h : xCt 3 σ μ) : xCt 4 (xBc σ) μ := by
  obtain ⟨c, s, d, hc, hs, hd, h0, h1, h2, m⟩ := h
  exact ⟨c, s, d, hc, hs, hd, h0, h1, h2, m⟩
/-- the reference's cart and its thought of it -/
def xSv (μ ρ : xS2) : Prop := (ρ.1 43 8 = μ.1 43 8 ∧ ρ.1 43 9 = μ.1 43 9 ∧ ρ.1 43 10 = μ.1 43 10 ∧ ρ.2 43 11 = μ.2 43 11) ∧ ρ.1 43 34 = μ.1 43 8 ∧ ρ.1 43 35 = μ.1 43 9 ∧ ρ.1 43 36 = μ.1 43 10 ∧ ρ.2 43 37 = μ.2 43 11
theorem drawn_out {l3 : Int32} {N t : Nat} {κ : xS2} (hN : N ≤ 30) (ht : t ≤ 60) : ∀ (n j f g : Nat) (l4 l5 l6 : Int32) (σ μ : xS2), j + n = N → n < f → n < g → xPl σ μ → xCt 3 σ μ → xSv κ μ → σ.1 0 12 = nI t → μ.1 43 7 = nI t →
    ∃ r σ' μ', J_X8_drawn_33 f (nI N) l3 l4 l5 l6 (nI j) σ = some (r, σ') ∧ J_X9_drawn_37 g (nI N) l3 l4 l5 l6 (nI j) μ = some (r, μ') ∧ xSv κ μ' := by
  intro n
  induction n with
  | zero =>
    intro j f g l4 l5 l6 σ μ h hf hg hp hc hv e12 e7
    obtain ⟨f, rfl⟩ : ∃ z, f = z + 1 := ⟨f - 1, by omega⟩
    obtain ⟨g, rfl⟩ : ∃ z, g = z + 1 := ⟨g - 1, by omega⟩
    by_cases z : l3 = 0
    · refine ⟨l5, σ, μ, ?_, ?_, hv⟩
      · rw [E_X8_drawn_33, if_pos (c_le (by omega) (by omega) (by omega)), if_pos z]
      · rw [E_X9_drawn_37, if_pos (c_le (by omega) (by omega) (by omega)), if_pos z]
    · refine ⟨l6, σ, μ, ?_, ?_, hv⟩
      · rw [E_X8_drawn_33, if_pos (c_le (by omega) (by omega) (by omega)), if_neg z]
      · rw [E_X9_drawn_37, if_pos (c_le (by omega) (by omega) (by omega)), if_neg z]
  | succ n ih =>
    intro j f g l4 l5 l6 σ μ h hf hg hp hc hv e12 e7
    obtain ⟨f, rfl⟩ : ∃ z, f = z + 1 := ⟨f - 1, by omega⟩
    obtain ⟨g, rfl⟩ : ∃ z, g = z + 1 := ⟨g - 1, by omega⟩
    have hp0 : xPl (xBc σ) μ := hp
    obtain ⟨l4', l5', l6', σ', μ', r1, r2, r3, r4⟩ := drawn_in (l2 := nI N) (l3 := l3) (l7 := nI j) (k33 := J_X8_drawn_33 f) (k37 := J_X9_drawn_37 g) (60 - t) t xFU xFU l4 l5 l6 false (xBc σ) μ (by omega) (by show 60 - t < 2000; omega) (by show 60 - t < 2000; omega) hp0 (xCt_43 hc)
    obtain ⟨⟨v8, v9, v10, v11⟩, w8, w9, w10, w11⟩ := hv
    have b8 : (xUn μ').1 43 8 = μ.1 43 8 := ((r4 43 34 rfl).1).trans (w8.trans v8.symm)
    have b9 : (xUn μ').1 43 9 = μ.1 43 9 := ((r4 43 35 rfl).1).trans (w9.trans v9.symm)
    have b10 : (xUn μ').1 43 10 = μ.1 43 10 := ((r4 43 36 rfl).1).trans (w10.trans v10.symm)
    have b11 : (xUn μ').2 43 11 = μ.2 43 11 := ((r4 43 37 rfl).2).trans (w11.trans v11.symm)
    have hp2 : xPl σ' (xUn μ') := by
      have q := xPl_fr (o := 4) (by decide) hp0 r3 r4
      intro w a hw ha
      have e : (xUn μ').1 (xMo w a).1 (xMo w a).2 = μ'.1 (xMo w a).1 (xMo w a).2 := by rcases w6 hw with rfl | rfl | rfl | rfl | rfl | rfl <;> rfl
      rw [e]
      exact q w a hw ha
    have hc2 : xCt 3 σ' (xUn μ') := by
      obtain ⟨c, s, d, hc, hs, hd, h0, h1, h2, m8, m9, m10, hl⟩ := hc
      exact ⟨c, s, d, hc, hs, hd, ((r3 3 0 rfl).1).trans h0, ((r3 3 1 rfl).1).trans h1, ((r3 3 2 rfl).1).trans h2, b8.trans m8, b9.trans m9, b10.trans m10, ((r3 3 3 rfl).2).trans (hl.trans b11.symm)⟩
    obtain ⟨r, σ2, μ2, s1, s2, s3⟩ := ih (j + 1) f g l4' l5' l6' σ' (xUn μ') (by omega) (by omega) (by omega) hp2 hc2 ⟨⟨b8.trans v8, b9.trans v9, b10.trans v10, b11.trans v11⟩, ((r4 43 34 rfl).1).trans w8, ((r4 43 35 rfl).1).trans w9, ((r4 43 36 rfl).1).trans w10, ((r4 43 37 rfl).2).trans w11⟩ (((r3 0 12 rfl).1).trans e12) (((r4 43 7 rfl).1).trans e7)
    refine ⟨r, σ2, μ2, ?_, ?_, s3⟩
    · rw [E_X8_drawn_33, if_neg (c_nle (by omega) (by omega) (by omega)), X0_become43, Option.bind_some, show (xBc σ).1 0 12 = nI t from e12, r1, nI_1]
      exact s1
    · rw [E_X9_drawn_37, if_neg (c_nle (by omega) (by omega) (by omega)), e7, r2, nI_1]
      exact s2
theorem step_drawn : xStep_drawn xIv := by
  intro a1 a2 a3 σ hI
  obtain ⟨hP, hC, hT, hK, hU, hF, hL, hS, hW⟩ := id hI
  by_cases q : xRg a2 1 30 ∧ xRg a3 0 1
  · obtain ⟨q2, q3⟩ := q
    obtain ⟨N, hN, rfl⟩ := xRg_at (l := 30) (xRg_w q2 (by decide) (by decide))
    have hN1 : 1 ≤ N := by
      have := q2.1
      rw [nI_toInt (by omega)] at this
      omega
    obtain ⟨t, ht, et⟩ := xRg_at (l := 60) hT.1.2
    have h3 : J_X9_in a3 0 1 = true := X9_in_of (by rw [show (0 : Int32).toInt = 0 from rfl, show (1 : Int32).toInt = 1 from rfl]; exact q3)
    have k1 : J_X8_drawn a1 (nI N) a3 σ = J_X8_drawn_33 xFU (nI N) a3 a1 0 0 0 σ := by
      unfold J_X8_drawn
      rw [if_neg (r_nlt (x := (1 : Int32)) 1 rfl (by decide) (by omega) hN1), if_neg (k_nlt (x := (30 : Int32)) 30 rfl (by decide) (by omega) hN), X8_oneOf2, h3, if_neg xb_nt]
    have hp0 : xPl σ (xTh σ) := fun w a hw ha => by
      have e : (xTh σ).1 (xMo w a).1 (xMo w a).2 = σ.1 (xMo w a).1 (xMo w a).2 := by rcases w6 hw with rfl | rfl | rfl | rfl | rfl | rfl <;> rfl
      rw [e]
      exact xPl_of hP w a hw ha
    have hc0 : xCt 3 σ (xTh σ) := by
      obtain ⟨c, s, d, hc, hs, hd, h⟩ := xCt_3 hC
      exact ⟨c, s, d, hc, hs, hd, h⟩
    obtain ⟨r, τ, -, e1, -, -⟩ := drawn_out (l3 := a3) (κ := σ) hN ht N 0 xFU xFU a1 0 0 σ (xTh σ) (by omega) (by show N < 2000; omega) (by show N < 2000; omega) hp0 hc0 ⟨⟨rfl, rfl, rfl, rfl⟩, rfl, rfl, rfl, rfl⟩ et (hT.1.1.trans et)
    have e1' := k1.trans e1
    have f1 := F_X8_drawn e1'
    have hp1 : xPl σ (xTh τ) := fun w a hw ha => by
      have e : (xTh τ).1 (xMo w a).1 (xMo w a).2 = σ.1 (xMo w a).1 (xMo w a).2 := by
        have g1 : τ.1 (xMo w a).1 (xMo w a).2 = σ.1 (xMo w a).1 (xMo w a).2 := (f1 _ _ (by rcases w6 hw with rfl | rfl | rfl | rfl | rfl | rfl <;> rfl)).1
        rw [← g1]
        rcases w6 hw with rfl | rfl | rfl | rfl | rfl | rfl <;> rfl
      rw [e]
      exact xPl_of hP w a hw ha
    have hc1 : xCt 3 σ (xTh τ) := by
      obtain ⟨c, s, d, hc, hs, hd, h0, h1, h2, m8, m9, m10, hl⟩ := xCt_3 hC
      exact ⟨c, s, d, hc, hs, hd, h0, h1, h2, ((f1 43 8 rfl).1).trans m8, ((f1 43 9 rfl).1).trans m9, ((f1 43 10 rfl).1).trans m10, hl.trans ((f1 43 11 rfl).2).symm⟩
    obtain ⟨r2, τ2, ρ, e2, e3, v⟩ := drawn_out (l3 := a3) (κ := τ) hN ht N 0 xFU xFU a1 0 0 σ (xTh τ) (by omega) (by show N < 2000; omega) (by show N < 2000; omega) hp1 hc1 ⟨⟨rfl, rfl, rfl, rfl⟩, rfl, rfl, rfl, rfl⟩ et (((f1 43 7 rfl).1).trans (hT.1.1.trans et))
    have er : r2 = r := (xso2 (e2.symm.trans e1)).1
    subst er
    have k2 : J_X9_drawn a1 (nI N) a3 τ = some (r2, ρ) := by
      unfold J_X9_drawn
      rw [X9_in_of (a := nI N) (lo := 1) (hi := 30) (by rw [show (1 : Int32).toInt = 1 from rfl, show (30 : Int32).toInt = 30 from rfl]; exact q2), if_neg xb_nt, h3, if_neg xb_nt, X9_think_eq, Option.bind_some]
      exact e3
    have f2 := F_X9_drawn k2
    refine ⟨r2, τ, ρ, e1', k2, xIP_f f1 f2 (by decide) (by decide) hP, ?_, xIT_f f1 f2 (by decide) (by decide) hT, xIK_f f1 f2 (by decide) (by decide) hK, xIU_f f1 f2 (by decide) (by decide) hU, xIF_f f1 f2 (by decide) (by decide) hF, xIL_f f1 f2 (by decide) (by decide) hL, xIS_f f1 f2 (by decide) (by decide) hS, xIW_f f1 f2 (by decide) (by decide) hW⟩
    obtain ⟨⟨v8, v9, v10, v11⟩, -⟩ := v
    have hTC : xIC τ := xIC_eq (xFr_eq f1 (by decide)) hC
    have c3 : ∀ k, ρ.1 3 k = τ.1 3 k := fun k => (f2 3 k rfl).1
    have c3l : ∀ k, ρ.2 3 k = τ.2 3 k := fun k => (f2 3 k rfl).2
    simpa only [xIC, c3, c3l, v8, v9, v10, v11] using hTC
  · refine ⟨-1, σ, σ, ?_, ?_, hI⟩
    · unfold J_X8_drawn
      by_cases z : a2 < 1
      · rw [if_pos z]
      · rw [if_neg z]
        by_cases z2 : 30 < a2
        · rw [if_pos z2]
        · rw [if_neg z2, X8_oneOf2]
          cases hh : J_X9_in a3 0 1 with
          | false => rw [if_pos xb_ff]
          | true =>
            rw [Int32.lt_iff_toInt_lt, show (1 : Int32).toInt = 1 from rfl] at z
            rw [Int32.lt_iff_toInt_lt, show (30 : Int32).toInt = 30 from rfl] at z2
            exact absurd ⟨⟨by omega, by omega⟩, X9_rg 0 1 hh rfl rfl⟩ q
    · unfold J_X9_drawn
      cases h2 : J_X9_in a2 1 30 with
      | false => rw [if_pos xb_ff]
      | true =>
        rw [if_neg xb_nt]
        cases hh : J_X9_in a3 0 1 with
        | false => rw [if_pos xb_ff]
        | true => exact absurd ⟨X9_rg 1 30 h2 rfl rfl, X9_rg 0 1 hh rfl rfl⟩ q
