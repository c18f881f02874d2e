/-! act: moves, looks, tells. -/
theorem s_Ub {b K n A k d N a : Nat} (v : Nat) {x : Int32} {F H : xS2 → Option (Int32 × xS2)} (hA : A < 4) (hk : k < 8) (hd : d ≤ 20) (hv : xBo A k = v) (hv1 : 11 < v) (hv2 : v ≤ 81) (ha : xsv 5 (nI (xHo A k)) = nI a)
    (hF : ∀ σ, (G_X7_answerOfWheel (n + 1)).2.1 (nI v) (nI A) (nI a) x (nI d) σ = F σ) (h : xSim b K N F H) :
    xSim b K (N + 1) (fun σ => (G_X7_answerOfWheel (n + 2)).2.2.1 (nI A) (nI k) x (nI d) σ) (fun μ => (J_X9_ran (nI v) μ).bind H) := by
  refine s_U v hA hk hd hv hv1 hv2 (sim_eq h (fun c σ μ hc ht => ?_) (fun _ _ _ _ => rfl))
  rw [ha]
  exact hF σ
-- looks
theorem a_pL {b K n k d : Nat} {x : Int32} (hk : k < 8) (hb : xBo 2 k = 11) (hd : d ≤ 20) : xSim b K 1 (fun σ => (G_X7_answerOfWheel (n + 2)).2.2.1 (nI 2) (nI k) x (nI d) σ) (fun μ => J_X9_plainLooks (nI b) x μ) := by
  have h : xSim b K 0 (fun σ => (G_X7_answerOfWheel (n + 1)).1 (nI 11) x (nI d) σ) (fun μ => some (x ^^^ nI b, μ)) := fun c σ μ hc ht => ⟨x ^^^ nI b, σ, μ, c, by show some (x ^^^ σ.1 40 2, σ) = _; rw [ht.2.1], rfl, ht, by omega⟩
  exact s_W 11 (by decide) hk hd hb (by decide) (by decide) h
theorem a_cL {b K n d : Nat} {x : Int32} (hd : d + 1 ≤ 20) : xSim b K 2 (fun σ => (G_X7_answerOfWheel (n + 4)).2.2.1 (nI 2) (nI 3) x (nI d) σ) (fun μ => J_X9_cleanLooks (nI b) x μ) := by
  have h := sim_map (fun r => r * 3) (a_pL (b := b) (K := K) (n := n) (k := 2) (x := x) (by decide) (by decide) hd)
  exact s_Ub (n := n + 2) 40 (by decide) (by decide) (by omega) (by decide) (by decide) (by decide) (a := 2) (by decide) (fun σ => by
    show ((G_X7_answerOfWheel (n + 2)).2.2.1 (nI 2) (nI 2) x (nI d + 1) σ).bind (fun x => some (x.1 * 3, x.2)) = _
    rw [nI_1]) h
theorem a_L {b K n d : Nat} {x : Int32} (hK : K < 8) (hd : d + 3 ≤ 20) : xSim b K 6 (fun σ => (G_X7_answerOfWheel (n + 9)).2.2.1 (nI 2) (nI K) x (nI d) σ) (fun μ => J_X9_looking (nI b) x μ) := by
  have hT : ∀ c σ μ, xTr b K c σ μ → J_X9_looking (nI b) x μ = if nI K = 5 then (J_X9_ran 60 μ).bind fun x7 => (J_X9_cleanLooks (nI b) x x7).bind fun x8 => (J_X9_turning (nI b) 2 x8.2).bind fun x9 => some (x8.1 - x9.1, x9.2) else if nI K = 3 then J_X9_cleanLooks (nI b) x μ else J_X9_plainLooks (nI b) x μ := by
    intro c σ μ ht
    unfold J_X9_looking
    rw [c_xin ht.1 (by decide), xgd_t, xgd_t, nI_c (by have := ht.1; omega), ht.2.2.2.2.2.2.1, bid, bid]
  have plain : xBo 2 K = 11 → ¬ nI K = 5 → ¬ nI K = 3 → xSim b K 6 (fun σ => (G_X7_answerOfWheel (n + 9)).2.2.1 (nI 2) (nI K) x (nI d) σ) (fun μ => J_X9_looking (nI b) x μ) := by
    intro h1 h3 h4
    refine sim_H (sim_wk (a_pL (n := n + 7) hK h1 (by omega)) (by decide)) (fun c σ μ ht => ?_)
    rw [hT c σ μ ht, if_neg h3, if_neg h4]
  rcases (show K = 0 ∨ K = 1 ∨ K = 2 ∨ K = 3 ∨ K = 4 ∨ K = 5 ∨ K = 6 ∨ K = 7 by omega) with rfl | rfl | rfl | rfl | rfl | rfl | rfl | rfl
  · exact plain (by decide) (by decide) (by decide)
  · exact plain (by decide) (by decide) (by decide)
  · exact plain (by decide) (by decide) (by decide)
  · refine sim_H (sim_wk (a_cL (n := n + 5) (by omega)) (by decide)) (fun c σ μ ht => ?_)
    rw [hT c σ μ ht, if_neg (by decide), if_pos (by decide)]
  · exact plain (by decide) (by decide) (by decide)
  · have h := sim_two (fun r r2 => r - r2) (a_cL (b := b) (K := 5) (n := n + 3) (d := d + 1) (x := x) (by omega)) (s_own (A := 0) (d := d) (x := 2) (a_T (b := b) (K := 5) (n := n) (d := d + 1) (x := 2) (by decide) (by omega)))
    refine sim_H (s_Ub (n := n + 7) 60 (by decide) (by decide) (by omega) (by decide) (by decide) (by decide) (a := 3) (by decide) (fun σ => by
      show ((G_X7_answerOfWheel (n + 7)).2.2.1 (nI 2) (nI 3) x (nI d + 1) σ).bind (fun x => ((G_X7_answerOfWheel (n + 7)).2.2.2 (nI 0) 2 (nI d) x.2).bind fun y => some (x.1 - y.1, y.2)) = _
      rw [nI_1]) h) (fun c σ μ ht => ?_)
    rw [hT c σ μ ht, if_pos (by decide)]
    rfl
  · exact plain (by decide) (by decide) (by decide)
  · exact plain (by decide) (by decide) (by decide)
-- moves
theorem a_pM {b K n k d : Nat} {x : Int32} (hK : K < 8) (hk : k < 8) (hb : xBo 1 k = 10) (hd : d + 3 ≤ 20) : xSim b K 4 (fun σ => (G_X7_answerOfWheel (n + 9)).2.2.1 (nI 1) (nI k) x (nI d) σ) (fun μ => J_X9_plainMoves (nI b) x μ) := by
  have h := sim_map (fun r => r * 2) (s_own (A := 0) (d := d) (x := x) (a_T (b := b) (K := K) (n := n) (d := d + 1) (x := x) hK (by omega)))
  exact s_W (n := n + 8) 10 (by decide) hk (by omega) hb (by decide) (by decide) h
theorem a_dM {b K n d : Nat} {x : Int32} (hK : K < 8) (hd : d + 4 ≤ 20) : xSim b K 5 (fun σ => (G_X7_answerOfWheel (n + 11)).2.2.1 (nI 1) (nI 2) x (nI d) σ) (fun μ => J_X9_dustyMoves (nI b) x μ) := by
  have h := sim_map (fun r => -r) (a_pM (b := b) (K := K) (n := n) (k := 0) (d := d + 1) (x := x) hK (by decide) (by decide) (by omega))
  exact s_Ub (n := n + 9) 30 (by decide) (by decide) (by omega) (by decide) (by decide) (by decide) (a := 0) (by decide) (fun σ => by
    show ((G_X7_answerOfWheel (n + 9)).2.2.1 (nI 1) (nI 0) x (nI d + 1) σ).bind (fun x => some (-x.1, x.2)) = _
    rw [nI_1]) h
theorem a_M {b K n d : Nat} {x : Int32} (hK : K < 8) (hd : d + 5 ≤ 20) : xSim b K 11 (fun σ => (G_X7_answerOfWheel (n + 13)).2.2.1 (nI 1) (nI K) x (nI d) σ) (fun μ => J_X9_moving (nI b) x μ) := by
  have hT : ∀ c σ μ, xTr b K c σ μ → J_X9_moving (nI b) x μ = if (xb (J_X9_isUnder (nI K) 3)) = 0 then (if nI K = 7 then (J_X9_ran 80 μ).bind fun x10 => (J_X9_plainMoves (nI b) x x10).bind fun x11 => (J_X9_looking (nI b) 2 x11.2).bind fun x12 => some (x11.1 + x12.1, x12.2) else if nI K = 2 then J_X9_dustyMoves (nI b) x μ else J_X9_plainMoves (nI b) x μ) else (J_X9_ran 41 μ).bind fun x13 => J_X9_dustyMoves (nI b) (x + 1) x13 := by
    intro c σ μ ht
    unfold J_X9_moving
    rw [c_xin ht.1 (by decide), xgd_t, xgd_t, xgd_t, nI_c (by have := ht.1; omega), ht.2.2.2.2.2.2.1, bid, bid]
    simp only [bid]
  have plain : xBo 1 K = 10 → xb (J_X9_isUnder (nI K) 3) = 0 → ¬ nI K = 7 → ¬ nI K = 2 → xSim b K 11 (fun σ => (G_X7_answerOfWheel (n + 13)).2.2.1 (nI 1) (nI K) x (nI d) σ) (fun μ => J_X9_moving (nI b) x μ) := by
    intro h1 h2 h3 h4
    refine sim_H (sim_wk (a_pM (n := n + 4) hK hK h1 (by omega)) (by decide)) (fun c σ μ ht => ?_)
    rw [hT c σ μ ht, if_pos h2, if_neg h3, if_neg h4]
  have clean : xBo 1 K = 41 → xsv 5 (nI (xHo 1 K)) = nI 2 → ¬ xb (J_X9_isUnder (nI K) 3) = 0 → xSim b K 11 (fun σ => (G_X7_answerOfWheel (n + 13)).2.2.1 (nI 1) (nI K) x (nI d) σ) (fun μ => J_X9_moving (nI b) x μ) := by
    intro h1 h2 h3
    have h := a_dM (b := b) (K := K) (n := n) (d := d + 1) (x := x + 1) hK (by omega)
    refine sim_H (sim_wk (s_Ub (n := n + 11) 41 (by decide) hK (by omega) h1 (by decide) (by decide) (a := 2) h2 (fun σ => by
      show ((G_X7_answerOfWheel (n + 11)).2.2.1 (nI 1) (nI 2) (x + 1) (nI d + 1) σ).bind (fun x => some (x.1, x.2)) = _
      rw [nI_1, bid]) h) (by decide)) (fun c σ μ ht => ?_)
    rw [hT c σ μ ht, if_neg h3]
    rfl
  rcases (show K = 0 ∨ K = 1 ∨ K = 2 ∨ K = 3 ∨ K = 4 ∨ K = 5 ∨ K = 6 ∨ K = 7 by omega) with rfl | rfl | rfl | rfl | rfl | rfl | rfl | rfl
  · exact plain (by decide) (by decide) (by decide) (by decide)
  · exact plain (by decide) (by decide) (by decide) (by decide)
  · refine sim_H (sim_wk (a_dM (n := n + 2) (by decide) (by omega)) (by decide)) (fun c σ μ ht => ?_)
    rw [hT c σ μ ht, if_pos (by decide), if_neg (by decide), if_pos (by decide)]
  · exact clean (by decide) (by decide) (by decide)
  · exact plain (by decide) (by decide) (by decide) (by decide)
  · exact clean (by decide) (by decide) (by decide)
  · exact plain (by decide) (by decide) (by decide) (by decide)
  · have h := sim_two (fun r r2 => r + r2) (a_pM (b := b) (K := 7) (n := n + 2) (k := 6) (d := d + 1) (x := x) (by decide) (by decide) (by decide) (by omega)) (s_own (A := 2) (d := d) (x := 2) (a_L (b := b) (K := 7) (n := n + 1) (d := d + 1) (x := 2) (by decide) (by omega)))
    refine sim_H (s_Ub (n := n + 11) 80 (by decide) (by decide) (by omega) (by decide) (by decide) (by decide) (a := 6) (by decide) (fun σ => by
      show ((G_X7_answerOfWheel (n + 11)).2.2.1 (nI 1) (nI 6) x (nI d + 1) σ).bind (fun x => ((G_X7_answerOfWheel (n + 11)).2.2.2 (nI 2) 2 (nI d) x.2).bind fun y => some (x.1 + y.1, y.2)) = _
      rw [nI_1]) h) (fun c σ μ ht => ?_)
    rw [hT c σ μ ht, if_pos (by decide), if_pos (by decide)]
    rfl
-- tells
theorem a_pE {b K n k d : Nat} {x : Int32} (hK : K < 8) (hk : k < 8) (hb : xBo 3 k = 2) (hd : d + 6 ≤ 20) : xSim b K 18 (fun σ => (G_X7_answerOfWheel (n + 16)).2.2.1 (nI 3) (nI k) x (nI d) σ) (fun μ => J_X9_plainTells (nI b) x μ) := by
  have h := sim_two (fun r r2 => r - r2) (s_own (A := 1) (d := d) (x := x) (a_M (b := b) (K := K) (n := n) (d := d + 1) (x := x) hK (by omega))) (s_own (A := 2) (d := d) (x := 1) (a_L (b := b) (K := K) (n := n + 4) (d := d + 1) (x := 1) hK (by omega)))
  exact s_W (n := n + 15) 2 (by decide) hk (by omega) hb (by decide) (by decide) h
theorem a_E {b K n d : Nat} {x : Int32} (hK : K < 8) (hd : d + 7 ≤ 20) : xSim b K 19 (fun σ => (G_X7_answerOfWheel (n + 18)).2.2.1 (nI 3) (nI K) x (nI d) σ) (fun μ => J_X9_telling (nI b) x μ) := by
  have hT : ∀ c σ μ, xTr b K c σ μ → J_X9_telling (nI b) x μ = if nI K = 4 then (J_X9_ran 50 μ).bind fun x8 => (J_X9_plainTells (nI b) x x8).bind fun x9 => some (x9.1 ^^^ 5, x9.2) else if nI K = 5 then (J_X9_ran 61 μ).bind fun x6 => (J_X9_plainTells (nI b) x x6).bind fun x7 => some (x7.1 + 1, x7.2) else J_X9_plainTells (nI b) x μ := by
    intro c σ μ ht
    unfold J_X9_telling
    rw [c_xin ht.1 (by decide), xgd_t, xgd_t, nI_c (by have := ht.1; omega), ht.2.2.2.2.2.2.1, bid]
  have plain : xBo 3 K = 2 → ¬ nI K = 4 → ¬ nI K = 5 → xSim b K 19 (fun σ => (G_X7_answerOfWheel (n + 18)).2.2.1 (nI 3) (nI K) x (nI d) σ) (fun μ => J_X9_telling (nI b) x μ) := by
    intro h1 h3 h4
    refine sim_H (sim_wk (a_pE (n := n + 2) hK hK h1 (by omega)) (by decide)) (fun c σ μ ht => ?_)
    rw [hT c σ μ ht, if_neg h3, if_neg h4]
  rcases (show K = 0 ∨ K = 1 ∨ K = 2 ∨ K = 3 ∨ K = 4 ∨ K = 5 ∨ K = 6 ∨ K = 7 by omega) with rfl | rfl | rfl | rfl | rfl | rfl | rfl | rfl
  · exact plain (by decide) (by decide) (by decide)
  · exact plain (by decide) (by decide) (by decide)
  · exact plain (by decide) (by decide) (by decide)
  · exact plain (by decide) (by decide) (by decide)
  · have h := sim_map (fun r => r ^^^ 5) (a_pE (b := b) (K := 4) (n := n) (k := 1) (d := d + 1) (x := x) (by decide) (by decide) (by decide) (by omega))
    refine sim_H (s_Ub (n := n + 16) 50 (by decide) (by decide) (by omega) (by decide) (by decide) (by decide) (a := 1) (by decide) (fun σ => by
      show ((G_X7_answerOfWheel (n + 16)).2.2.1 (nI 3) (nI 1) x (nI d + 1) σ).bind (fun x => some (x.1 ^^^ 5, x.2)) = _
      rw [nI_1]) h) (fun c σ μ ht => ?_)
    rw [hT c σ μ ht, if_pos (by decide)]
    rfl
  · have h := sim_map (fun r => r + 1) (a_pE (b := b) (K := 5) (n := n) (k := 3) (d := d + 1) (x := x) (by decide) (by decide) (by decide) (by omega))
    refine sim_H (s_Ub (n := n + 16) 61 (by decide) (by decide) (by omega) (by decide) (by decide) (by decide) (a := 3) (by decide) (fun σ => by
      show ((G_X7_answerOfWheel (n + 16)).2.2.1 (nI 3) (nI 3) x (nI d + 1) σ).bind (fun x => some (x.1 + 1, x.2)) = _
      rw [nI_1]) h) (fun c σ μ ht => ?_)
    rw [hT c σ μ ht, if_neg (by decide), if_pos (by decide)]
    rfl
  · exact plain (by decide) (by decide) (by decide)
  · exact plain (by decide) (by decide) (by decide)
theorem xIW_act {b K c : Nat} {σ τ ρ : xS2} {l1 l2 : List (Nat × Nat)} (hW : xIW σ) (f1 : xFr [(40, 2), (40, 4), (42, 99)] σ τ) (f2 : xFr [(43, 54), (69, 99)] τ ρ) (h : xTr b K c τ ρ) (hc : c ≤ 1000) : xIW ρ := by
  obtain ⟨hb, h2, h3, h41, h4, h54, h68, h69⟩ := h
  obtain ⟨⟨w1, w2⟩, w3, -, -⟩ := hW
  have e3 : ρ.1 40 3 = σ.1 40 3 := ((f2 40 3 rfl).1).trans (f1 40 3 rfl).1
  have e52 : ρ.1 43 52 = σ.1 43 52 := ((f2 43 52 rfl).1).trans (f1 43 52 rfl).1
  have e41 : ∀ k, ρ.1 41 k = σ.1 41 k := fun k => ((f2 41 k rfl).1).trans (f1 41 k rfl).1
  have e68 : ∀ k, ρ.1 68 k = σ.1 68 k := fun k => ((f2 68 k rfl).1).trans (f1 68 k rfl).1
  have e4 : ρ.1 40 4 = nI c := ((f2 40 4 rfl).1).trans h4
  have e42 : ∀ k, ρ.1 42 k = τ.1 42 k := fun k => (f2 42 k rfl).1
  refine ⟨⟨by rw [e52, e3, w1], by rw [e3]; exact w2⟩, fun b hb hbn => ?_, ⟨by rw [h54, e4], by rw [e4]; exact nI_rg (by omega) (by omega)⟩, fun i hi hin => ?_⟩
  · rw [e3] at hbn
    rw [e41, e68]
    exact w3 b hb hbn
  · rw [e4, nI_toInt (by omega)] at hin
    rw [e42]
    exact h69 i hi (by omega)
theorem xIW_act0 {σ : xS2} (hW : xIW σ) : xIW (yI (yI σ 40 4 0) 43 54 0) := by
  obtain ⟨⟨w1, w2⟩, w3, -, -⟩ := hW
  exact ⟨⟨w1, w2⟩, w3, ⟨rfl, show (0 : Int) ≤ (0 : Int32).toInt by decide, show (0 : Int32).toInt ≤ (1000 : Int) by decide⟩, fun i hi hin => by
    have : (i : Int) < 0 := hin
    omega⟩
theorem step_act : xStep_act xIv := by
  intro a1 a2 a3 σ hI
  obtain ⟨hP, hC, hT, hK, hU, hF, hL, hS, hW⟩ := id hI
  have hbx : ∀ σ : xS2, J_X7_has a1 (yI σ 40 4 0) = J_X7_has a1 σ := fun σ => rfl
  have hbm : ∀ μ : xS2, J_X9_isBody a1 (yI μ 43 54 0) = J_X9_isBody a1 μ := fun μ => rfl
  have no : J_X8_act a1 a2 a3 σ = some (0, yI σ 40 4 0) → J_X9_act a1 a2 a3 (yI σ 40 4 0) = some (0, yI (yI σ 40 4 0) 43 54 0) → ∃ (r : Int32) (τ : xS2) (ρ : xS2), J_X8_act a1 a2 a3 σ = some (r, τ) ∧ J_X9_act a1 a2 a3 τ = some (r, ρ) ∧ xIv ρ := by
    intro k1 k2
    have f1 := F_X8_act k1
    have f2 := F_X9_act k2
    exact ⟨_, _, _, k1, k2, xIP_f f1 f2 (by decide) (by decide) hP, xIC_f f1 f2 (by decide) (by decide) hC, xIT_f f1 f2 (by decide) (by decide) hT, xIK_f f1 f2 (by decide) (by decide) hK, xIU_f f1 f2 (by decide) (by decide) hU, xIF_f f1 f2 (by decide) (by decide) hF, xIL_f f1 f2 (by decide) (by decide) hL, xIS_f f1 f2 (by decide) (by decide) hS, xIW_act0 hW⟩
  cases hb : J_X9_isBody a1 σ with
  | false =>
    refine no ?_ ?_
    · unfold J_X8_act J_X7_perform
      rw [hbx, has_isBody hW, hb, if_pos xb_f, Option.bind_some]
    · unfold J_X9_act
      rw [hbm, show J_X9_isBody a1 (yI σ 40 4 0) = J_X9_isBody a1 σ from rfl, hb, if_pos xb_f]
  | true =>
    by_cases q : xRg a2 0 3
    · have hin : J_X9_in a2 0 3 = true := X9_in_of (by rw [show (0 : Int32).toInt = 0 from rfl, show (3 : Int32).toInt = 3 from rfl]; exact q)
      obtain ⟨A, hA, rfl⟩ := xRg_at (l := 3) q
      obtain ⟨N, hN, eN⟩ := xRg_at (l := 50) hW.1.2
      have hbr : xRg a1 0 (N - 1 : Int) := by
        unfold J_X9_isBody at hb
        have := X9_in_t hb
        rw [hW.1.1, eN] at this
        have e1 : (nI N - 1).toInt = (N : Int) - 1 := by rw [Int32.toInt_sub, nI_toInt (by omega), show (1 : Int32).toInt = 1 from rfl, Int.bmod_eq_of_le (by omega) (by omega)]
        rw [e1] at this
        exact this
      obtain ⟨b, hb1, hb2, rfl⟩ := xRg_nat hbr
      have hbN : b < N := by omega
      obtain ⟨w68, wr⟩ := hW.2.1 b (by omega) (by rw [eN, nI_toInt (by omega)]; omega)
      obtain ⟨K, hK7, eK⟩ := xRg_at (l := 7) wr
      have t0 : ∀ τ : xS2, τ.1 68 b = σ.1 68 b → xTr b K 0 (yI (yI σ 40 4 0) 40 2 (nI b)) (yI τ 43 54 0) := fun τ e => ⟨by omega, rfl, ⟨N, hN, hbN, eN⟩, eK, rfl, rfl, e.trans (w68.trans eK), fun i _ hi => absurd hi (Nat.not_lt_zero i)⟩
      have hk0 := tr_kind (t0 σ rfl)
      have hk1 : J_X7_kindOf (nI b) (yI (yI σ 40 4 0) 40 2 (nI b)) = some (nI K) := hk0
      have kc : J_X8_act (nI b) (nI A) a3 σ = J_X7_begin (nI A) (nI K) a3 0 (yI (yI σ 40 4 0) 40 2 (nI b)) := by
        unfold J_X8_act J_X7_perform
        rw [hbx, has_isBody hW, hb, if_neg xb_nt, if_neg (nI_pos (by omega)), if_pos (show nI A < (4 : Int32) from k_lt (x := nI A) A rfl (by omega) (b := 4) (by decide) (by omega)), hk1, Option.bind_some, bid, bid]
      have km : ∀ τ : xS2, J_X9_isBody (nI b) τ = true → J_X9_act (nI b) (nI A) a3 τ = if nI A = 0 then J_X9_turning (nI b) a3 (yI τ 43 54 0) else if nI A = 1 then J_X9_moving (nI b) a3 (yI τ 43 54 0) else if nI A = 2 then J_X9_looking (nI b) a3 (yI τ 43 54 0) else J_X9_telling (nI b) a3 (yI τ 43 54 0) := by
        intro τ hb
        unfold J_X9_act
        rw [hbm, hb, if_neg xb_nt, hin, if_neg xb_nt, bid, bid, bid, bid]
      have main : ∀ H : xS2 → Option (Int32 × xS2), xSim b K 19 (fun σ => J_X7_begin (nI A) (nI K) a3 0 σ) H → (∀ τ : xS2, J_X9_isBody (nI b) τ = true → J_X9_act (nI b) (nI A) a3 τ = H (yI τ 43 54 0)) → ∃ (r : Int32) (τ : xS2) (ρ : xS2), J_X8_act (nI b) (nI A) a3 σ = some (r, τ) ∧ J_X9_act (nI b) (nI A) a3 τ = some (r, ρ) ∧ xIv ρ := by
        intro H hs hH
        obtain ⟨r, τ, -, -, e1, -, -, -⟩ := hs 0 _ _ (by decide) (t0 σ rfl)
        have k1 := kc.trans e1
        have f1 := F_X8_act k1
        obtain ⟨r2, τ2, ρ, c, e2, e3, e4, e5⟩ := hs 0 _ _ (by decide) (t0 τ (f1 68 b rfl).1)
        obtain ⟨rfl, rfl⟩ := xso2 (e2.symm.trans e1)
        have hbt : J_X9_isBody (nI b) τ2 = true := by
          unfold J_X9_isBody at hb ⊢
          rw [(f1 43 52 rfl).1]
          exact hb
        have k2 := (hH τ2 hbt).trans e3
        have f2 := F_X9_act k2
        exact ⟨_, _, _, k1, k2, xIP_f f1 f2 (by decide) (by decide) hP, xIC_f f1 f2 (by decide) (by decide) hC, xIT_f f1 f2 (by decide) (by decide) hT, xIK_f f1 f2 (by decide) (by decide) hK, xIU_f f1 f2 (by decide) (by decide) hU, xIF_f f1 f2 (by decide) (by decide) hF, xIL_f f1 f2 (by decide) (by decide) hL, xIS_f f1 f2 (by decide) (by decide) hS, xIW_act (l1 := []) (l2 := []) hW f1 f2 ⟨e4.1, ((f2 40 2 rfl).1).symm ▸ e4.2.1, e4.2.2.1, e4.2.2.2.1, e4.2.2.2.2.1, e4.2.2.2.2.2.1, e4.2.2.2.2.2.2.1, e4.2.2.2.2.2.2.2⟩ (by omega)⟩
      rcases (show A = 0 ∨ A = 1 ∨ A = 2 ∨ A = 3 by omega) with rfl | rfl | rfl | rfl
      · exact main _ (sim_wk (a_T (n := 94) (d := 0) (by omega) (by decide)) (by decide)) (fun τ h => by rw [km τ h, if_pos (by decide)])
      · exact main _ (sim_wk (a_M (n := 87) (d := 0) (by omega) (by decide)) (by decide)) (fun τ h => by rw [km τ h, if_neg (by decide), if_pos (by decide)])
      · exact main _ (sim_wk (a_L (n := 91) (d := 0) (by omega) (by decide)) (by decide)) (fun τ h => by rw [km τ h, if_neg (by decide), if_neg (by decide), if_pos (by decide)])
      · exact main _ (a_E (n := 82) (d := 0) (by omega) (by decide)) (fun τ h => by rw [km τ h, if_neg (by decide), if_neg (by decide), if_neg (by decide)])
    · refine no ?_ ?_
      · unfold J_X8_act J_X7_perform
        rw [hbx, has_isBody hW, hb, if_neg xb_nt]
        by_cases z : a2 < 0
        · rw [if_pos z, Option.bind_some]
        · rw [if_neg z, if_neg, Option.bind_some]
          intro z2
          rw [Int32.lt_iff_toInt_lt, show (0 : Int32).toInt = 0 from rfl] at z
          rw [Int32.lt_iff_toInt_lt, show (4 : Int32).toInt = 4 from rfl] at z2
          exact q ⟨by omega, by omega⟩
      · unfold J_X9_act
        rw [hbm, show J_X9_isBody a1 (yI σ 40 4 0) = J_X9_isBody a1 σ from rfl, hb, if_neg xb_nt]
        cases hh : J_X9_in a2 0 3 with
        | false => rw [if_pos xb_f]
        | true => exact absurd (X9_rg 0 3 hh rfl rfl) q
