/-! A day, whole: liveUnder and goDay. -/
theorem day_tail {o : Nat} {σ σ1 μ1 μ : xS2} {t u v a : Int32} {b : Bool} (hp : ∀ k, k < 36 → σ1.1 2 k = μ1.1 44 k) (h : xCt o σ1 μ1) (e1 : J_X0_liveUnder o t a u v σ = J_X0_liveUnder_31 o t u v b σ1) (e2 : J_X9_obeys a μ = some (b, μ1)) :
    ∃ b σ' μ', J_X0_liveUnder o t a u v σ = some (b, σ') ∧ J_X9_goDay a t u v μ = some (b, μ') ∧ xCt o σ' μ' := by
  obtain ⟨c, s, d, hc, hs, hd, h0, h1, h2, m8, m9, m10, hl⟩ := h
  obtain ⟨τ, e, t0, t1, t2, t3⟩ := live31 (t := t) (u := u) (v := v) (b := b) hc h0
  obtain ⟨s', hs', es⟩ := xStoT_rg (nI s) u (nI d) (xHollow (σ1.1 2) c)
  obtain ⟨d', hd', ed⟩ := xDuT_rg (d := d) t v (xHollow (σ1.1 2) c) hd
  refine ⟨b, τ, yI (yI μ1 43 9 (nI s')) 43 10 (nI d'), e1.trans e, ?_, c, s', d', hc, hs', hd', t0, by rw [t1, h1, h2, es], by rw [t2, h2, ed], by simp [yI_1, m8], by simp [yI_1], by simp [yI_1], by rw [t3, hl]; rfl⟩
  unfold J_X9_goDay
  rw [e2, Option.bind_some]
  show (J_X9_isHollow (μ1.1 43 8) μ1).bind _ = _
  rw [m8, X9_isHollow hc, Option.bind_some, ← xHollow_eq hc hp]
  show some (b, yI (yI μ1 43 9 (J_X9_storeThen (μ1.1 43 9) u (μ1.1 43 10) (xHollow (σ1.1 2) c))) 43 10 (J_X9_dustThen (μ1.1 43 10) t v (xHollow (σ1.1 2) c))) = _
  rw [m9, m10, X9_storeThen_eq, X9_dustThen_eq _ _ _ hd, es, ed]
theorem price_rg : ∀ W, W < 7 → ∀ a, a < 10 → ∀ b, b < 10 → xRg (xPrice (nI W) (nI a) (nI b)) 0 60 := by
  have h : ∀ W, W < 7 → ∀ a, a < 10 → ∀ b, b < 10 → 0 ≤ (xPrice (nI W) (nI a) (nI b)).toInt ∧ (xPrice (nI W) (nI a) (nI b)).toInt ≤ 60 := by decide +kernel
  exact h
theorem xRg_at {x : Int32} {l : Nat} (h : xRg x 0 l) : ∃ n : Nat, n ≤ l ∧ x = nI n := by
  obtain ⟨n, h1, h2, h3⟩ := xRg_nat h
  exact ⟨n, by omega, h3⟩
theorem beside_none (a b : Int32) : ¬ (0 : Int32) ≤ -1 ∧ (-1 : Int32) < 0 := by decide
theorem day_eq {o : Nat} {σ μ : xS2} {n : Nat} {t u v : Int32} (ho : o ≠ 2) (hp : xPl σ μ) (h : xCt o σ μ) (hn : n ≤ 5) : ∃ b σ' μ', J_X0_liveUnder o t (nI n) u v σ = some (b, σ') ∧ J_X9_goDay (nI n) t u v μ = some (b, μ') ∧ xCt o σ' μ' := by
  have hp44 : ∀ k, k < 36 → σ.1 2 k = μ.1 44 k := fun k hk => by
    have := (hp 0 k (by decide) hk).1
    rw [show xBg 0 = 0 from rfl, Nat.zero_add] at this
    exact this.symm
  have hst : ∀ k, k < 36 → μ.1 45 k = σ.1 2 (36 + k) ∧ xRg (σ.1 2 (36 + k)) 0 1 := fun k hk => hp 1 k (by decide) hk
  have hodd : μ.1 43 5 = σ.1 2 192 ∧ xRg (σ.1 2 192) 1 6 := hp 4 0 (by decide) (by decide)
  have hrg : ∀ k, k < 36 → xRg (σ.1 2 k) 0 9 := fun k hk => by
    have := (hp 0 k (by decide) hk).2
    rw [show xBg 0 = 0 from rfl, Nat.zero_add] at this
    exact this
  obtain ⟨c, s, d, hc, hs, hd, h0, h1, h2, m8, m9, m10, hl⟩ := id h
  rcases (show n = 0 ∨ n = 5 ∨ (0 < n ∧ n < 5) by omega) with rfl | rfl | ⟨n0, n5⟩
  · refine day_tail (b := true) (σ1 := σ) (μ1 := μ) hp44 h ?_ ?_
    · unfold J_X0_liveUnder
      rw [if_neg (by decide), if_pos (by decide)]
      rfl
    · unfold J_X9_obeys
      rw [if_pos (by decide)]
  · have el : J_X0_liveUnder o t (nI 5) u v σ = (J_X0_lookAround o σ).bind fun x10 => J_X0_liveUnder_31 o t u v x10.1 x10.2 := by
      unfold J_X0_liveUnder
      rw [if_pos (by decide)]
    have er : J_X9_obeys (nI 5) μ = if μ.1 45 c = 0 then some (false, μ) else if xb ((μ.2 43 11).toBitVec.getLsbD c) = 0 then (if 2 ≤ nI s then some (true, yL (yI μ 43 9 (nI s - 2)) 43 11 (μ.2 43 11 ||| xls 1 (nI c))) else some (false, μ)) else some (false, μ) := by
      unfold J_X9_obeys
      rw [if_neg (by decide), if_pos (by decide), m8, c_xin hc (by decide), xgd_t, nI_c (by omega), X9_looked hc, m9]
    obtain ⟨k, hk, ek⟩ := xRg_at (l := 1) (hst c hc).2
    have elk : J_X0_lookAround o σ = if nI s < 2 then some (false, σ) else if xb (decide (nI k = 1)) = 0 then some (false, σ) else if xb ((μ.2 43 11).toBitVec.getLsbD c) = 0 then some (true, yL (yI σ o 1 (nI s - 2)) o 3 (μ.2 43 11 ||| xls 1 (nI c))) else some (false, σ) := by
      unfold J_X0_lookAround J_X0_isOnNewStone
      rw [h1, h0, X3_isStone hc, ek, Option.bind_some, X0_looked hc, hl]
      by_cases z1 : nI s < 2
      · rw [if_pos z1, if_pos z1]
      · rw [if_neg z1, if_neg z1]
        by_cases z2 : xb (decide (nI k = 1)) = 0
        · rw [if_pos z2, if_pos z2]; rfl
        · rw [if_neg z2, if_neg z2]
          by_cases z3 : xb ((μ.2 43 11).toBitVec.getLsbD c) = 0
          · rw [if_pos z3, if_pos z3, Option.bind_some, if_neg xb_nt, yI_1, if_pos rfl, if_neg (by decide), h0]
          · rw [if_neg z3, if_neg z3]; rfl
    rw [(hst c hc).1, ek] at er
    by_cases z1 : nI s < 2
    · refine day_tail (b := false) (σ1 := σ) (μ1 := μ) hp44 h ?_ ?_
      · rw [el, elk, if_pos z1]; rfl
      · rw [er, if_neg (c := (2 : Int32) ≤ nI s) (i_lt_nle z1)]
        split
        · rfl
        · split <;> rfl
    · by_cases z2 : k = 1
      · subst z2
        by_cases z3 : xb ((μ.2 43 11).toBitVec.getLsbD c) = 0
        · have hs2 : 2 ≤ s := by
            rcases Nat.lt_or_ge s 2 with q | q
            · exact absurd (c_lt (b := 2) (by omega) (by omega) q) z1
            · exact q
          have es2 : nI s - 2 = nI (s - 2) := nI_sub (b := 2) hs2 (by omega)
          refine day_tail (b := true) (σ1 := yL (yI σ o 1 (nI s - 2)) o 3 (μ.2 43 11 ||| xls 1 (nI c))) (μ1 := yL (yI μ 43 9 (nI s - 2)) 43 11 (μ.2 43 11 ||| xls 1 (nI c))) ?_ ⟨c, s - 2, d, hc, by omega, hd, ?_, ?_, ?_, ?_, ?_, ?_, ?_⟩ ?_ ?_
          · intro k hk
            show (yI σ o 1 (nI s - 2)).1 2 k = (yI μ 43 9 (nI s - 2)).1 44 k
            rw [yI_1, if_neg (fun z => ho z.symm), yI_1, if_neg (by decide)]
            exact hp44 k hk
          · simp [yL_1, yI_1, h0]
          · simp [yL_1, yI_1, es2]
          · simp [yL_1, yI_1, h2]
          · simp [yL_1, yI_1, m8]
          · simp [yL_1, yI_1, es2]
          · simp [yL_1, yI_1, m10]
          · simp [yL_2]
          · rw [el, elk, if_neg z1, if_neg (by decide), if_pos z3]; rfl
          · rw [er, if_neg (by decide), if_pos z3, if_pos (i_nlt z1)]
        · refine day_tail (b := false) (σ1 := σ) (μ1 := μ) hp44 h ?_ ?_
          · rw [el, elk, if_neg z1, if_neg (by decide), if_neg z3]; rfl
          · rw [er, if_neg (by decide), if_neg z3]
      · obtain rfl : k = 0 := by omega
        refine day_tail (b := false) (σ1 := σ) (μ1 := μ) hp44 h ?_ ?_
        · rw [el, elk, if_neg z1, if_pos (by decide)]; rfl
        · rw [er, if_pos (by decide)]
  · have el : J_X0_liveUnder o t (nI n) u v σ = (J_X0_move o (nI n) σ).bind fun x8 => if xb x8.1 = 0 then J_X0_liveUnder_31 o t u v false x8.2 else J_X0_liveUnder_26 o t u v x8.2 := by
      unfold J_X0_liveUnder
      rw [if_neg (r_ne (x := (5 : Int32)) 5 rfl (by decide) (by omega) (by omega)), if_neg (nI_ne0 n0 (by omega))]
    have em : J_X0_move o (nI n) σ = if xNb c n < 36 then (if xPrice (σ.1 2 192) (σ.1 2 c) (σ.1 2 (xNb c n)) ≤ nI s then some (true, yI (yI σ o 1 (nI s - xPrice (σ.1 2 192) (σ.1 2 c) (σ.1 2 (xNb c n)))) o 0 (nI (xNb c n))) else some (false, σ)) else some (false, σ) := by
      unfold J_X0_move
      rw [h0, h1, X3_nb c hc n n5 n0]
      unfold xNbI
      by_cases q : xNb c n < 36
      · rw [if_pos q, if_pos q, if_pos (nI_pos' (by omega)), X3_price hc q, Option.bind_some]
      · rw [if_neg q, if_neg q, if_neg (by decide)]
    have er : J_X9_obeys (nI n) μ = if xNb c n < 36 then (if xPrice (σ.1 2 192) (σ.1 2 c) (σ.1 2 (xNb c n)) ≤ nI s then some (true, yI (yI μ 43 9 (nI s - xPrice (σ.1 2 192) (σ.1 2 c) (σ.1 2 (xNb c n)))) 43 8 (nI (xNb c n))) else some (false, μ)) else some (false, μ) := by
      unfold J_X9_obeys
      rw [if_neg (nI_ne0 n0 (by omega)), if_neg (r_ne (x := (5 : Int32)) 5 rfl (by decide) (by omega) (by omega)), m8, m9, X9_nb c hc n n5 n0]
      unfold xNbI
      by_cases q : xNb c n < 36
      · rw [if_pos q, if_pos q, if_neg (nI_pos (by omega)), X9_costOf hc n5 n0 q, hodd.1, ← hp44 c hc, ← hp44 _ q, Option.bind_some, Option.bind_some]
      · rw [if_neg q, if_neg q, if_pos (by decide)]
    rw [em] at el
    by_cases q : xNb c n < 36
    · rw [if_pos q] at el er
      obtain ⟨W, hW, eW⟩ := xRg_at (l := 6) (xRg_w hodd.2 (by decide) (by decide))
      obtain ⟨ha, hha, eha⟩ := xRg_at (l := 9) (hrg c hc)
      obtain ⟨hb, hhb, ehb⟩ := xRg_at (l := 9) (hrg _ q)
      obtain ⟨p, hp60, ep⟩ := xRg_at (l := 60) (price_rg W (by omega) ha (by omega) hb (by omega))
      rw [eW, eha, ehb, ep] at el er
      by_cases z : nI p ≤ nI s
      · rw [if_pos z] at el er
        have hps : p ≤ s := (nI_leI (by omega) (by omega)).mp z
        rw [nI_sub hps (by omega)] at el er
        refine day_tail (b := true) (σ1 := yI (yI σ o 1 (nI (s - p))) o 0 (nI (xNb c n))) (μ1 := yI (yI μ 43 9 (nI (s - p))) 43 8 (nI (xNb c n))) ?_ ⟨xNb c n, s - p, d, q, by omega, hd, ?_, ?_, ?_, ?_, ?_, ?_, ?_⟩ ?_ er
        · intro k hk
          rw [yI_1, if_neg (fun z => ho z.symm), yI_1, if_neg (fun z => ho z.symm), yI_1, if_neg (by decide), yI_1, if_neg (by decide)]
          exact hp44 k hk
        · simp [yI_1]
        · simp [yI_1]
        · simp [yI_1, h2]
        · simp [yI_1]
        · simp [yI_1]
        · simp [yI_1, m10]
        · exact hl
        · rw [el]; rfl
      · rw [if_neg z] at el er
        refine day_tail (b := false) (σ1 := σ) (μ1 := μ) hp44 h ?_ er
        rw [el]; rfl
    · rw [if_neg q] at el er
      refine day_tail (b := false) (σ1 := σ) (μ1 := μ) hp44 h ?_ er
      rw [el]; rfl
