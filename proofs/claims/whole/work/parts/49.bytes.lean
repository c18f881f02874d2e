/-! Rows of bytes read by a thought of the cart. -/
theorem bytes_why {σ : xS2} {s : Nat} (hs : s < 6) (h : xSh1 σ s) : (J_X8_refusedBytes (nI s) σ = some 0 ∧ J_X9_rowFault (nI s) σ = some 0 ∧ ∀ i, i < 60 → -128 ≤ (σ.2 (29 + 2 * s) i).toInt ∧ (σ.2 (29 + 2 * s) i).toInt ≤ 127) ∨ ∃ r : Int32, ¬ r = 0 ∧ ¬ 0 ≤ r ∧ J_X8_refusedBytes (nI s) σ = some r ∧ ∀ τ : xS2, τ.1 70 s = σ.1 70 s → J_X9_rowFault (nI s) τ = some r := by
  unfold J_X8_refusedBytes J_X9_rowFault
  rw [c_xin hs (by decide), xgd_t, xgd_t, nI_c (by omega)]
  rcases sh_cases h with ⟨h1, h2⟩ | ⟨h1, h2, h3, b, hb, h4, h5, h6⟩ | ⟨h1, h2, h3, k, hk, h4, h5, h6⟩
  · refine Or.inr ⟨-11, by decide, by decide, by rw [h1, if_neg xb_nt], fun τ hτ => ?_⟩
    rw [hτ, h2, xgd_t, if_pos rfl]
  · refine Or.inr ⟨-12, by decide, by decide, ?_, fun τ hτ => ?_⟩
    · have hb : J_X5_isBytes (28 + 2 * s) σ = false := by
        unfold J_X5_isBytes
        rw [h3, if_neg (by decide)]
      rw [h1, if_pos xb_ff, hb, if_pos xb_ff]
    · rw [hτ, h4, xgd_t, xgd_t, if_neg (nI_nm1 (by omega)), if_neg]
      intro z
      have := nI_pos' (n := b) (by omega)
      rw [z] at this
      exact absurd this (by decide)
  · by_cases k0 : k = 0
    · subst k0
      refine Or.inl ⟨?_, ?_, h6 rfl⟩
      · have hb : J_X5_isBytes (28 + 2 * s) σ = true := by
          unfold J_X5_isBytes
          rw [h3, if_pos rfl, h4, if_pos (by decide)]
        rw [h1, if_pos xb_ff, hb, if_neg xb_nt]
      · rw [h5, xgd_t, xgd_t, if_neg (by decide), if_pos (by decide)]
    · refine Or.inr ⟨-12, by decide, by decide, ?_, fun τ hτ => ?_⟩
      · have hb : J_X5_isBytes (28 + 2 * s) σ = false := by
          unfold J_X5_isBytes
          rw [h3, if_pos rfl, h4, if_neg (fun z => k0 ((nI_eq (by omega) (by decide)).mp (z.trans nI_0.symm)))]
        rw [h1, if_pos xb_ff, hb, if_pos xb_ff]
      · rw [hτ, h5, xgd_t, xgd_t, if_neg (neg2 k hk).2.1, if_neg]
        intro z
        have := (neg2_eq k hk 0 (by decide)).mp (z.trans (by decide))
        exact k0 ((nI_eq (by omega) (by decide)).mp this)
def xRl (s t l : Nat) (σ μ : xS2) : Prop := xPl σ μ ∧ xCt 4 σ μ ∧ σ.1 0 12 = nI t ∧ μ.1 43 7 = nI t ∧ σ.1 (28 + 2 * s) 4 = nI l ∧ μ.1 71 s = nI l ∧ ∀ i, i < 60 → μ.2 72 (60 * s + i) = σ.2 (29 + 2 * s) i
theorem xRl_fr {s t l : Nat} {σ μ σ1 μ1 : xS2} (h : xRl s t l σ μ) (hp : xPl σ1 μ1) (hc : xCt 4 σ1 μ1) (f : xFr [(4, 0), (4, 1), (4, 2), (4, 3)] σ σ1) (g : xFr zsC4 μ μ1) : xRl s t l σ1 μ1 := by
  obtain ⟨-, -, h1, h2, h3, h4, h5⟩ := h
  have e : ∀ k, xWn [(4, 0), (4, 1), (4, 2), (4, 3)] (28 + 2 * s) k = false := fun k => by simp [xWn]; omega
  have e2 : ∀ k, xWn [(4, 0), (4, 1), (4, 2), (4, 3)] (29 + 2 * s) k = false := fun k => by simp [xWn]; omega
  refine ⟨hp, hc, ((f 0 12 rfl).1).trans h1, ((g 43 7 rfl).1).trans h2, ((f _ _ (e 4)).1).trans h3, ((g 71 s rfl).1).trans h4, fun i hi => ?_⟩
  rw [(g 72 _ rfl).2, (f _ _ (e2 i)).2]
  exact h5 i hi
theorem rl_own {s t l n j : Nat} {σ μ : xS2} (h : xRl s t l σ μ) (hj : t + j < 60) (hn : n ≤ 5) : ∃ b σ' μ', J_X0_live 4 (nI (t + j)) (nI n) σ = some (b, σ') ∧ J_X9_goOwn (nI n) (nI (t + j)) μ = some (b, μ') ∧ xRl s t l σ' μ' ∧ xFr zsC4 μ μ' := by
  obtain ⟨b, σ', μ', h1, h2, h3, h4, h5, h6⟩ := own_eq (o := 4) (n := n) (by decide) hj h.1 h.2.1 hn
  exact ⟨b, σ', μ', h1, h2, xRl_fr h h4 h3 h5 h6, h6⟩
theorem rl_at {s t l j : Nat} {σ μ : xS2} (h : xRl s t l σ μ) (hs : s < 6) (hl : l ≤ 60) (hj : j < l) : J_X5_at (28 + 2 * s) (nI j) σ = some (σ.2 (29 + 2 * s) j) ∧ J_X9_byteAt (nI s) (nI j) μ = some ((σ.2 (29 + 2 * s) j).toInt32) := by
  obtain ⟨-, -, h1, h2, h3, h4, h5⟩ := h
  refine ⟨?_, ?_⟩
  · unfold J_X5_at
    rw [hasPl h3 hl, nI_toInt (by omega), show (1 : Int32).toInt = 1 from rfl, decide_eq_true (by omega), if_neg xb_nt, c_xin (by omega) (by decide), xgd_t, nI_c (by omega), show 28 + 2 * s + 1 = 29 + 2 * s by omega]
  · unfold J_X9_byteAt
    rw [m60, c_xin (by omega) (by decide), xgd_t, nI_c (by omega), h5 j (by omega)]
theorem rl_order {s t l j : Nat} {σ μ : xS2} (h : xRl s t l σ μ) (hs : s < 6) (hl : l ≤ 60) (hj : j < l) : ∃ n, n ≤ 5 ∧ J_X8_orderOn (28 + 2 * s) (nI j) σ = some (nI n) ∧ J_X9_orderAt (nI s) (nI j) μ = some (nI n) := by
  obtain ⟨e1, e2⟩ := rl_at h hs hl hj
  obtain ⟨x, hx⟩ : ∃ x, x = (σ.2 (29 + 2 * s) j).toInt32 := ⟨_, rfl⟩
  by_cases q : xRg x 0 5
  · obtain ⟨n, hn, en⟩ := xRg_at (l := 5) q
    refine ⟨n, hn, ?_, ?_⟩
    · unfold J_X8_orderOn
      rw [e1, Option.bind_some, ← hx, en, if_neg (nI_pos (by omega)), if_pos (r_le (x := (5 : Int32)) 5 rfl (by decide) (by omega) hn)]
    · unfold J_X9_orderAt
      rw [e2, Option.bind_some, ← hx, X9_in_of (a := x) (lo := 0) (hi := 5) (by rw [show (0 : Int32).toInt = 0 from rfl, show (5 : Int32).toInt = 5 from rfl]; exact q), if_neg xb_nt, Option.bind_some, en]
  · refine ⟨0, by omega, ?_, ?_⟩
    · unfold J_X8_orderOn J_X8_orderOn_16
      rw [e1, Option.bind_some, ← hx]
      by_cases z : x < 0
      · rw [if_pos z]; rfl
      · rw [if_neg z, if_neg]
        · rfl
        · intro z2
          rw [Int32.lt_iff_toInt_lt, show (0 : Int32).toInt = 0 from rfl] at z
          rw [Int32.le_iff_toInt_le, show (5 : Int32).toInt = 5 from rfl] at z2
          exact q ⟨by omega, z2⟩
    · unfold J_X9_orderAt
      rw [e2, Option.bind_some, ← hx]
      cases hh : J_X9_in x 0 5 with
      | false => rw [if_pos xb_ff]; rfl
      | true => exact absurd (X9_rg 0 5 hh rfl rfl) q
theorem rl_start {s t l : Nat} {σ τ : xS2} (hs : s < 6) (hP : xIP σ) (hC : xIC σ) (hT : xIT σ) (hS : xSh1 σ s) (et : σ.1 0 12 = nI t) (el : σ.1 (28 + 2 * s) 4 = nI l) (f : xFr [(4, 0), (4, 1), (4, 2), (4, 3)] σ τ) : xRl s t l (xBc σ) (xTh τ) := by
  refine ⟨fun w a hw ha => ?_, xCt_4 hC (f 43 8 rfl).1 (f 43 9 rfl).1 (f 43 10 rfl).1 (f 43 11 rfl).2, et, ?_, ?_, ?_, fun i hi => ?_⟩
  · have e : (xTh τ).1 (xMo w a).1 (xMo w a).2 = σ.1 (xMo w a).1 (xMo w a).2 := by
      have g1 : τ.1 (xMo w a).1 (xMo w a).2 = σ.1 (xMo w a).1 (xMo w a).2 := (f _ _ (by rcases w6 hw with rfl | rfl | rfl | rfl | rfl | rfl <;> rfl)).1
      rw [← g1]
      rcases w6 hw with rfl | rfl | rfl | rfl | rfl | rfl <;> rfl
    rw [e]
    exact xPl_of hP w a hw ha
  · show τ.1 43 7 = _
    rw [(f 43 7 rfl).1, hT.1.1, et]
  · show (yI (yI (yI σ 4 0 _) 4 1 _) 4 2 _).1 (28 + 2 * s) 4 = _
    rw [yI_1, if_neg (by omega), yI_1, if_neg (by omega), yI_1, if_neg (by omega), el]
  · show τ.1 71 s = _
    rw [(f 71 s rfl).1, hS.2.1, el]
  · show τ.2 72 (60 * s + i) = (yL _ 4 3 _).2 (29 + 2 * s) i
    rw [(f 72 _ rfl).2, hS.2.2.1 i hi, yL_2, if_neg (by omega)]
    rfl
def xMin (l t : Nat) : Nat := if 60 - t < l then 60 - t else l
theorem xmin_eq {l t : Nat} (hl : l ≤ 60) (ht : t ≤ 60) : xmin (nI l) (60 - nI t) = nI (xMin l t) := by
  have e : (60 : Int32) - nI t = nI (60 - t) := nI_sub (a := 60) ht (by decide)
  unfold xmin xMin
  rw [e]
  by_cases q : 60 - t < l
  · rw [if_pos q, if_pos (c_lt (by omega) (by omega) q)]
  · rw [if_neg q, if_neg (c_nlt (by omega) (by omega) (by omega))]
theorem first_sim {s t l : Nat} (hs : s < 6) (hl : l ≤ 60) (ht : t ≤ 60) : ∀ (n j f g : Nat) (σ μ : xS2), j + n = xMin l t → n < f → n + 1 < g → xRl s t l σ μ → ∃ r σ' μ', J_X8_first_55 f (nI s) (nI (xMin l t)) (nI j) σ = some (r, σ') ∧ J_X9_first_32 g (nI s) (-2) (nI j) μ = some (r, xUn μ') ∧ xFr zsC4 μ μ' := by
  have hM : xMin l t ≤ l ∧ xMin l t ≤ 60 - t ∧ (xMin l t = l ∨ xMin l t = 60 - t) := by unfold xMin; split <;> omega
  intro n
  induction n with
  | zero =>
    intro j f g σ μ h hf hg hr
    obtain ⟨f, rfl⟩ : ∃ z, f = z + 1 := ⟨f - 1, by omega⟩
    obtain ⟨g, rfl⟩ : ∃ z, g = z + 1 := ⟨g - 1, by omega⟩
    refine ⟨-2, σ, μ, ?_, ?_, xFr_rf⟩
    · rw [E_X8_first_55, if_pos (c_le (by omega) (by omega) (by omega))]
    · rw [E_X9_first_32, c_xin hs (by decide), xgd_t, nI_c (by omega), hr.2.2.2.2.2.1, hr.2.2.2.1, nI_add]
      by_cases q : nI l ≤ nI j
      · rw [if_pos q]; rfl
      · rw [if_neg q]
        have q2 : j < l := by
          rcases Nat.lt_or_ge j l with z | z
          · exact z
          · exact absurd (c_le (by omega) (by omega) z) q
        rw [if_pos (k_le (x := (60 : Int32)) 60 rfl (by decide) (by omega) (by omega))]; rfl
  | succ n ih =>
    intro j f g σ μ h hf hg hr
    obtain ⟨f, rfl⟩ : ∃ z, f = z + 1 := ⟨f - 1, by omega⟩
    obtain ⟨g, rfl⟩ : ∃ z, g = z + 2 := ⟨g - 2, by omega⟩
    obtain ⟨m, hm, o1, o2⟩ := rl_order hr hs hl (show j < l by omega)
    obtain ⟨b, σ1, μ1, d1, d2, d3, d4⟩ := rl_own (n := m) hr (show t + j < 60 by omega) hm
    have kc : J_X8_first_55 (f + 1) (nI s) (nI (xMin l t)) (nI j) σ = if xb b = 0 then some (nI j, σ1) else J_X8_first_55 f (nI s) (nI (xMin l t)) (nI (j + 1)) σ1 := by
      rw [E_X8_first_55, if_neg (c_nle (by omega) (by omega) (by omega)), c_xin hs (by decide), xgd_t, nI_c (by omega), o1, Option.bind_some, hr.2.2.1, nI_add, d1, Option.bind_some, nI_1]
    have km : J_X9_first_32 (g + 2) (nI s) (-2) (nI j) μ = if xb b = 0 then J_X9_first_32 (g + 1) (nI s) (nI j) (nI (j + 1)) μ1 else J_X9_first_32 (g + 1) (nI s) (-2) (nI (j + 1)) μ1 := by
      rw [E_X9_first_32, c_xin hs (by decide), xgd_t, nI_c (by omega), hr.2.2.2.2.2.1, if_neg (c_nle (by omega) (by omega) (by omega)), hr.2.2.2.1, nI_add, if_neg (k_nle (x := (60 : Int32)) 60 rfl (by decide) (by omega) (by omega)), if_neg (by decide), o2, Option.bind_some, d2, Option.bind_some]
      unfold J_X9_first_78
      rw [nI_1]
    by_cases z : xb b = 0
    · rw [if_pos z] at kc km
      refine ⟨nI j, σ1, μ1, kc, ?_, d4⟩
      rw [km, E_X9_first_32, c_xin hs (by decide), xgd_t]
      split
      · rfl
      · split
        · rfl
        · rw [if_pos (nI_pos' (by omega))]; rfl
    · rw [if_neg z] at kc km
      obtain ⟨r, σ', μ', r1, r2, r3⟩ := ih (j + 1) f (g + 1) σ1 μ1 (by omega) (by omega) (by omega) d3
      exact ⟨r, σ', μ', kc.trans r1, km.trans r2, xFr_tq d4 r3⟩
theorem step_first : xStep_first xIv := by
  intro a1 σ hI
  obtain ⟨hP, hC, hT, hK, hU, hF, hL, hS, hW⟩ := id hI
  unfold J_X8_first
  rw [X8_isShelf]
  cases hsh : J_X9_isShelf a1 with
  | false => exact ⟨-1, σ, σ, rfl, by unfold J_X9_first; rw [hsh, if_pos xb_ff], hI⟩
  | true =>
    obtain ⟨s, hs, rfl⟩ := isShelf_nat hsh
    rw [if_neg xb_nt]
    rcases bytes_why hs (hS s hs) with ⟨w1, w2, w3⟩ | ⟨r, r0, r1, w1, w2⟩
    · obtain ⟨t, ht, et⟩ := xRg_at (l := 60) hT.1.2
      obtain ⟨l, hl, el⟩ := xRg_at (l := 60) (hS s hs).1
      have hM : xMin l t ≤ 60 := by unfold xMin; split <;> omega
      obtain ⟨r, τ, -, e1, -, -⟩ := first_sim hs hl ht (xMin l t) 0 xFU xFU (xBc σ) (xTh σ) (by omega) (by show xMin l t < 2000; omega) (by show xMin l t + 1 < 2000; omega) (rl_start hs hP hC hT (hS s hs) et el xFr_rf)
      have k1 : J_X8_first (nI s) σ = some (r, τ) := by
        unfold J_X8_first
        rw [X8_isShelf, hsh, if_neg xb_nt, w1, Option.bind_some, if_pos rfl, c_xin hs (by decide), xgd_t, X0_become43, Option.bind_some, nI_c (by omega), el, et, xmin_eq hl ht]
        exact e1
      have f1 := F_X8_first k1
      obtain ⟨r2, τ2, μ', e2, e3, g3⟩ := first_sim hs hl ht (xMin l t) 0 xFU xFU (xBc σ) (xTh τ) (by omega) (by show xMin l t < 2000; omega) (by show xMin l t + 1 < 2000; omega) (rl_start hs hP hC hT (hS s hs) et el f1)
      have er : r2 = r := (xso2 (e2.symm.trans e1)).1
      subst er
      have w2' : J_X9_rowFault (nI s) τ = some 0 := by
        have : J_X9_rowFault (nI s) τ = J_X9_rowFault (nI s) σ := by
          unfold J_X9_rowFault
          rw [(f1 70 _ rfl).1]
        rw [this, w2]
      have k2 : J_X9_first (nI s) τ = some (r2, xUn μ') := by
        unfold J_X9_first
        rw [hsh, if_neg xb_nt, w2', Option.bind_some, if_pos (by decide), X9_think_eq, Option.bind_some]
        exact e3
      have f2 := F_X9_first k2
      refine ⟨r2, τ, xUn μ', ?_, k2, xIP_f f1 f2 (by decide) (by decide) hP, xIC_un hC f1 (by decide) g3, xIT_f f1 f2 (by decide) (by decide) hT, xIK_f f1 f2 (by decide) (by decide) hK, xIU_f f1 f2 (by decide) (by decide) hU, xIF_f f1 f2 (by decide) (by decide) hF, xIL_f f1 f2 (by decide) (by decide) hL, xIS_f f1 f2 (by decide) (by decide) hS, xIW_f f1 f2 (by decide) (by decide) hW⟩
      unfold J_X8_first at k1
      rw [X8_isShelf, hsh, if_neg xb_nt] at k1
      exact k1
    · refine ⟨r, σ, σ, ?_, ?_, hI⟩
      · rw [w1, Option.bind_some, if_neg r0]
      · unfold J_X9_first
        rw [hsh, if_neg xb_nt, w2 σ rfl, Option.bind_some, if_neg r1, Option.bind_some]
