/-! The shelves: row, shift. -/
theorem xFr_sh {σ ρ : xS2} {s : Nat} (hs : s < 6) (h1 : ∀ o k, o ≠ 28 + 2 * s → o ≠ 70 → o ≠ 71 → ρ.1 o k = σ.1 o k) (h2 : ∀ o k, o ≠ 29 + 2 * s → o ≠ 72 → ρ.2 o k = σ.2 o k) : xFr zsS σ ρ := by
  intro o k h
  refine ⟨h1 o k ?_ ?_ ?_, h2 o k ?_ ?_⟩
  · rintro rfl; rw [xWsh0 hs] at h; cases h
  · rintro rfl; cases h
  · rintro rfl; cases h
  · rintro rfl; rw [xWsh1 hs] at h; cases h
  · rintro rfl; cases h
theorem row_fill {s : Nat} (hs : s < 6) : ∀ (n j f : Nat) (σ : xS2), n + j = 60 → n < f → ∃ τ, J_J7_fill_d0a16_6 f (29 + 2 * s) 0 (nI j) (Int32.ofNat 60) σ = some τ ∧ τ.1 = σ.1 ∧ (∀ o k, o ≠ 29 + 2 * s → τ.2 o k = σ.2 o k) ∧ ∀ k, τ.2 (29 + 2 * s) k = if j ≤ k ∧ k < 60 then 0 else σ.2 (29 + 2 * s) k := by
  intro n
  induction n with
  | zero =>
    intro j f σ h hf
    obtain ⟨f, rfl⟩ : ∃ g, f = g + 1 := ⟨f - 1, by omega⟩
    refine ⟨σ, ?_, rfl, fun o k _ => rfl, fun k => by rw [if_neg (by omega)]⟩
    rw [E_J7_fill_d0a16_6, show j = 60 by omega, if_pos (by decide)]
  | succ n ih =>
    intro j f σ h hf
    obtain ⟨f, rfl⟩ : ∃ g, f = g + 1 := ⟨f - 1, by omega⟩
    obtain ⟨τ, e, h1, h2, h3⟩ := ih (j + 1) f (yL σ (29 + 2 * s) j 0) (by omega) (by omega)
    refine ⟨τ, ?_, h1, fun o k ho => by rw [h2 o k ho, yL_2, if_neg ho], fun k => ?_⟩
    · rw [E_J7_fill_d0a16_6, if_neg (k_nle (x := Int32.ofNat 60) 60 rfl (by decide) (by omega) (by omega)), show 29 + 2 * s = 28 + 2 * s + 1 by omega, xsh_prf1 hs, c_xin (by omega) (by decide), xgd_t, nI_1, nI_c (by omega), show 28 + 2 * s + 1 = 29 + 2 * s by omega]
      exact e
    · rw [h3 k, yL_2, if_pos rfl]
      by_cases q : k = j
      · rw [if_neg (by omega), if_pos q, if_pos (by omega)]
      · rw [if_neg q]
        by_cases q2 : j ≤ k ∧ k < 60
        · rw [if_pos (by omega), if_pos q2]
        · rw [if_neg (by omega), if_neg q2]
theorem m60b {s : Nat} : (60 : Int32) * nI s + 60 = nI (60 * s + 60) := m60 (i := 60)
theorem m60a {s : Nat} : (60 : Int32) * nI s = nI (60 * s) := by
  have := m60 (s := s) (i := 0)
  rw [show nI 0 = 0 from rfl, Int32.add_zero] at this
  exact this
theorem row_far {s : Nat} (hs : s < 6) : ∀ (n j f : Nat) (σ : xS2), n + j = 60 * s + 60 → n < f → ∃ τ, J_X9_row_54 f (nI s) (nI j) σ = some (1, τ) ∧ τ.1 = σ.1 ∧ (∀ o k, o ≠ 72 → τ.2 o k = σ.2 o k) ∧ ∀ k, τ.2 72 k = if j ≤ k ∧ k < 60 * s + 60 then 0 else σ.2 72 k := by
  intro n
  induction n with
  | zero =>
    intro j f σ h hf
    obtain ⟨f, rfl⟩ : ∃ g, f = g + 1 := ⟨f - 1, by omega⟩
    refine ⟨σ, ?_, rfl, fun o k _ => rfl, fun k => by rw [if_neg (by omega)]⟩
    rw [E_X9_row_54, m60b, if_pos (c_le (by omega) (by omega) (by omega))]
  | succ n ih =>
    intro j f σ h hf
    obtain ⟨f, rfl⟩ : ∃ g, f = g + 1 := ⟨f - 1, by omega⟩
    obtain ⟨τ, e, h1, h2, h3⟩ := ih (j + 1) f (yL σ 72 j 0) (by omega) (by omega)
    refine ⟨τ, ?_, h1, fun o k ho => by rw [h2 o k ho, yL_2, if_neg ho], fun k => ?_⟩
    · rw [E_X9_row_54, m60b, if_neg (c_nle (by omega) (by omega) (by omega)), c_xin (by omega) (by decide), xgd_t, nI_1, nI_c (by omega)]
      exact e
    · rw [h3 k, yL_2, if_pos rfl]
      by_cases q : k = j
      · rw [if_neg (by omega), if_pos q, if_pos (by omega)]
      · rw [if_neg q]
        by_cases q2 : j ≤ k ∧ k < 60 * s + 60
        · rw [if_pos (by omega), if_pos q2]
        · rw [if_neg (by omega), if_neg q2]
theorem step_row : xStep_row xIv := by
  intro a1 a2 a3 σ hI
  have hS := hI.2.2.2.2.2.2.2.1
  unfold J_X8_row J_X9_row
  rw [X8_isShelf, X8_oneOf5]
  cases hsh : J_X9_isShelf a1 with
  | false => exact ⟨-1, σ, σ, rfl, rfl, hI⟩
  | true =>
    rw [if_neg xb_nt]
    cases hk : J_X9_in a2 0 4 with
    | false =>
      refine ⟨-1, σ, σ, rfl, ?_, hI⟩
      rw [if_neg xb_nt, if_pos xb_ff]
    | true =>
      rw [if_neg xb_nt]
      by_cases q1 : a3 ≤ 60
      · by_cases q0 : 0 ≤ a3
        · obtain ⟨s, hs, rfl⟩ := isShelf_nat hsh
          obtain ⟨k, hk4, hkb, rfl⟩ := xRg_nat (X9_rg 0 4 hk rfl rfl)
          obtain ⟨n, hn, rfl⟩ := nI_of2 (M := 60) (n := 60) rfl (fun z => by rw [Int32.lt_iff_toInt_lt] at z; rw [Int32.le_iff_toInt_le] at q0; omega) q1
          have ex : xmin 60 (xmax 0 (nI n)) = nI n := by
            have e1 : xmax 0 (nI n) = nI n := by
              unfold xmax
              by_cases z : (0 : Int32) < nI n
              · rw [if_pos z]
              · rw [if_neg z]
                rcases Nat.eq_zero_or_pos n with rfl | hp
                · rfl
                · exact absurd (c_lt (a := 0) (by omega) (by omega) hp) z
            rw [e1]
            unfold xmin
            by_cases z : nI n < 60
            · rw [if_pos z]
            · rw [if_neg z]
              rcases Nat.lt_or_ge n 60 with hp | hp
              · exact absurd (c_lt (b := 60) (by omega) (by omega) hp) z
              · rw [show n = 60 by omega]; rfl
          rw [if_pos q1, if_pos q0, c_xin hs (by decide), xgd_t, nI_c (by omega)]
          unfold J_X5_holdRow
          rw [ex]
          obtain ⟨τ, e, h1, h2, h3⟩ := row_fill hs 60 0 xFU (yI (yI (yI σ (28 + 2 * s) 1 2) (28 + 2 * s) 3 (nI k)) (28 + 2 * s) 4 (nI n)) rfl (by decide)
          have e' : J_J7_fill_d0a16 (28 + 2 * s + 1) 0 (yI (yI (yI σ (28 + 2 * s) 1 2) (28 + 2 * s) 3 (nI k)) (28 + 2 * s) 4 (nI n)) = some τ := by
            unfold J_J7_fill_d0a16
            rw [xsh_prf1 hs, show 28 + 2 * s + 1 = 29 + 2 * s by omega]
            exact e
          rw [e', Option.bind_some, Option.bind_some]
          obtain ⟨ρ, e2, g1, g2, g3⟩ := row_far hs 60 (60 * s) xFU (yI (yI τ 70 s (-2 - nI k)) 71 s (nI n)) (by omega) (by decide)
          refine ⟨1, τ, ρ, rfl, ?_, ?_⟩
          · rw [if_neg xb_nt, if_neg xb_nt, if_pos q1, if_pos q0, xgd_t, xgd_t, m60a]
            exact e2
          · have c1 : ∀ o k', o ≠ 28 + 2 * s → o ≠ 70 → o ≠ 71 → ρ.1 o k' = σ.1 o k' := by
              intro o k' z1 z2 z3
              rw [g1, yI_1, if_neg z3, yI_1, if_neg z2, h1, yI_1, if_neg z1, yI_1, if_neg z1, yI_1, if_neg z1]
            have c2 : ∀ o k', o ≠ 29 + 2 * s → o ≠ 72 → ρ.2 o k' = σ.2 o k' := by
              intro o k' z1 z2
              rw [g2 _ _ z2]
              show τ.2 o k' = _
              rw [h2 _ _ z1]; rfl
            refine xIv_sh (xFr_sh hs c1 c2) hI ?_
            intro s2 hs2
            by_cases hne : s2 = s
            · subst hne
              have d1 : ρ.1 (28 + 2 * s2) 1 = 2 := by
                rw [g1, yI_1, if_neg (by omega), yI_1, if_neg (by omega), h1, yI_1, if_pos rfl, if_neg (by decide), yI_1, if_pos rfl, if_neg (by decide), yI_1, if_pos rfl, if_pos rfl]
              have d3 : ρ.1 (28 + 2 * s2) 3 = nI k := by
                rw [g1, yI_1, if_neg (by omega), yI_1, if_neg (by omega), h1, yI_1, if_pos rfl, if_neg (by decide), yI_1, if_pos rfl, if_pos rfl]
              have d4 : ρ.1 (28 + 2 * s2) 4 = nI n := by
                rw [g1, yI_1, if_neg (by omega), yI_1, if_neg (by omega), h1, yI_1, if_pos rfl, if_pos rfl]
              have d71 : ρ.1 71 s2 = nI n := by
                rw [g1, yI_1, if_pos rfl, if_pos rfl]
              have d70 : ρ.1 70 s2 = -2 - nI k := by
                rw [g1, yI_1, if_neg (by decide), yI_1, if_pos rfl, if_pos rfl]
              have del : ∀ i, i < 60 → ρ.2 (29 + 2 * s2) i = 0 := by
                intro i hi
                rw [g2 _ _ (by omega)]
                show τ.2 (29 + 2 * s2) i = 0
                rw [h3 i, if_pos (by omega)]
              refine ⟨by rw [d4]; exact nI_rg (by omega) (by omega), by rw [d4, d71], fun i hi => by rw [del i hi, g3, if_pos (by omega)], Or.inr (Or.inr ⟨d1, by rw [d3]; exact nI_rg (by omega) (by omega), by rw [d3, d70], fun _ i hi => by rw [del i hi]; exact ⟨by decide, by decide⟩⟩)⟩
            · exact sh_other (s := s) (σ := σ) hs hs2 (fun k' z => by rw [g1, yI_1, if_neg (by decide), yI_1, if_pos rfl, if_neg z, h1, yI_1, if_neg (by omega), yI_1, if_neg (by omega), yI_1, if_neg (by omega)]) (fun k' z => by rw [g1, yI_1, if_pos rfl, if_neg z, yI_1, if_neg (by decide), h1, yI_1, if_neg (by omega), yI_1, if_neg (by omega), yI_1, if_neg (by omega)]) c1 c2 (fun k' z => by
                rw [g3, if_neg (by omega)]
                show τ.2 72 k' = _
                rw [h2 _ _ (by omega)]; rfl) hne (hS s2 hs2)
        · refine ⟨-14, σ, σ, ?_, ?_, hI⟩
          · rw [if_pos q1, if_neg q0]
          · rw [if_neg xb_nt, if_neg xb_nt, if_pos q1, if_neg q0]
      · refine ⟨-1, σ, σ, ?_, ?_, hI⟩
        · rw [if_neg q1]
        · rw [if_neg xb_nt, if_neg xb_nt, if_neg q1]
