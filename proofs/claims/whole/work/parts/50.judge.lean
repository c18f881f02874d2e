/-! judge. -/
theorem byte_eq {x : Int64} {s : Nat} (h : -128 ≤ x.toInt ∧ x.toInt ≤ 127) (hs : s ≤ 99) : x = (nI s).toInt64 ↔ x.toInt32 = nI s := by
  rw [← Int64.toInt_inj, ← Int32.toInt_inj, Int32.toInt_toInt64, Int64.toInt_toInt32, Int.bmod_eq_of_le (by omega) (by omega)]
theorem judge_sim {s t l : Nat} (hs : s < 6) (hl : l ≤ 60) (ht : t ≤ 60) : ∀ (n j f g : Nat) (σ μ : xS2), j + n = xMin l t → n < f → n + 1 < g → xRl s t l σ μ → (∀ i, i < 60 → -128 ≤ (μ.2 72 (60 * s + i)).toInt ∧ (μ.2 72 (60 * s + i)).toInt ≤ 127) → ∃ r σ' μ', J_X8_judge_55 f (nI s) (nI (xMin l t)) (nI j) σ = some (r, σ') ∧ J_X9_judge_32 g (nI s) (-2) (nI j) μ = some (r, xUn μ') ∧ xFr zsC4 μ μ' := by
  have hM : xMin l t ≤ l ∧ xMin l t ≤ 60 - t ∧ (xMin l t = l ∨ xMin l t = 60 - t) := by unfold xMin; split <;> omega
  intro n
  induction n with
  | zero =>
    intro j f g σ μ h hf hg hr hb
    obtain ⟨f, rfl⟩ : ∃ z, f = z + 1 := ⟨f - 1, by omega⟩
    obtain ⟨g, rfl⟩ : ∃ z, g = z + 1 := ⟨g - 1, by omega⟩
    refine ⟨-2, σ, μ, ?_, ?_, xFr_rf⟩
    · rw [E_X8_judge_55, if_pos (c_le (by omega) (by omega) (by omega))]
    · rw [E_X9_judge_32, c_xin hs (by decide), xgd_t, nI_c (by omega), hr.2.2.2.2.2.1, hr.2.2.2.1, nI_add]
      by_cases q : nI l ≤ nI j
      · rw [if_pos q]; rfl
      · rw [if_neg q]
        have q2 : j < l := by
          rcases Nat.lt_or_ge j l with z | z
          · exact z
          · exact absurd (c_le (by omega) (by omega) z) q
        rw [if_pos (k_le (x := (60 : Int32)) 60 rfl (by decide) (by omega) (by omega))]; rfl
  | succ n ih =>
    intro j f g σ μ h hf hg hr hb
    obtain ⟨f, rfl⟩ : ∃ z, f = z + 1 := ⟨f - 1, by omega⟩
    obtain ⟨g, rfl⟩ : ∃ z, g = z + 2 := ⟨g - 2, by omega⟩
    obtain ⟨b, σ1, μ1, d1, d2, d3, d4⟩ := rl_own (n := 0) hr (show t + j < 60 by omega) (by omega)
    obtain ⟨o1, o2⟩ := rl_at d3 hs hl (show j < l by omega)
    obtain ⟨c', s', d', hc', hs', hd', h0, h1, h2, m8, m9, m10, hl'⟩ := d3.2.1
    have hb1 : ∀ i, i < 60 → -128 ≤ (μ1.2 72 (60 * s + i)).toInt ∧ (μ1.2 72 (60 * s + i)).toInt ≤ 127 := fun i hi => by
      rw [(d4 72 _ rfl).2]; exact hb i hi
    have hbj := hb1 j (by omega)
    rw [d3.2.2.2.2.2.2 j (by omega)] at hbj
    have kc : J_X8_judge_55 (f + 1) (nI s) (nI (xMin l t)) (nI j) σ = if (σ1.2 (29 + 2 * s) j).toInt32 = nI s' then J_X8_judge_55 f (nI s) (nI (xMin l t)) (nI (j + 1)) σ1 else some (nI j, σ1) := by
      rw [E_X8_judge_55, if_neg (c_nle (by omega) (by omega) (by omega)), hr.2.2.1, nI_add]
      show (J_X0_live 4 (nI (t + j)) (nI 0) σ).bind _ = _
      rw [d1, Option.bind_some, c_xin hs (by decide), xgd_t, nI_c (by omega), o1, Option.bind_some]
      show (if lg_cmp (σ1.2 (29 + 2 * s) j) (σ1.1 4 1).toInt64 = 0 then _ else _) = _
      rw [h1, nI_1]
      by_cases z : (σ1.2 (29 + 2 * s) j).toInt32 = nI s'
      · rw [if_pos z, if_pos ((lg_cmp_eq _ _).mpr ((byte_eq hbj hs').mpr z))]
      · rw [if_neg z, if_neg (fun zz => z ((byte_eq hbj hs').mp ((lg_cmp_eq _ _).mp zz)))]
    have km : J_X9_judge_32 (g + 2) (nI s) (-2) (nI j) μ = if (σ1.2 (29 + 2 * s) j).toInt32 = nI s' then J_X9_judge_32 (g + 1) (nI s) (-2) (nI (j + 1)) μ1 else J_X9_judge_32 (g + 1) (nI s) (nI j) (nI (j + 1)) μ1 := by
      rw [E_X9_judge_32, c_xin hs (by decide), xgd_t, nI_c (by omega), hr.2.2.2.2.2.1, if_neg (c_nle (by omega) (by omega) (by omega)), hr.2.2.2.1, nI_add, if_neg (k_nle (x := (60 : Int32)) 60 rfl (by decide) (by omega) (by omega)), if_neg (by decide)]
      show (J_X9_goOwn (nI 0) (nI (t + j)) μ).bind _ = _
      rw [d2, Option.bind_some, o2, Option.bind_some]
      show (if (σ1.2 (29 + 2 * s) j).toInt32 = μ1.1 43 9 then _ else _) = _
      unfold J_X9_judge_84
      rw [m9, nI_1]
    by_cases z : (σ1.2 (29 + 2 * s) j).toInt32 = nI s'
    · rw [if_pos z] at kc km
      obtain ⟨r, σ', μ', r1, r2, r3⟩ := ih (j + 1) f (g + 1) σ1 μ1 (by omega) (by omega) (by omega) d3 hb1
      exact ⟨r, σ', μ', kc.trans r1, km.trans r2, xFr_tq d4 r3⟩
    · rw [if_neg z] at kc km
      refine ⟨nI j, σ1, μ1, kc, ?_, d4⟩
      rw [km, E_X9_judge_32, c_xin hs (by decide), xgd_t]
      split
      · rfl
      · split
        · rfl
        · rw [if_pos (nI_pos' (by omega))]; rfl
theorem step_judge : xStep_judge xIv := by
  intro a1 σ hI
  obtain ⟨hP, hC, hT, hK, hU, hF, hL, hS, hW⟩ := id hI
  cases hsh : J_X9_isShelf a1 with
  | false => exact ⟨-1, σ, σ, by unfold J_X8_judge; rw [X8_isShelf, hsh, if_pos xb_ff], by unfold J_X9_judge; rw [hsh, if_pos xb_ff], hI⟩
  | true =>
    obtain ⟨s, hs, rfl⟩ := isShelf_nat hsh
    rcases bytes_why hs (hS s hs) with ⟨w1, w2, w3⟩ | ⟨r, r0, r1, w1, w2⟩
    · obtain ⟨t, ht, et⟩ := xRg_at (l := 60) hT.1.2
      obtain ⟨l, hl, el⟩ := xRg_at (l := 60) (hS s hs).1
      have hM : xMin l t ≤ 60 := by unfold xMin; split <;> omega
      have hb0 : ∀ i, i < 60 → -128 ≤ (σ.2 72 (60 * s + i)).toInt ∧ (σ.2 72 (60 * s + i)).toInt ≤ 127 := fun i hi => by
        rw [(hS s hs).2.2.1 i hi]; exact w3 i hi
      obtain ⟨r, τ, -, e1, -, -⟩ := judge_sim hs hl ht (xMin l t) 0 xFU xFU (xBc σ) (xTh σ) (by omega) (by show xMin l t < 2000; omega) (by show xMin l t + 1 < 2000; omega) (rl_start hs hP hC hT (hS s hs) et el xFr_rf) hb0
      have k1 : J_X8_judge (nI s) σ = some (r, τ) := by
        unfold J_X8_judge
        rw [X8_isShelf, hsh, if_neg xb_nt, w1, Option.bind_some, if_pos rfl, c_xin hs (by decide), xgd_t, X0_become43, Option.bind_some, nI_c (by omega), el, et, xmin_eq hl ht]
        exact e1
      have f1 := F_X8_judge k1
      obtain ⟨r2, τ2, μ', e2, e3, g3⟩ := judge_sim hs hl ht (xMin l t) 0 xFU xFU (xBc σ) (xTh τ) (by omega) (by show xMin l t < 2000; omega) (by show xMin l t + 1 < 2000; omega) (rl_start hs hP hC hT (hS s hs) et el f1) (fun i hi => by
        show -128 ≤ (τ.2 72 (60 * s + i)).toInt ∧ (τ.2 72 (60 * s + i)).toInt ≤ 127
        rw [(f1 72 _ rfl).2]; exact hb0 i hi)
      have er : r2 = r := (xso2 (e2.symm.trans e1)).1
      subst er
      have w2' : J_X9_rowFault (nI s) τ = some 0 := by
        have : J_X9_rowFault (nI s) τ = J_X9_rowFault (nI s) σ := by
          unfold J_X9_rowFault
          rw [(f1 70 _ rfl).1]
        rw [this, w2]
      have k2 : J_X9_judge (nI s) τ = some (r2, xUn μ') := by
        unfold J_X9_judge
        rw [hsh, if_neg xb_nt, w2', Option.bind_some, if_pos (by decide), X9_think_eq, Option.bind_some]
        exact e3
      have f2 := F_X9_judge k2
      exact ⟨r2, τ, xUn μ', k1, k2, xIP_f f1 f2 (by decide) (by decide) hP, xIC_un hC f1 (by decide) g3, xIT_f f1 f2 (by decide) (by decide) hT, xIK_f f1 f2 (by decide) (by decide) hK, xIU_f f1 f2 (by decide) (by decide) hU, xIF_f f1 f2 (by decide) (by decide) hF, xIL_f f1 f2 (by decide) (by decide) hL, xIS_f f1 f2 (by decide) (by decide) hS, xIW_f f1 f2 (by decide) (by decide) hW⟩
    · refine ⟨r, σ, σ, ?_, ?_, hI⟩
      · unfold J_X8_judge
        rw [X8_isShelf, hsh, if_neg xb_nt, w1, Option.bind_some, if_neg r0]
      · unfold J_X9_judge
        rw [hsh, if_neg xb_nt, w2 σ rfl, Option.bind_some, if_neg r1, Option.bind_some]
