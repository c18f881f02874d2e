/-! heights: the step. -/
theorem step_heights : xStep_heights xIv := by
  intro a1 a2 a3 σ hI
  obtain ⟨hP, hC, hT, hK, hU, hF, hL, hS, hW⟩ := id hI
  cases hsh : J_X9_isShelf a1 with
  | false => exact ⟨-1, σ, σ, by unfold J_X8_heights; rw [X8_isShelf, hsh, if_pos xb_ff], by unfold J_X9_heights; rw [hsh, if_pos xb_ff], hI⟩
  | true =>
    obtain ⟨s, hs, rfl⟩ := isShelf_nat hsh
    by_cases q0 : a3 < 0
    · refine ⟨-1, σ, σ, ?_, ?_, hI⟩
      · unfold J_X8_heights
        rw [X8_isShelf, hsh, if_neg xb_nt, if_neg (i_lt_nle q0)]
      · unfold J_X9_heights
        rw [hsh, if_neg xb_nt, if_pos q0]
    · cases hcell : J_X9_isCell (a3 / 100) with
      | false =>
        refine ⟨-1, σ, σ, ?_, ?_, hI⟩
        · unfold J_X8_heights
          rw [X8_isShelf, hsh, if_neg xb_nt, if_pos (i_nlt q0), X3_isCell, hcell, if_pos xb_ff]
        · unfold J_X9_heights
          rw [hsh, if_neg xb_nt, if_neg q0, hcell, if_pos xb_ff]
      | true =>
        obtain ⟨c, hc, ec⟩ := xRg_at (l := 35) (X9_rg 0 35 hcell rfl rfl)
        by_cases hr : xRg (xrm a3 100) 1 36
        · obtain ⟨n, hn, en⟩ := xRg_at (l := 36) (xRg_w hr (by decide) (by decide))
          have hn1 : 1 ≤ n := by
            have := hr.1
            rw [en, nI_toInt (by omega)] at this
            omega
          have ein : J_X9_in (nI n) 1 36 = true := X9_in_of (by rw [show (1 : Int32).toInt = 1 from rfl, show (36 : Int32).toInt = 36 from rfl, ← en]; exact hr)
          have k8 : J_X8_heights (nI s) a2 a3 σ = if xb (J_X5_isEmpty (28 + 2 * s) σ) = 0 then (if xb (J_X5_isBytes (28 + 2 * s) σ) = 0 then some (-12, σ) else (J_X8_heightsFrom (28 + 2 * s) a2 (nI c) (nI n) σ).bind fun x15 => some (x15.1, x15.2)) else some (0, σ) := by
            unfold J_X8_heights
            rw [X8_isShelf, hsh, if_neg xb_nt, if_pos (i_nlt q0), X3_isCell, hcell, if_neg xb_nt, en, if_neg (r_nlt (x := (1 : Int32)) 1 rfl (by decide) (by omega) hn1), if_pos (r_le (x := (36 : Int32)) 36 rfl (by decide) (by omega) hn), ec, c_xin hs (by decide), xgd_t, xgd_t, xgd_t, nI_c (by omega)]
          have k9 : ∀ τ : xS2, J_X9_heights (nI s) a2 a3 τ = if τ.1 70 s = -1 then J_X9_heights_60 (nI s) a2 a3 τ else if τ.1 70 s = -2 then J_X9_heights_60 (nI s) a2 a3 τ else some (-12, τ) := by
            intro τ
            unfold J_X9_heights
            rw [hsh, if_neg xb_nt, if_neg q0, hcell, if_neg xb_nt, en, ein, if_neg xb_nt, c_xin hs (by decide), xgd_t, xgd_t, nI_c (by omega)]
          have k60 : ∀ τ : xS2, J_X9_heights_60 (nI s) a2 a3 τ = if τ.1 70 s = -1 then some (0, τ) else J_X9_heights_75 xFU (nI s) a2 a3 0 τ := by
            intro τ
            unfold J_X9_heights_60
            rw [c_xin hs (by decide), xgd_t, nI_c (by omega)]
          rcases sh_cases (hS s hs) with ⟨h1, h2⟩ | ⟨h1, h2, h3, b, hb, h4, h5, h6⟩ | ⟨h1, h2, h3, k, hk, h4, h5, h6⟩
          · refine ⟨0, σ, σ, ?_, ?_, hI⟩
            · rw [k8, h1, if_neg xb_nt]
            · rw [k9, k60, h2, if_pos rfl, if_pos rfl]
          · have hb : J_X5_isBytes (28 + 2 * s) σ = false := by
              unfold J_X5_isBytes
              rw [h3, if_neg (by decide)]
            refine ⟨-12, σ, σ, ?_, ?_, hI⟩
            · rw [k8, h1, if_pos xb_ff, hb, if_pos xb_ff]
            · rw [k9, h4, if_neg (nI_nm1 (by omega)), if_neg]
              intro z
              have := nI_pos' (n := b) (by omega)
              rw [z] at this
              exact absurd this (by decide)
          · by_cases k0 : k = 0
            · subst k0
              have hb : J_X5_isBytes (28 + 2 * s) σ = true := by
                unfold J_X5_isBytes
                rw [h3, if_pos rfl, h4, if_pos (by decide)]
              obtain ⟨l, hl, el⟩ := xRg_at (l := 60) (hS s hs).1
              obtain ⟨m, -, m2, m3, m4⟩ := hg_first (σ.2 (29 + 2 * s)) l a2.toInt c n 0
              obtain ⟨τ, t1, t2⟩ := heights_class (c := c) (n := n) (m := m) (σ0 := σ) (a2 := a2) hs hl (by omega) hn (by omega) (fun j hj => m3 j (by omega) hj) (fun h => m4 (by omega)) m 0 xFU σ (by omega) (by show m < 2000; omega) el (fun _ => rfl)
              have e1 : J_X8_heights (nI s) a2 a3 σ = some (nI m, τ) := by
                rw [k8, h1, if_pos xb_ff, hb, if_neg xb_nt]
                unfold J_X8_heightsFrom
                show (J_X8_heightsFrom_6 xFU (28 + 2 * s) a2 (nI c) (nI n) (nI 0) (nI 0) σ).bind _ = _
                rw [t1, Option.bind_some]
              have f1 := F_X8_heights e1
              obtain ⟨ρ, r1, r2⟩ := heights_model (c := c) (n := n) (m := m) (el := σ.2 (29 + 2 * s)) (a2 := a2) (a3 := a3) hs hl (by omega) hn (by omega) (fun j hj => m3 j (by omega) hj) (fun h => m4 (by omega)) ec en m 0 xFU τ (by omega) (by show m < 2000; omega) (by rw [(f1 71 s rfl).1, (hS s hs).2.1, el]) (fun k hk => by rw [(f1 72 _ rfl).2, (hS s hs).2.2.1 k hk])
              have e2 : J_X9_heights (nI s) a2 a3 τ = some (nI m, ρ) := by
                have e70 : τ.1 70 s = -2 - nI 0 := by rw [(f1 70 s rfl).1, h5]
                rw [k9, k60, e70, if_neg (by decide), if_pos (by decide), if_neg (by decide)]
                exact r1
              have f2 := F_X9_heights e2
              refine ⟨nI m, τ, ρ, e1, e2, ?_, xIC_f f1 f2 (by decide) (by decide) hC, xIT_f f1 f2 (by decide) (by decide) hT, xIK_f f1 f2 (by decide) (by decide) hK, xIU_f f1 f2 (by decide) (by decide) hU, xIF_f f1 f2 (by decide) (by decide) hF, xIL_f f1 f2 (by decide) (by decide) hL, xIS_f f1 f2 (by decide) (by decide) hS, xIW_f f1 f2 (by decide) (by decide) hW⟩
              have hcm : c + m ≤ 36 := by
                rcases Nat.eq_zero_or_pos m with z | z
                · omega
                · have := (m3 (m - 1) (by omega) (by omega)).1
                  omega
              have p2 : ∀ k, ρ.1 2 k = if c + 0 ≤ k ∧ k < c + m then (σ.2 (29 + 2 * s) (a2.toInt.toNat + (k - c))).toInt32 else σ.1 2 k := fun k => by rw [(f2 2 k rfl).1, t2 k]
              apply xIP_of
              intro w a hw ha
              obtain ⟨x1, x2⟩ := xIP_at hP hw ha
              by_cases w0 : w = 0
              · subst w0
                have ea : xBg 0 + a = a := Nat.zero_add a
                have em : (xMo 0 a).1 = 44 ∧ (xMo 0 a).2 = a := ⟨rfl, rfl⟩
                rw [em.1, em.2, ea] at x1 ⊢
                rw [ea] at x2
                rw [r2 a, p2 a, (f1 44 a rfl).1]
                by_cases z : c + 0 ≤ a ∧ a < c + m
                · rw [if_pos z, if_pos z]
                  refine ⟨rfl, ?_⟩
                  exact (m3 (a - c) (by omega) (by omega)).2.2.2
                · rw [if_neg z, if_neg z]
                  exact ⟨x1, x2⟩
              · have hbg : 36 ≤ xBg w := by
                  have := xBg_sep 0 (by decide) w hw (fun z => w0 z.symm)
                  have e0 : xBg 0 + xMy 0 = 36 := rfl
                  have e00 : xBg 0 = 0 := rfl
                  have e3 := (xsv0 w hw).2.2.2.2.2.1
                  omega
                have pm : ρ.1 (xMo w a).1 (xMo w a).2 = σ.1 (xMo w a).1 (xMo w a).2 := by
                  have y1 : xWn [(44, 99)] (xMo w a).1 (xMo w a).2 = false := by
                    rcases w6 hw with rfl | rfl | rfl | rfl | rfl | rfl
                    · exact absurd rfl w0
                    all_goals rfl
                  have y2 : xWn [(2, 99)] (xMo w a).1 (xMo w a).2 = false := by
                    rcases w6 hw with rfl | rfl | rfl | rfl | rfl | rfl <;> rfl
                  rw [(f2 _ _ y1).1, (f1 _ _ y2).1]
                rw [pm, p2, if_neg (by omega)]
                exact ⟨x1, x2⟩
            · have hb : J_X5_isBytes (28 + 2 * s) σ = false := by
                unfold J_X5_isBytes
                rw [h3, if_pos rfl, h4, if_neg (fun z => k0 ((nI_eq (by omega) (by decide)).mp (z.trans nI_0.symm)))]
              refine ⟨-12, σ, σ, ?_, ?_, hI⟩
              · rw [k8, h1, if_pos xb_ff, hb, if_pos xb_ff]
              · rw [k9, h5, if_neg (neg2 k hk).2.1, if_neg]
                intro z
                have := (neg2_eq k hk 0 (by decide)).mp (z.trans (by decide))
                exact k0 ((nI_eq (by omega) (by decide)).mp this)
        · refine ⟨-1, σ, σ, ?_, ?_, hI⟩
          · unfold J_X8_heights
            rw [X8_isShelf, hsh, if_neg xb_nt, if_pos (i_nlt q0), X3_isCell, hcell, if_neg xb_nt]
            by_cases z : xrm a3 100 < 1
            · rw [if_pos z]
            · rw [if_neg z, if_neg]
              intro z2
              rw [Int32.lt_iff_toInt_lt, show (1 : Int32).toInt = 1 from rfl] at z
              rw [Int32.le_iff_toInt_le, show (36 : Int32).toInt = 36 from rfl] at z2
              exact hr ⟨by omega, z2⟩
          · unfold J_X9_heights
            rw [hsh, if_neg xb_nt, if_neg q0, hcell, if_neg xb_nt]
            cases hh : J_X9_in (xrm a3 100) 1 36 with
            | false => rw [if_pos xb_ff]
            | true => exact absurd (X9_rg 1 36 hh rfl rfl) hr
