/-! of, out of: both count bits alike. -/
theorem step_of (hbits : xBits) : xStep_of xIv := by
  intro a1 a2 σ hI
  obtain ⟨hP, hC, hT, hK, hU, hF, hL, hS, hW⟩ := id hI
  rcases place_thing a1 a2 σ with ⟨w, a, hw, ha, rfl, rfl, ep, et⟩ | ⟨ep, et⟩
  · have hb := xBg_top w hw
    have hin : J_X9_in (nI w) 0 5 = true := X9_in_of (by rw [show (0 : Int32).toInt = 0 from rfl, show (5 : Int32).toInt = 5 from rfl]; exact nI_rg (by omega) (by omega))
    refine ⟨σ.1 2 (xBg w + a), ?_, ?_, hI⟩
    · unfold J_X8_of
      rw [ep, Option.bind_some, if_neg (nI_pos (by omega)), X3_told (by omega), Option.bind_some]
    · unfold J_X9_of
      rw [hin, if_neg xb_nt, et, if_neg xb_nt, X9_valueAt_eq hw ha, Option.bind_some, (xIP_at hP hw ha).1]
  · have k8 : J_X8_of a1 a2 σ = if a2 = 10 then J_X8_ofCell a1 a2 σ else if a2 = 11 then J_X8_ofCell a1 a2 σ else if a1 = 0 then some (J_X8_ofCart a2 σ) else some (-1) := by
      have hb : ∀ {x : Option Int32}, (x.bind fun x7 => some x7) = x := fun {x} => by cases x <;> rfl
      unfold J_X8_of J_X8_of_31
      rw [ep, Option.bind_some, if_pos (by decide), hb]
    rw [k8]
    cases hin : J_X9_in a2 0 5 with
    | true =>
      obtain ⟨w, hw, rfl⟩ := xRg_at (l := 5) (X9_rg 0 5 hin rfl rfl)
      have h0 : ¬ a1 = 0 := by
        rintro rfl
        have := X9_thing_at w (by omega) 0 (by decide)
        rw [show nI 0 = (0 : Int32) from rfl, et] at this
        exact absurd (of_decide_eq_false this.symm) (by have := (xsv0 w (by omega)).2.2.2.2.2.1; omega)
      refine ⟨-1, ?_, ?_, hI⟩
      · rw [if_neg (r_ne (x := (10 : Int32)) 10 rfl (by decide) (by omega) (by omega)), if_neg (r_ne (x := (11 : Int32)) 11 rfl (by decide) (by omega) (by omega)), if_neg h0]
      · unfold J_X9_of
        rw [hin, if_neg xb_nt, et, if_pos xb_ff]
    | false =>
      have k9 : J_X9_of a1 a2 σ = if xb (J_X9_in a2 10 11) = 0 then (if a1 = 0 then (if a2 = 20 then some (σ.1 43 7) else if a2 = 21 then some (σ.1 43 8) else if a2 = 22 then some (σ.1 43 9) else if a2 = 23 then some (σ.1 43 10) else if a2 = 24 then some (J_J13_bitCount_95d88 (σ.2 43 11)) else some (-1)) else some (-1)) else
          (if xb (J_X9_isCell a1) = 0 then some (-1) else if a2 = 10 then (J_X9_isHollow a1 σ).bind fun x17 => if xb x17 = 0 then some 0 else some 1 else if xb (J_X9_isLooked a1 σ) = 0 then some 0 else some 1) := by
        unfold J_X9_of
        rw [hin, if_pos xb_ff, hbits, Option.bind_some]
      rw [k9]
      cases h10 : J_X9_in a2 10 11 with
      | true =>
        have hr := X9_rg 10 11 h10 rfl rfl
        obtain ⟨q, hq, rfl⟩ := xRg_at (l := 11) (xRg_w hr (by decide) (by decide))
        have hq2 : 10 ≤ q := by
          have := hr.1
          rw [nI_toInt (by omega)] at this
          omega
        rw [if_neg xb_nt]
        have kc : ∀ b : Bool, J_X8_ofCell_34 b σ = if xb b = 0 then some 0 else some 1 := fun b => rfl
        have ko : J_X8_ofCell a1 (nI q) σ = if xb (J_X9_isCell a1) = 0 then some (-1) else if nI q = 10 then (J_X3_isHollow a1 σ).bind fun x6 => (if xb x6 = 0 then some 0 else some 1) else if xb (J_X0_hasLookedAt 3 a1 σ) = 0 then some 0 else some 1 := by
          unfold J_X8_ofCell
          rw [X3_isCell]
          simp only [kc]
        have kk : (if nI q = 10 then J_X8_ofCell a1 (nI q) σ else if nI q = 11 then J_X8_ofCell a1 (nI q) σ else if a1 = 0 then some (J_X8_ofCart (nI q) σ) else some (-1)) = J_X8_ofCell a1 (nI q) σ := by
          rcases (show q = 10 ∨ q = 11 by omega) with rfl | rfl
          · rw [if_pos (by decide)]
          · rw [if_neg (by decide), if_pos (by decide)]
        rw [kk, ko]
        cases hcell : J_X9_isCell a1 with
        | false => exact ⟨-1, rfl, rfl, hI⟩
        | true =>
          rw [if_neg xb_nt, if_neg xb_nt]
          obtain ⟨c, hc, rfl⟩ := xRg_at (l := 35) (X9_rg 0 35 hcell rfl rfl)
          by_cases z : nI q = 10
          · rw [if_pos z, if_pos z, X3_isHollow (by omega), X9_isHollow (by omega), Option.bind_some, Option.bind_some, xHollow_eq (h := σ.1 44) (g := σ.1 2) (by omega) (fun k hk => (hP.1 k hk).1)]
            cases xHollow (σ.1 2) c
            · exact ⟨0, rfl, rfl, hI⟩
            · exact ⟨1, rfl, rfl, hI⟩
          · rw [if_neg z, if_neg z, X0_looked (by omega), X9_looked (by omega), hC.2.2.2]
            cases (σ.2 3 3).toBitVec.getLsbD c
            · exact ⟨0, rfl, rfl, hI⟩
            · exact ⟨1, rfl, rfl, hI⟩
      | false =>
        rw [if_pos xb_ff]
        have n10 : ¬ a2 = 10 := fun z => by rw [z] at h10; exact absurd h10 (by decide)
        have n11 : ¬ a2 = 11 := fun z => by rw [z] at h10; exact absurd h10 (by decide)
        rw [if_neg n10, if_neg n11, hT.1.1, hC.1.1, hC.2.1.1, hC.2.2.1.1, hC.2.2.2]
        refine ⟨if a1 = 0 then J_X8_ofCart a2 σ else -1, ?_, ?_, hI⟩
        · by_cases z : a1 = 0
          · rw [if_pos z, if_pos z]
          · rw [if_neg z, if_neg z]
        · by_cases z : a1 = 0
          · rw [if_pos z, if_pos z]
            unfold J_X8_ofCart
            split
            · rfl
            · split
              · rfl
              · split
                · rfl
                · split
                  · rfl
                  · split <;> rfl
          · rw [if_neg z, if_neg z]
