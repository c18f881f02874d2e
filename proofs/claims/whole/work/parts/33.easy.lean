/-! Calls that are near to their words. -/
theorem yI_1 {σ : xS2} {o k a b : Nat} {v : Int32} : (yI σ o k v).1 a b = if a = o then (if b = k then v else σ.1 a b) else σ.1 a b := rfl
theorem yI_2 {σ : xS2} {o k : Nat} {v : Int32} : (yI σ o k v).2 = σ.2 := rfl
theorem yL_1 {σ : xS2} {o k : Nat} {v : Int64} : (yL σ o k v).1 = σ.1 := rfl
theorem yL_2 {σ : xS2} {o k a b : Nat} {v : Int64} : (yL σ o k v).2 a b = if a = o then (if b = k then v else σ.2 a b) else σ.2 a b := rfl
/-- the invariant by its pieces, carried where two frames leave them -/
theorem xIP_f {σ τ ρ : xS2} {l1 l2 : List (Nat × Nat)} (f1 : xFr l1 σ τ) (f2 : xFr l2 τ ρ) (d1 : xDj zsP l1 = true) (d2 : xDj zsP l2 = true) (h : xIP σ) : xIP ρ := xIP_eq (xEq_tr (xFr_eq f1 d1) (xFr_eq f2 d2)) h
theorem xIC_f {σ τ ρ : xS2} {l1 l2 : List (Nat × Nat)} (f1 : xFr l1 σ τ) (f2 : xFr l2 τ ρ) (d1 : xDj zsC l1 = true) (d2 : xDj zsC l2 = true) (h : xIC σ) : xIC ρ := xIC_eq (xEq_tr (xFr_eq f1 d1) (xFr_eq f2 d2)) h
theorem xIT_f {σ τ ρ : xS2} {l1 l2 : List (Nat × Nat)} (f1 : xFr l1 σ τ) (f2 : xFr l2 τ ρ) (d1 : xDj zsT l1 = true) (d2 : xDj zsT l2 = true) (h : xIT σ) : xIT ρ := xIT_eq (xEq_tr (xFr_eq f1 d1) (xFr_eq f2 d2)) h
theorem xIK_f {σ τ ρ : xS2} {l1 l2 : List (Nat × Nat)} (f1 : xFr l1 σ τ) (f2 : xFr l2 τ ρ) (d1 : xDj zsK l1 = true) (d2 : xDj zsK l2 = true) (h : xIK σ) : xIK ρ := xIK_eq (xEq_tr (xFr_eq f1 d1) (xFr_eq f2 d2)) h
theorem xIU_f {σ τ ρ : xS2} {l1 l2 : List (Nat × Nat)} (f1 : xFr l1 σ τ) (f2 : xFr l2 τ ρ) (d1 : xDj zsU l1 = true) (d2 : xDj zsU l2 = true) (h : xIU σ) : xIU ρ := xIU_eq (xEq_tr (xFr_eq f1 d1) (xFr_eq f2 d2)) h
theorem xIF_f {σ τ ρ : xS2} {l1 l2 : List (Nat × Nat)} (f1 : xFr l1 σ τ) (f2 : xFr l2 τ ρ) (d1 : xDj zsF l1 = true) (d2 : xDj zsF l2 = true) (h : xIF σ) : xIF ρ := xIF_eq (xEq_tr (xFr_eq f1 d1) (xFr_eq f2 d2)) h
theorem xIL_f {σ τ ρ : xS2} {l1 l2 : List (Nat × Nat)} (f1 : xFr l1 σ τ) (f2 : xFr l2 τ ρ) (d1 : xDj zsL l1 = true) (d2 : xDj zsL l2 = true) (h : xIL σ) : xIL ρ := xIL_eq (xEq_tr (xFr_eq f1 d1) (xFr_eq f2 d2)) h
theorem xIW_f {σ τ ρ : xS2} {l1 l2 : List (Nat × Nat)} (f1 : xFr l1 σ τ) (f2 : xFr l2 τ ρ) (d1 : xDj zsW l1 = true) (d2 : xDj zsW l2 = true) (h : xIW σ) : xIW ρ := xIW_eq (xEq_tr (xFr_eq f1 d1) (xFr_eq f2 d2)) h
theorem xIS_f {σ τ ρ : xS2} {l1 l2 : List (Nat × Nat)} (f1 : xFr l1 σ τ) (f2 : xFr l2 τ ρ) (d1 : xDj ((40, 3) :: zsS) l1 = true) (d2 : xDj ((40, 3) :: zsS) l2 = true) (h : xIS σ) : xIS ρ := by
  have e := xEq_tr (xFr_eq f1 d1) (xFr_eq f2 d2)
  refine xIS_eq (fun o k hk => e o k ?_) (e 40 3 rfl).1 h
  show (_ || xWn zsS o k) = true
  rw [hk, Bool.or_true]
-- cost
theorem step_cost : xStep_cost xIv := by
  intro a1 a2 σ hI
  have hP := hI.1
  unfold J_X8_cost J_X9_cost
  rw [X3_isCell]
  cases hc : J_X9_isCell a1 with
  | false => exact ⟨-1, rfl, rfl, hI⟩
  | true =>
    rw [if_neg xb_nt, if_neg xb_nt]
    obtain ⟨c, hc35, hcb, rfl⟩ := xRg_nat (X9_rg 0 35 hc rfl rfl)
    cases hw : J_X9_in a2 1 4 with
    | false =>
      refine ⟨-1, ?_, rfl, hI⟩
      have hn := X9_nrg 1 4 hw rfl rfl
      by_cases q1 : a2 < 1
      · rw [if_pos q1]
      · rw [if_neg q1]
        by_cases q2 : a2 ≤ 4
        · exfalso
          apply hn
          rw [Int32.lt_iff_toInt_lt, show (1 : Int32).toInt = 1 from rfl] at q1
          rw [Int32.le_iff_toInt_le, show (4 : Int32).toInt = 4 from rfl] at q2
          exact ⟨by omega, q2⟩
        · rw [if_neg q2]
    | true =>
      have hr := X9_rg 1 4 hw rfl rfl
      obtain ⟨w, hw4, hwb, rfl⟩ := xRg_nat (xRg_w hr (by decide) (Int.le_refl _))
      have hw0 : 0 < w := by
        have h1 := hr.1
        rw [nI_toInt (by omega)] at h1
        omega
      rw [if_neg (r_nlt (x := 1) 1 rfl (by decide) hwb (by omega)), if_pos (r_le (x := 4) 4 rfl (by decide) hwb (by omega)), if_neg xb_nt, X3_nb c (by omega) w (by omega) hw0, X9_nb c (by omega) w (by omega) hw0]
      unfold xNbI
      by_cases hn : xNb c w < 36
      · rw [if_pos hn, if_pos (nI_pos' (by omega)), if_pos (nI_pos' (by omega)), X3_price (by omega) hn, X9_costOf (by omega) (by omega) hw0 hn, Option.bind_some, Option.bind_some]
        refine ⟨_, rfl, ?_, hI⟩
        rw [hP.2.2.2.2.1.1, (hP.1 c (by omega)).1, (hP.1 _ hn).1]
      · rw [if_neg hn, if_neg (by decide), if_neg (by decide)]
        exact ⟨-2, rfl, rfl, hI⟩
-- led
theorem step_led : xStep_led xIv := by
  intro a1 a2 σ hI
  have hT := hI.2.2.1
  obtain ⟨t, ht60, htb, ht⟩ := xRg_nat hT.1.2
  unfold J_X8_led J_X9_led
  rw [hT.1.1, ht]
  cases hd : J_X9_in a1 0 (nI t - 1) with
  | false =>
    refine ⟨-1, ?_, rfl, hI⟩
    have hn := X9_in_f hd
    by_cases q1 : a1 < 0
    · rw [if_pos q1]
    · rw [if_neg q1]
      by_cases q2 : nI t ≤ a1
      · rw [if_pos q2]
      · exfalso
        apply hn
        rw [Int32.lt_iff_toInt_lt] at q1
        rw [Int32.le_iff_toInt_le, nI_toInt (by omega)] at q2
        rw [Int32.toInt_sub, nI_toInt (by omega), show (1 : Int32).toInt = 1 from rfl, Int.bmod_eq_of_le (by omega) (by omega)]
        rw [show (0 : Int32).toInt = 0 from rfl] at *
        exact ⟨by omega, by omega⟩
  | true =>
    have hr := X9_in_t hd
    rw [Int32.toInt_sub, nI_toInt (by omega), show (1 : Int32).toInt = 1 from rfl, Int.bmod_eq_of_le (by omega) (by omega)] at hr
    obtain ⟨d, hdt, hdb, rfl⟩ := xRg_nat (b := (t : Int) - 1) (xRg_w hr (by decide) (by omega))
    have hd2 : d < t := by
      have := hr.2
      rw [nI_toInt (by omega)] at this
      omega
    rw [if_neg (nI_pos (by omega)), if_neg (c_nle (by omega) (by omega) hd2), if_neg (k_nle (x := 60) 60 rfl (by decide) hdb (by omega)), X8_oneOf2, if_neg xb_nt]
    cases hw : J_X9_in a2 0 1 with
    | false => exact ⟨-1, rfl, rfl, hI⟩
    | true =>
      rw [if_neg xb_nt, if_neg xb_nt, c_xin (by omega) (by decide), xgd_t, xgd_t, nI_c hdb, xgd_t, xgd_t]
      by_cases q : a2 = 0
      · rw [if_pos q, if_pos q, hT.2.1 d (by omega)]
        exact ⟨_, rfl, rfl, hI⟩
      · rw [if_neg q, if_neg q]
        obtain ⟨e, hrg⟩ := hT.2.2 d (by omega)
        rw [e]
        obtain ⟨n, hn1, hnb, hn⟩ := xRg_nat hrg
        rw [hn]
        rcases (show n = 0 ∨ n = 1 by omega) with rfl | rfl
        · exact ⟨0, rfl, rfl, hI⟩
        · exact ⟨1, rfl, rfl, hI⟩
-- trace
theorem step_trace : xStep_trace xIv := by
  intro a1 σ hI
  have hW := hI.2.2.2.2.2.2.2.2
  obtain ⟨n, hn1, hnb, hn⟩ := xRg_nat hW.2.2.1.2
  unfold J_X8_trace J_X9_trace J_X7_ranAt
  rw [hW.2.2.1.1, hn]
  by_cases q1 : a1 < 0
  · rw [if_pos q1, if_pos q1]; exact ⟨-1, rfl, rfl, hI⟩
  · rw [if_neg q1, if_neg q1]
    by_cases q2 : nI n ≤ a1
    · rw [if_pos q2, if_pos q2]; exact ⟨-1, rfl, rfl, hI⟩
    · rw [if_neg q2, if_neg q2]
      by_cases q3 : 24 ≤ a1
      · rw [if_pos q3, if_pos q3]; exact ⟨-1, rfl, rfl, hI⟩
      · rw [if_neg q3, if_neg q3]
        rw [Int32.lt_iff_toInt_lt] at q1
        rw [Int32.le_iff_toInt_le, nI_toInt (by omega)] at q2
        rw [Int32.le_iff_toInt_le] at q3
        have h24 : (24 : Int32).toInt = 24 := rfl
        have h00 : (0 : Int32).toInt = 0 := rfl
        obtain ⟨i, hi, hib, rfl⟩ := xRg_nat (x := a1) (b := 23) ⟨by omega, by omega⟩
        rw [nI_toInt (by omega)] at q2
        rw [c_xin (by omega) (by decide), xgd_t, xgd_t, nI_c hib, Option.bind_some]
        obtain ⟨e, hrg⟩ := hW.2.2.2 i (by omega) (by rw [hn, nI_toInt (by omega)]; omega)
        rw [e, if_pos (by rw [Int32.le_iff_toInt_le]; have := hrg.1; omega)]
        exact ⟨_, rfl, rfl, hI⟩
-- image
theorem X0_become {σ : xS2} {a b : Nat} (h : b ≠ a) : J_X0_become a b σ = some (yL (yI (yI (yI σ a 0 (σ.1 b 0)) a 1 (σ.1 b 1)) a 2 (σ.1 b 2)) a 3 (σ.2 b 3)) := rfl
theorem step_image : xStep_image xIv := by
  intro σ hI
  obtain ⟨hP, hC, hT, hK, hU, hF, hL, hS, hW⟩ := hI
  have e1 : ∃ r τ, J_X8_image σ = some (r, τ) := ⟨_, _, rfl⟩
  obtain ⟨r, τ, e1⟩ := e1
  have f1 := F_X8_image e1
  obtain ⟨r2, ρ, e2⟩ : ∃ r ρ, J_X9_image τ = some (r, ρ) := ⟨_, _, rfl⟩
  have f2 := F_X9_image e2
  obtain ⟨d1, d2⟩ := xso2 (e1.symm.trans rfl : _ = J_X8_image σ)
  have hr : r = σ.1 0 12 := by
    have := e1
    simp [J_X8_image, X0_become, yI_1, yL_1] at this
    exact this.1.symm
  have hr2 : r2 = τ.1 43 7 := by
    have := e2
    simp only [J_X9_image, Option.some.injEq, Prod.mk.injEq] at this
    exact this.1.symm
  have h7 : τ.1 43 7 = σ.1 43 7 := (f1 43 7 rfl).1
  have hrr : r2 = r := by rw [hr2, hr, h7, hT.1.1]
  subst hrr
  refine ⟨r2, τ, ρ, e1, e2, xIP_f f1 f2 (by decide) (by decide) hP, xIC_f f1 f2 (by decide) (by decide) hC, xIT_f f1 f2 (by decide) (by decide) hT, ?_, xIU_f f1 f2 (by decide) (by decide) hU, xIF_f f1 f2 (by decide) (by decide) hF, xIL_f f1 f2 (by decide) (by decide) hL, xIS_f f1 f2 (by decide) (by decide) hS, xIW_f f1 f2 (by decide) (by decide) hW⟩
  right
  have hτ : τ = yI (yL (yI (yI (yI σ 5 0 (σ.1 3 0)) 5 1 (σ.1 3 1)) 5 2 (σ.1 3 2)) 5 3 (σ.2 3 3)) 0 13 (σ.1 0 12) := by
    have := e1
    simp [J_X8_image, X0_become, yI_1, yL_1] at this
    exact this.2.symm
  have hρ : ρ = yL (yI (yI (yI (yI (yI τ 43 46 1) 43 47 (τ.1 43 7)) 43 48 (τ.1 43 8)) 43 49 (τ.1 43 9)) 43 50 (τ.1 43 10)) 43 51 (τ.2 43 11) := by
    have := e2
    simp only [J_X9_image, Option.some.injEq, Prod.mk.injEq] at this
    exact this.2.symm
  subst hτ
  subst hρ
  simp [yI_1, yI_2, yL_1, yL_2]
  exact ⟨⟨hT.1.1, hT.1.2⟩, hC.1, hC.2.1, hC.2.2.1, hC.2.2.2⟩
