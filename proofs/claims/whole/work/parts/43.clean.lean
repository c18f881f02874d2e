/-! clean: the odds alone count. -/
def xO (h : Int32) : xS2 := (fun _ _ => h, fun _ _ => 0)
theorem clean91_any {l1 l3 : Int32} {l4 l8 : Int64} {σ τ : xS2} : ∀ (f : Nat) (l6 : Int64) (l10 : Int32), J_X8_clean_91 f l1 l3 l4 l6 l8 l10 σ = J_X8_clean_91 f l1 l3 l4 l6 l8 l10 τ := by
  intro f
  induction f with
  | zero => intro l6 l10; rfl
  | succ f ih =>
    intro l6 l10
    rw [E_X8_clean_91, E_X8_clean_91]
    simp only [ih]
    rfl
theorem clean71_any {l1 l3 : Int32} {l4 : Int64} {σ τ : xS2} (h : τ.1 43 6 = σ.1 43 6) : ∀ (f : Nat) (l6 : Int64) (l8 : Int32), J_X9_clean_71 f l1 l3 l4 l6 l8 σ = J_X9_clean_71 f l1 l3 l4 l6 l8 τ := by
  intro f
  induction f with
  | zero => intro l6 l8; rfl
  | succ f ih =>
    intro l6 l8
    rw [E_X9_clean_71, E_X9_clean_71, h]
    simp only [ih]
theorem X8_clean_any {a1 a2 a3 : Int32} {σ τ : xS2} (h : J_X3_odds τ = J_X3_odds σ) : J_X8_clean a1 a2 a3 σ = J_X8_clean a1 a2 a3 τ := by
  unfold J_X8_clean
  rw [h]
  simp only [clean91_any (σ := σ) (τ := τ)]
  rfl
theorem X9_clean_any {a1 a2 a3 : Int32} {σ τ : xS2} (h : τ.1 43 6 = σ.1 43 6) : J_X9_clean a1 a2 a3 σ = J_X9_clean a1 a2 a3 τ := by
  unfold J_X9_clean
  rw [h]
  simp only [clean71_any h]
set_option maxRecDepth 100000 in
theorem clean_all : ∀ h, h < 13 → ∀ a, a < 9 → ∀ b, b < 2 → ∀ c, c < 2 → (J_X8_clean (nI a) (nI b) (nI c) (xO (nI h))).isSome = true ∧ J_X9_clean (nI a) (nI b) (nI c) (xO (nI h)) = J_X8_clean (nI a) (nI b) (nI c) (xO (nI h)) := by decide +kernel
theorem step_clean : xStep_clean xIv := by
  intro a1 a2 a3 σ hI
  obtain ⟨e6, hr⟩ := hI.1.2.2.2.2.2
  obtain ⟨h, hh, hhb, e⟩ := xRg_nat hr
  by_cases g : xRg a1 0 8 ∧ xRg a2 0 1 ∧ xRg a3 0 1
  · obtain ⟨g1, g2, g3⟩ := g
    obtain ⟨a, ha, hab, rfl⟩ := xRg_nat g1
    obtain ⟨b, hb, hbb, rfl⟩ := xRg_nat g2
    obtain ⟨c, hc, hcb, rfl⟩ := xRg_nat g3
    obtain ⟨k1, k2⟩ := clean_all h (by omega) a (by omega) b (by omega) c (by omega)
    rw [← X9_clean_any (σ := σ) (τ := xO (nI h)) (by rw [e6, e]; rfl), ← X8_clean_any (σ := σ) (τ := xO (nI h)) (by show nI h = σ.1 2 193; rw [e])] at k2
    rw [← X8_clean_any (σ := σ) (τ := xO (nI h)) (by show nI h = σ.1 2 193; rw [e])] at k1
    obtain ⟨r, hr2⟩ := Option.isSome_iff_exists.mp k1
    exact ⟨r, hr2, k2.trans hr2, hI⟩
  · have c1 : J_X8_clean a1 a2 a3 σ = some (-9223372036854775808) := by
      unfold J_X8_clean
      rw [X8_oneOf2, X8_oneOf2]
      by_cases q1 : a1 < 0
      · rw [if_pos q1]
      · rw [if_neg q1]
        by_cases q2 : 8 < a1
        · rw [if_pos q2]
        · rw [if_neg q2]
          cases z2 : J_X9_in a2 0 1 with
          | false => rw [if_pos xb_ff]
          | true =>
            rw [if_neg xb_nt]
            cases z3 : J_X9_in a3 0 1 with
            | false => rw [if_pos xb_ff]
            | true =>
              rw [Int32.lt_iff_toInt_lt, show (0 : Int32).toInt = 0 from rfl] at q1
              rw [Int32.lt_iff_toInt_lt, show (8 : Int32).toInt = 8 from rfl] at q2
              exact absurd ⟨⟨by omega, by omega⟩, X9_rg 0 1 z2 rfl rfl, X9_rg 0 1 z3 rfl rfl⟩ g
    refine ⟨_, c1, ?_, hI⟩
    unfold J_X9_clean
    cases z1 : J_X9_in a1 0 8 with
    | false => rw [if_pos xb_ff]
    | true =>
      rw [if_neg xb_nt]
      cases z2 : J_X9_in a2 0 1 with
      | false => rw [if_pos xb_ff]
      | true =>
        rw [if_neg xb_nt]
        cases z3 : J_X9_in a3 0 1 with
        | false => rw [if_pos xb_ff]
        | true => exact absurd ⟨X9_rg 0 8 z1 rfl rfl, X9_rg 0 1 z2 rfl rfl, X9_rg 0 1 z3 rfl rfl⟩ g
