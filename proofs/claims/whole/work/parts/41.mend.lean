/-! mend. -/
theorem xsv0 : ∀ w, w < 6 → xsv 0 (nI w) = nI (xMy w) ∧ xsv 1 (nI w) = nI (xBg w) ∧ (xsv 2 (nI w)).toInt = xLo w ∧ (xsv 3 (nI w)).toInt = xHi w ∧ (J_X9_mostOf (nI w)).toInt = xHi w ∧ 0 < xMy w ∧ xMy w ≤ 60 := by decide +kernel
theorem X9_thing_at : ∀ w, w < 6 → ∀ a, a < 60 → J_X9_isThing (nI a) (nI w) = decide (a < xMy w) := by decide +kernel
theorem X9_in_lo {a lo hi : Int32} (h : a.toInt < lo.toInt) : J_X9_in a lo hi = false := by rw [X9_in, decide_eq_false (by omega), Bool.false_and]
theorem X9_in_hi {a lo hi : Int32} (h : hi.toInt < a.toInt) : J_X9_in a lo hi = false := by rw [X9_in, decide_eq_false (p := a.toInt ≤ hi.toInt) (by omega), Bool.and_false]
theorem place_thing (a1 a2 : Int32) (σ : xS2) : (∃ w a, w < 6 ∧ a < xMy w ∧ a1 = nI a ∧ a2 = nI w ∧ J_X3_place a1 a2 σ = some (nI (xBg w + a)) ∧ J_X9_isThing a1 a2 = true) ∨ (J_X3_place a1 a2 σ = some (-1) ∧ J_X9_isThing a1 a2 = false) := by
  by_cases h2 : xRg a2 0 5
  · obtain ⟨w, hw5, hwb, rfl⟩ := xRg_nat h2
    have hw : w < 6 := by omega
    obtain ⟨s0, s1, -, -, -, m0, m60⟩ := xsv0 w hw
    have ep : J_X3_place a1 (nI w) σ = if a1 < 0 then some (-1) else if a1 < nI (xMy w) then some (nI (xBg w) + a1) else some (-1) := by
      unfold J_X3_place
      rw [if_neg (nI_pos (by omega)), if_neg (k_nle (x := 6) 6 rfl (by decide) (by omega) hw), c_xin hw (by decide), xgd_t, xgd_t, s0, s1]
    by_cases h1 : xRg a1 0 59
    · obtain ⟨a, ha, hab, rfl⟩ := xRg_nat h1
      by_cases q : a < xMy w
      · refine Or.inl ⟨w, a, hw, q, rfl, rfl, ?_, ?_⟩
        · rw [ep, if_neg (nI_pos (by omega)), if_pos (c_lt (by omega) (by omega) q), nI_add]
        · rw [X9_thing_at w hw a (by omega), decide_eq_true q]
      · refine Or.inr ⟨?_, ?_⟩
        · rw [ep, if_neg (nI_pos (by omega)), if_neg (c_nlt (by omega) (by omega) (by omega))]
        · rw [X9_thing_at w hw a (by omega), decide_eq_false q]
    · refine Or.inr ⟨?_, ?_⟩
      · rw [ep]
        by_cases q1 : a1 < 0
        · rw [if_pos q1]
        · rw [if_neg q1, if_neg]
          intro z
          rw [Int32.lt_iff_toInt_lt, show (0 : Int32).toInt = 0 from rfl] at q1
          rw [Int32.lt_iff_toInt_lt, nI_toInt (by omega)] at z
          exact h1 ⟨by omega, by omega⟩
      · have hd : J_X9_in a1 0 59 = false := by
          cases hh : J_X9_in a1 0 59 with
          | false => rfl
          | true => exact absurd (X9_rg 0 59 hh rfl rfl) h1
        have hc : J_X9_isCell a1 = false := by
          cases hh : J_X9_isCell a1 with
          | false => rfl
          | true => exact absurd (xRg_w (X9_rg 0 35 hh rfl rfl) (by decide) (by decide)) h1
        have h0 : ¬ a1 = 0 := fun z => h1 (by rw [z]; exact ⟨by decide, by decide⟩)
        unfold J_X9_isThing J_X9_isDay
        rw [hd, hc, if_neg h0]
        rcases w6 hw with rfl | rfl | rfl | rfl | rfl | rfl <;> rfl
  · refine Or.inr ⟨?_, ?_⟩
    · unfold J_X3_place
      by_cases q1 : a2 < 0
      · rw [if_pos q1]
      · rw [if_neg q1, if_pos]
        rw [Int32.lt_iff_toInt_lt, show (0 : Int32).toInt = 0 from rfl] at q1
        rw [Int32.le_iff_toInt_le, show (6 : Int32).toInt = 6 from rfl]
        have : ¬ (a2.toInt ≤ 5) := fun z => h2 ⟨by omega, z⟩
        omega
    · have e : ∀ lo hi : Int32, 0 ≤ lo.toInt → hi.toInt ≤ 5 → J_X9_in a2 lo hi = false := by
        intro lo hi h h'
        cases hh : J_X9_in a2 lo hi with
        | false => rfl
        | true => exact absurd (xRg_w (X9_in_t hh) h h') h2
      unfold J_X9_isThing
      rw [e 0 1 (by decide) (by decide), e 2 3 (by decide) (by decide), e 4 5 (by decide) (by decide)]
      rfl
theorem X3_mayBe_eq {w : Nat} {v : Int32} {σ : xS2} (hw : w < 6) : J_X3_mayBe (nI w) v σ = some (decide (xLo w ≤ v.toInt ∧ v.toInt ≤ xHi w)) := by
  obtain ⟨-, -, s2, s3, -, -⟩ := xsv0 w hw
  unfold J_X3_mayBe
  rw [if_neg (nI_pos (by omega)), if_neg (k_nle (x := 6) 6 rfl (by decide) (by omega) hw), c_xin hw (by decide), xgd_t, xgd_t]
  by_cases q1 : v < xsv 2 (nI w)
  · rw [if_pos q1]
    rw [Int32.lt_iff_toInt_lt, s2] at q1
    rw [decide_eq_false (by omega)]
  · rw [if_neg q1]
    rw [Int32.lt_iff_toInt_lt, s2] at q1
    by_cases q2 : xsv 3 (nI w) < v
    · rw [if_pos q2]
      rw [Int32.lt_iff_toInt_lt, s3] at q2
      rw [decide_eq_false (by omega)]
    · rw [if_neg q2]
      rw [Int32.lt_iff_toInt_lt, s3] at q2
      rw [decide_eq_true (by omega)]
theorem X9_mend_eq {w a : Nat} {v : Int32} {σ : xS2} (hw : w < 6) (ha : a < xMy w) : J_X9_mend (nI a) (nI w) v σ = if decide (xLo w ≤ v.toInt ∧ v.toInt ≤ xHi w) = true then J_X9_changes (nI w) (nI a) v σ else some (-1, σ) := by
  obtain ⟨-, -, -, -, s4, -, m60⟩ := xsv0 w hw
  have hb : ∀ {x : Option (Int32 × xS2)}, (x.bind fun x7 => some (x7.1, x7.2)) = x := fun {x} => by cases x <;> rfl
  have key : ∀ b : Bool, (xb b).toInt = xLo w → J_X9_mend_20 (nI a) (nI w) v v b σ = if decide (xLo w ≤ v.toInt ∧ v.toInt ≤ xHi w) = true then J_X9_changes (nI w) (nI a) v σ else some (-1, σ) := by
    intro b hb2
    unfold J_X9_mend_20
    rw [hb, X9_in, s4, hb2, ← Bool.decide_and]
    by_cases z : xLo w ≤ v.toInt ∧ v.toInt ≤ xHi w
    · rw [decide_eq_true z, if_neg xb_nt, if_pos rfl]
    · rw [decide_eq_false z, if_pos xb_ff, if_neg (by decide)]
  unfold J_X9_mend
  rw [X9_thing_at w hw a (by omega), decide_eq_true ha, if_neg xb_nt]
  by_cases q : nI w = 4
  · have : w = 4 := (nI_eq (by omega) (by decide)).mp (q.trans (show (4 : Int32) = nI 4 from rfl))
    rw [if_pos q, key true (by rw [this]; rfl)]
  · have : w ≠ 4 := fun z => q (by rw [z]; rfl)
    rw [if_neg q, key false (by unfold xLo; rw [if_neg this]; rfl)]
theorem drop_eq {σ : xS2} : ∃ τ, J_X1_dropOldest σ = some τ ∧ τ.1 23 3 = nI 39 ∧ ∀ o, (o = 24 ∨ o = 25 ∨ o = 26) → ∀ i, τ.1 o i = if i < 39 then σ.1 o (i + 1) else σ.1 o i := by
  have cp : ∀ (f : Nat → Int32) (i : Nat), va_cpy f f (1 : Int32).toNatClampNeg (0 : Int32).toNatClampNeg (39 : Int32).toNatClampNeg i = if i < 39 then f (i + 1) else f i := by
    intro f i
    show (if 0 ≤ i ∧ i < 0 + 39 then f (1 + (i - 0)) else f i) = _
    by_cases q : i < 39
    · rw [if_pos (by omega), if_pos q, show 1 + (i - 0) = i + 1 by omega]
    · rw [if_neg (by omega), if_neg q]
  refine ⟨_, rfl, rfl, fun o ho i => ?_⟩
  rcases ho with rfl | rfl | rfl
  · exact cp (σ.1 24) i
  · exact cp (σ.1 25) i
  · exact cp (σ.1 26) i
/-- the count after one more, and how far all were moved -/
def xNo (d : Nat) : Nat := if d < 40 then d else 39
def xDr (d : Nat) : Nat := if d < 40 then 0 else 1
theorem note_eq {σ : xS2} {d : Nat} {p v u : Int32} (hd : d ≤ 40) (h3 : σ.1 23 3 = nI d) : ∃ τ, J_X1_note p v u σ = some τ ∧ τ.1 23 3 = nI (xNo d + 1) ∧ τ.1 23 4 = nI (xNo d + 1) ∧
    (∀ i, i ≤ xNo d → τ.1 24 i = (if i = xNo d then p else σ.1 24 (i + xDr d)) ∧ τ.1 25 i = (if i = xNo d then v else σ.1 25 (i + xDr d)) ∧ τ.1 26 i = if i = xNo d then u else σ.1 26 (i + xDr d)) := by
  have key : ∀ (ρ : xS2) (e : Nat), e < 40 → ρ.1 23 3 = nI e → ∃ τ, J_X1_note_13 p v u ρ = some τ ∧ τ.1 23 3 = nI (e + 1) ∧ τ.1 23 4 = nI (e + 1) ∧ ∀ i, τ.1 24 i = (if i = e then p else ρ.1 24 i) ∧ τ.1 25 i = (if i = e then v else ρ.1 25 i) ∧ τ.1 26 i = if i = e then u else ρ.1 26 i := by
    intro ρ e he h
    unfold J_X1_note_13
    rw [h, c_xin he (by decide), xgd_t, xgd_t, xgd_t, nI_c (by omega), nI_1]
    exact ⟨_, rfl, rfl, rfl, fun i => ⟨rfl, rfl, rfl⟩⟩
  unfold J_X1_note
  rw [h3]
  by_cases q : d < 40
  · obtain ⟨τ, e1, e2, e3, e4⟩ := key σ d q h3
    have z1 : xNo d = d := if_pos q
    have z2 : xDr d = 0 := if_pos q
    rw [if_pos (r_lt (x := (40 : Int32)) 40 rfl (by decide) (by omega) q), z1, z2]
    exact ⟨τ, e1, e2, e3, fun i _ => e4 i⟩
  · obtain ⟨ρ, r1, r2, r3⟩ := drop_eq (σ := σ)
    obtain ⟨τ, e1, e2, e3, e4⟩ := key ρ 39 (by decide) r2
    have z1 : xNo d = 39 := if_neg q
    have z2 : xDr d = 1 := if_neg q
    rw [if_neg (r_nlt (x := (40 : Int32)) 40 rfl (by decide) (by omega) (by omega)), r1, Option.bind_some, z1, z2]
    refine ⟨τ, e1, e2, e3, fun i hi => ?_⟩
    obtain ⟨x1, x2, x3⟩ := e4 i
    rw [x1, x2, x3]
    by_cases q2 : i = 39
    · rw [if_pos q2, if_pos q2, if_pos q2, if_pos q2, if_pos q2, if_pos q2]; exact ⟨rfl, rfl, rfl⟩
    · rw [if_neg q2, if_neg q2, if_neg q2, if_neg q2, if_neg q2, if_neg q2, r3 24 (by omega), r3 25 (by omega), r3 26 (by omega), if_pos (by omega), if_pos (by omega), if_pos (by omega)]
      exact ⟨rfl, rfl, rfl⟩
theorem moved_eq {l1 l2 l3 l4 : Int32} : ∀ (n j f : Nat) (σ : xS2), j + n = 40 → 1 ≤ j → n < f → ∃ ρ, J_X9_changes_34 f l1 l2 l3 l4 (nI j) σ = J_X9_changes_121 l1 l2 l3 l4 (yI ρ 43 14 (ρ.1 43 14 - 1)) ∧ (∀ o k, o < 50 ∨ 53 < o → ρ.1 o k = σ.1 o k) ∧
    ∀ o, (o = 50 ∨ o = 51 ∨ o = 52 ∨ o = 53) → ∀ k, ρ.1 o k = if j ≤ k + 1 ∧ k < 39 then σ.1 o (k + 1) else σ.1 o k := by
  intro n
  induction n with
  | zero =>
    intro j f σ h hj hf
    obtain ⟨f, rfl⟩ : ∃ g, f = g + 1 := ⟨f - 1, by omega⟩
    refine ⟨σ, ?_, fun o k _ => rfl, fun o _ k => by rw [if_neg (by omega)]⟩
    rw [E_X9_changes_34, show j = 40 by omega, if_pos (by decide)]
  | succ n ih =>
    intro j f σ h hj hf
    obtain ⟨f, rfl⟩ : ∃ g, f = g + 1 := ⟨f - 1, by omega⟩
    obtain ⟨μ, hμ⟩ : ∃ μ, μ = yI (yI (yI (yI σ 50 (j - 1) (σ.1 50 j)) 51 (j - 1) (σ.1 51 j)) 52 (j - 1) (σ.1 52 j)) 53 (j - 1) (σ.1 53 j) := ⟨_, rfl⟩
    obtain ⟨ρ, e, h1, h2⟩ := ih (j + 1) f μ (by omega) (by omega) (by omega)
    have m1 : ∀ o k, o < 50 ∨ 53 < o → μ.1 o k = σ.1 o k := fun o k ho => by
      rw [hμ, yI_1, if_neg (by omega), yI_1, if_neg (by omega), yI_1, if_neg (by omega), yI_1, if_neg (by omega)]
    have m2 : ∀ o, (o = 50 ∨ o = 51 ∨ o = 52 ∨ o = 53) → ∀ k, μ.1 o k = if k = j - 1 then σ.1 o j else σ.1 o k := fun o ho k => by
      rcases ho with rfl | rfl | rfl | rfl <;> rw [hμ] <;> rfl
    refine ⟨ρ, ?_, fun o k ho => by rw [h1 o k ho, m1 o k ho], fun o ho k => ?_⟩
    · rw [E_X9_changes_34, if_neg (k_nle (x := (40 : Int32)) 40 rfl (by decide) (by omega) (by omega)), nI_sub1 (by omega), c_xin (by omega) (by decide), c_xin (by omega) (by decide), xgd_t, xgd_t, xgd_t, xgd_t, xgd_t, xgd_t, xgd_t, xgd_t, nI_c (by omega), nI_c (by omega), nI_1, ← e, hμ]
    · rw [h2 o ho k, m2 o ho, m2 o ho]
      by_cases q : j ≤ k + 1 ∧ k < 39
      · rw [if_pos q]
        by_cases q2 : k = j - 1
        · rw [if_neg (by omega), if_pos q2, show k + 1 = j by omega]
        · rw [if_pos (by omega), if_neg (by omega)]
      · rw [if_neg q, if_neg (by omega), if_neg (by omega)]
