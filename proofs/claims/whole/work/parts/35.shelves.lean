/-! The shelves: element, taken. -/
theorem nI_nm1 {n : Nat} (h : n < 2147483648) : ¬ nI n = -1 := fun z => by
  have := nI_pos (n := n) (by omega)
  rw [z] at this
  exact this (by decide)
theorem xb_ff : xb false = 0 := rfl
theorem xWsh0 {s k : Nat} (hs : s < 6) : xWn zsS (28 + 2 * s) k = true := by
  rcases (show s = 0 ∨ s = 1 ∨ s = 2 ∨ s = 3 ∨ s = 4 ∨ s = 5 by omega) with rfl | rfl | rfl | rfl | rfl | rfl <;> rfl
theorem xWsh1 {s k : Nat} (hs : s < 6) : xWn zsS (29 + 2 * s) k = true := by
  rcases (show s = 0 ∨ s = 1 ∨ s = 2 ∨ s = 3 ∨ s = 4 ∨ s = 5 by omega) with rfl | rfl | rfl | rfl | rfl | rfl <;> rfl
theorem xsh_prf {s : Nat} (hs : s < 6) : xSH (28 + 2 * s) = (5, 5) := by
  rcases (show s = 0 ∨ s = 1 ∨ s = 2 ∨ s = 3 ∨ s = 4 ∨ s = 5 by omega) with rfl | rfl | rfl | rfl | rfl | rfl <;> rfl
theorem xsh_prf1 {s : Nat} (hs : s < 6) : xSH (28 + 2 * s + 1) = (13, 60) := xsh_el (xsh_prf hs)
theorem x5_len {σ : xS2} {o n : Nat} {i : Int32} (hn : σ.1 o 4 = nI n) (h60 : n ≤ 60) : J_X5_hasPlaces o i 1 σ = J_X9_in i 0 (nI n - 1) := by
  unfold J_X5_hasPlaces
  rw [hn, X9_in]
  have e1 : (nI n - 1).toInt = (n : Int) - 1 := by rw [Int32.toInt_sub, nI_toInt (by omega), show (1 : Int32).toInt = 1 from rfl, Int.bmod_eq_of_le (by omega) (by omega)]
  rw [e1, show (0 : Int32).toInt = 0 from rfl]
  by_cases q1 : i < 0
  · rw [if_pos q1]
    rw [Int32.lt_iff_toInt_lt, show (0 : Int32).toInt = 0 from rfl] at q1
    rw [decide_eq_false (by omega), Bool.false_and]
  · rw [if_neg q1, if_neg (by decide)]
    rw [Int32.lt_iff_toInt_lt, show (0 : Int32).toInt = 0 from rfl] at q1
    rw [decide_eq_true (by omega : (0 : Int) ≤ i.toInt), Bool.true_and]
    by_cases q2 : nI n < i
    · rw [if_pos q2]
      rw [Int32.lt_iff_toInt_lt, nI_toInt (by omega)] at q2
      rw [decide_eq_false (by omega)]
    · rw [if_neg q2]
      rw [Int32.lt_iff_toInt_lt, nI_toInt (by omega)] at q2
      have e2 : (nI n - i).toInt = (n : Int) - i.toInt := by rw [Int32.toInt_sub, nI_toInt (by omega), Int.bmod_eq_of_le (by omega) (by omega)]
      by_cases q3 : nI n - i < 1
      · rw [if_pos q3]
        rw [Int32.lt_iff_toInt_lt, e2, show (1 : Int32).toInt = 1 from rfl] at q3
        rw [decide_eq_false (by omega)]
      · rw [if_neg q3]
        rw [Int32.lt_iff_toInt_lt, e2, show (1 : Int32).toInt = 1 from rfl] at q3
        rw [decide_eq_true (by omega)]
theorem x_lastidx {i : Int32} {n : Nat} (h60 : n ≤ 60) (h : J_X9_in i 0 (nI n - 1) = true) : ∃ k : Nat, k < n ∧ i = nI k := by
  have e1 : (nI n - 1).toInt = (n : Int) - 1 := by rw [Int32.toInt_sub, nI_toInt (by omega), show (1 : Int32).toInt = 1 from rfl, Int.bmod_eq_of_le (by omega) (by omega)]
  obtain ⟨k, hk, hkb, e⟩ := xRg_nat (X9_rg 0 ((n : Int) - 1) h rfl e1)
  exact ⟨k, by omega, e⟩
/-- what stands on a shelf, in both -/
theorem sh_cases {σ : xS2} {s : Nat} (h : xSh1 σ s) : (J_X5_isEmpty (28 + 2 * s) σ = true ∧ σ.1 70 s = -1) ∨
    (J_X5_isEmpty (28 + 2 * s) σ = false ∧ J_X5_isRow (28 + 2 * s) σ = false ∧ σ.1 (28 + 2 * s) 1 = 1 ∧ ∃ b : Nat, b < 50 ∧ σ.1 70 s = nI b ∧ σ.1 (28 + 2 * s) 2 = nI b ∧ (b : Int) < (σ.1 40 3).toInt) ∨
    (J_X5_isEmpty (28 + 2 * s) σ = false ∧ J_X5_isRow (28 + 2 * s) σ = true ∧ σ.1 (28 + 2 * s) 1 = 2 ∧ ∃ k : Nat, k < 5 ∧ σ.1 (28 + 2 * s) 3 = nI k ∧ σ.1 70 s = -2 - nI k ∧
      (k = 0 → ∀ i, i < 60 → -128 ≤ (σ.2 (29 + 2 * s) i).toInt ∧ (σ.2 (29 + 2 * s) i).toInt ≤ 127)) := by
  obtain ⟨-, -, -, h⟩ := h
  unfold J_X5_isEmpty J_X5_isRow
  rcases h with ⟨h1, h2⟩ | ⟨h1, h2, h3, h4⟩ | ⟨h1, h2, h3, h4⟩
  · exact Or.inl ⟨by rw [if_pos h1], h2⟩
  · right; left
    obtain ⟨b, hb, hbb, e⟩ := xRg_nat h3
    refine ⟨by rw [h1, if_neg (by decide)], by rw [h1, if_neg (by decide)], h1, b, by omega, e, by rw [← h2, e], ?_⟩
    rw [e, nI_toInt (by omega)] at h4
    exact h4
  · right; right
    obtain ⟨k, hk, hkb, e⟩ := xRg_nat h2
    refine ⟨by rw [h1, if_neg (by decide)], by rw [h1, if_pos (by decide)], h1, k, by omega, e, by rw [h3, e], fun k0 => h4 ?_⟩
    rw [e, k0]; rfl
theorem neg2 : ∀ k, k < 5 → ((-2 : Int32) - nI k < 0 ∧ ¬ (-2 : Int32) - nI k = -1 ∧ (-2 : Int32) - (-2 - nI k) = nI k) := by decide +kernel
theorem sh_why {σ : xS2} {s : Nat} {i : Int32} (hs : s < 6) (h : xSh1 σ s) : J_X9_whyNoPlace (nI s) i σ = some (J_X8_refusedPlace (28 + 2 * s) i σ) ∧
    ((J_X8_refusedPlace (28 + 2 * s) i σ = 0 ∧ ∃ j k : Nat, j < 60 ∧ i = nI j ∧ J_X5_hasPlaces (28 + 2 * s) i 1 σ = true ∧ k < 5 ∧ σ.1 (28 + 2 * s) 3 = nI k ∧ σ.1 70 s = -2 - nI k ∧ σ.1 (28 + 2 * s) 1 = 2) ∨ (¬ J_X8_refusedPlace (28 + 2 * s) i σ = 0 ∧ ¬ 0 ≤ J_X8_refusedPlace (28 + 2 * s) i σ)) := by
  unfold J_X9_whyNoPlace J_X8_refusedPlace
  have his : J_X9_isShelf (nI s) = true := X9_in_of (by rw [show (0 : Int32).toInt = 0 from rfl, show (5 : Int32).toInt = 5 from rfl]; exact nI_rg (by omega) (by omega))
  rw [his, if_neg xb_nt, c_xin hs (by decide), xgd_t, xgd_t, xgd_t, nI_c (by omega)]
  obtain ⟨n, hn, hnb, hne⟩ := xRg_nat h.1
  rcases sh_cases h with ⟨h1, h2⟩ | ⟨h1, h2, h3, b, hb, h4, h5, h6⟩ | ⟨h1, h2, h3, k, hk, h4, h5, h6⟩
  · rw [h2, if_pos rfl, h1, if_neg xb_nt]
    exact ⟨rfl, Or.inr ⟨by decide, by decide⟩⟩
  · rw [h4, if_neg (nI_nm1 (by omega)) , if_neg (nI_pos (by omega)), h1, if_pos (by decide), h2, if_pos (by decide)]
    exact ⟨rfl, Or.inr ⟨by decide, by decide⟩⟩
  · obtain ⟨q1, q2, q3⟩ := neg2 k hk
    rw [h5, if_neg q2, if_pos q1, h1, if_pos xb_ff, h2, if_neg xb_nt, h.2.1, x5_len hne (by omega), hne]
    cases hin : J_X9_in i 0 (nI n - 1) with
    | false =>
      rw [if_pos (by decide)]
      exact ⟨rfl, Or.inr ⟨by decide, by decide⟩⟩
    | true =>
      rw [if_neg xb_nt]
      obtain ⟨j, hj, e⟩ := x_lastidx (by omega) hin
      exact ⟨rfl, Or.inl ⟨rfl, j, k, by omega, e, rfl, hk, h4, rfl, h3⟩⟩
theorem isShelf_nat {a : Int32} (h : J_X9_isShelf a = true) : ∃ s : Nat, s < 6 ∧ a = nI s := by
  obtain ⟨s, hs, hsb, e⟩ := xRg_nat (X9_rg 0 5 h rfl rfl)
  exact ⟨s, by omega, e⟩
theorem m60 {s i : Nat} : (60 : Int32) * nI s + nI i = nI (60 * s + i) := by
  have : (60 : Int32) * nI s = nI (60 * s) := by
    show Int32.ofNat 60 * Int32.ofNat s = Int32.ofNat (60 * s)
    exact (Int32.ofNat_mul 60 s).symm
  rw [this, nI_add]
theorem step_element : xStep_element xIv := by
  intro a1 a2 σ hI
  have hS := hI.2.2.2.2.2.2.2.1
  unfold J_X8_element J_X9_element
  rw [X8_isShelf]
  cases hsh : J_X9_isShelf a1 with
  | false =>
    refine ⟨_, rfl, ?_, hI⟩
    unfold J_X9_whyNoPlace
    rw [hsh, if_pos (by decide), Option.bind_some, if_neg (by decide)]
  | true =>
    obtain ⟨s, hs, rfl⟩ := isShelf_nat hsh
    obtain ⟨e, hc⟩ := sh_why (i := a2) hs (hS s hs)
    rw [if_neg xb_nt, e, Option.bind_some, c_xin hs (by decide), xgd_t, nI_c (by omega), xgd_t]
    rcases hc with ⟨c0, j, k, hj, ej, hp, hk, -, -, -⟩ | ⟨c1, c2⟩
    · rw [c0, if_pos rfl, if_pos (by decide)]
      unfold J_X5_at
      subst ej
      rw [hp, if_neg xb_nt, c_xin hj (by decide), xgd_t, Option.bind_some, nI_c (by omega), m60, c_xin (by omega) (by decide), xgd_t, nI_c (by omega)]
      refine ⟨_, rfl, ?_, hI⟩
      rw [(hS s hs).2.2.1 j hj, show 28 + 2 * s + 1 = 29 + 2 * s by omega]
    · rw [if_neg c1, if_neg c2]
      exact ⟨_, rfl, rfl, hI⟩
theorem isUnder_any {a b : Int32} {σ τ : xS2} : ∀ (f : Nat) (l2 l3 : Int32), J_X7_isUnder_4 f a l2 l3 σ = J_X7_isUnder_4 f a l2 l3 τ := by
  intro f
  induction f with
  | zero => intro l2 l3; rfl
  | succ f ih =>
    intro l2 l3
    rw [E_X7_isUnder_4, E_X7_isUnder_4, ih]
theorem isUnder_eq0 : ∀ a, a < 8 → ∀ b, b < 8 → J_X7_isUnder (nI a) (nI b) (fun _ _ => 0, fun _ _ => 0) = some (J_X9_isUnder (nI a) (nI b)) := by decide +kernel
theorem isUnder_eq {σ : xS2} {a b : Nat} (ha : a < 8) (hb : b < 8) : J_X7_isUnder (nI a) (nI b) σ = some (J_X9_isUnder (nI a) (nI b)) := by
  rw [← isUnder_eq0 a ha b hb]
  exact isUnder_any (b := 0) _ _ _
theorem has_t {σ : xS2} {b : Nat} (hb : b < 50) (h : (b : Int) < (σ.1 40 3).toInt) : J_X7_has (nI b) σ = true := by
  unfold J_X7_has
  rw [if_neg (nI_pos (by omega)), if_neg (fun z => by rw [Int32.le_iff_toInt_le, nI_toInt (by omega)] at z; omega), if_neg (k_nle (x := 50) 50 rfl (by decide) (by omega) hb)]
theorem step_taken : xStep_taken xIv := by
  intro a1 a2 σ hI
  have hS := hI.2.2.2.2.2.2.2.1
  have hW := hI.2.2.2.2.2.2.2.2
  unfold J_X8_taken J_X9_taken
  rw [X8_isShelf, X7_isKind]
  cases hsh : J_X9_isShelf a1 with
  | false => exact ⟨-1, rfl, rfl, hI⟩
  | true =>
    rw [if_neg xb_nt, if_neg xb_nt]
    cases hk2 : J_X9_in a2 0 7 with
    | false => exact ⟨-1, rfl, rfl, hI⟩
    | true =>
      rw [if_neg xb_nt, if_neg xb_nt]
      obtain ⟨s, hs, rfl⟩ := isShelf_nat hsh
      obtain ⟨q, hq, hqb, rfl⟩ := xRg_nat (X9_rg 0 7 hk2 rfl rfl)
      rw [c_xin hs (by decide), xgd_t, xgd_t, xgd_t, xgd_t, xgd_t, xgd_t, xgd_t, nI_c (by omega)]
      rcases sh_cases (hS s hs) with ⟨h1, h2⟩ | ⟨h1, h2, h3, b, hb, h4, h5, h6⟩ | ⟨h1, h2, h3, k, hk, h4, h5, h6⟩
      · rw [h1, if_neg xb_nt, h2, if_pos rfl]
        exact ⟨-11, rfl, rfl, hI⟩
      · rw [h1, if_pos (by decide), h2, if_pos (by decide), h4, h5, if_neg (nI_nm1 (by omega)), if_neg (nI_pos (by omega)), c_xin hb (by decide), xgd_t, xgd_t, nI_c (by omega)]
        unfold J_X7_kindOf
        rw [has_t hb h6, if_neg xb_nt, c_xin hb (by decide), xgd_t, Option.bind_some, nI_c (by omega)]
        obtain ⟨e, hr⟩ := hW.2.1 b hb h6
        obtain ⟨kd, hkd, hkdb, ek⟩ := xRg_nat hr
        rw [e, ek, isUnder_eq (by omega) (by omega), Option.bind_some]
        cases J_X9_isUnder (nI kd) (nI q) with
        | false => exact ⟨-12, rfl, rfl, hI⟩
        | true => exact ⟨nI kd, rfl, rfl, hI⟩
      · obtain ⟨q1, q2, q3⟩ := neg2 k hk
        rw [h1, if_pos (by decide), h2, if_neg xb_nt, h5, if_neg q2, if_pos q1]
        exact ⟨-12, rfl, rfl, hI⟩
