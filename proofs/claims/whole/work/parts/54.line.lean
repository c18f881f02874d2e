/-! line. -/
theorem end_eq {σ : xS2} {s l : Nat} (hs : s < 6) (hl : l ≤ 60) (h : xSh1 σ s) (el : σ.1 (28 + 2 * s) 4 = nI l) : ∀ (n j f g : Nat) (z : Int32), j + n = l → n < f → n < g → (z = -1 ∨ ∃ c : Nat, c < 36 ∧ z = nI c) →
    ∃ e : Int32, J_X8_endOfLine_4 f (28 + 2 * s) z (nI j) σ = some e ∧ J_X9_endOf_5 g (nI s) z (nI j) σ = some e ∧ (e = -1 ∨ ∃ c : Nat, c < 36 ∧ e = nI c) := by
  have e71 : σ.1 71 s = nI l := h.2.1.trans el
  intro n
  induction n with
  | zero =>
    intro j f g z hj hf hg hz
    obtain ⟨f, rfl⟩ : ∃ y, f = y + 1 := ⟨f - 1, by omega⟩
    obtain ⟨g, rfl⟩ : ∃ y, g = y + 1 := ⟨g - 1, by omega⟩
    refine ⟨z, ?_, ?_, hz⟩
    · rw [E_X8_endOfLine_4, el, if_pos (c_le (by omega) (by omega) (by omega))]
    · rw [E_X9_endOf_5, c_xin hs (by decide), xgd_t, nI_c (by omega), e71, if_pos (c_le (by omega) (by omega) (by omega))]
  | succ n ih =>
    intro j f g z hj hf hg hz
    obtain ⟨f, rfl⟩ : ∃ y, f = y + 1 := ⟨f - 1, by omega⟩
    obtain ⟨g, rfl⟩ : ∃ y, g = y + 1 := ⟨g - 1, by omega⟩
    rcases hz with rfl | ⟨c, hc, rfl⟩
    · refine ⟨-1, ?_, ?_, Or.inl rfl⟩
      · rw [E_X8_endOfLine_4, el, if_neg (c_nle (by omega) (by omega) (by omega)), if_pos (by decide)]
      · rw [E_X9_endOf_5, c_xin hs (by decide), xgd_t, nI_c (by omega), e71, if_neg (c_nle (by omega) (by omega) (by omega)), if_pos (by decide)]
    · obtain ⟨x, hx⟩ : ∃ x, x = (σ.2 (29 + 2 * s) j).toInt32 := ⟨_, rfl⟩
      have ea : J_X5_at (28 + 2 * s) (nI j) σ = some (σ.2 (29 + 2 * s) j) := by
        unfold J_X5_at
        rw [hasPl el hl, nI_toInt (by omega), show (1 : Int32).toInt = 1 from rfl, decide_eq_true (by omega), if_neg xb_nt, c_xin (by omega) (by decide), xgd_t, nI_c (by omega), show 28 + 2 * s + 1 = 29 + 2 * s by omega]
      have eb : J_X9_byteAt (nI s) (nI j) σ = some x := by
        unfold J_X9_byteAt
        rw [m60, c_xin (by omega) (by decide), xgd_t, nI_c (by omega), h.2.2.1 j (by omega), hx]
      have k8 : J_X8_endOfLine_4 (f + 1) (28 + 2 * s) (nI c) (nI j) σ = J_X8_endOfLine_4 f (28 + 2 * s) (J_X3_neighbour (nI c) x) (nI (j + 1)) σ := by
        rw [E_X8_endOfLine_4, el, if_neg (c_nle (by omega) (by omega) (by omega)), if_neg (nI_pos (by omega)), ea, Option.bind_some, nI_1, hx]
      have k9 : J_X9_endOf_5 (g + 1) (nI s) (nI c) (nI j) σ = if xb (J_X9_in x 1 4) = 0 then J_X9_endOf_5 g (nI s) (-1) (nI (j + 1)) σ else J_X9_endOf_5 g (nI s) (J_X9_beside (nI c) x) (nI (j + 1)) σ := by
        rw [E_X9_endOf_5, c_xin hs (by decide), xgd_t, nI_c (by omega), e71, if_neg (c_nle (by omega) (by omega) (by omega)), if_neg (nI_pos (by omega)), eb, Option.bind_some, Option.bind_some]
        unfold J_X9_endOf_50
        rw [nI_1]
      rw [k8, k9]
      cases hin : J_X9_in x 1 4 with
      | false =>
        rw [if_pos xb_ff, X3_nb_none (X9_nrg 1 4 hin rfl rfl)]
        exact ih (j + 1) f g (-1) (by omega) (by omega) (by omega) (Or.inl rfl)
      | true =>
        have hr := X9_rg 1 4 hin rfl rfl
        obtain ⟨w, hw, ew⟩ := xRg_at (l := 4) (xRg_w hr (by decide) (by decide))
        have w0 : 0 < w := by
          have := hr.1
          rw [ew, nI_toInt (by omega)] at this
          omega
        rw [if_neg xb_nt, ew, X3_nb c hc w (by omega) w0, X9_nb c hc w (by omega) w0]
        refine ih (j + 1) f g _ (by omega) (by omega) (by omega) ?_
        unfold xNbI
        by_cases q : xNb c w < 36
        · rw [if_pos q]; exact Or.inr ⟨_, q, rfl⟩
        · rw [if_neg q]; exact Or.inl rfl
theorem line_sim {σ : xS2} {s l : Nat} {b : Int32} (hs : s < 6) (hl : l ≤ 60) (h : xSh1 σ s) (el : σ.1 (28 + 2 * s) 4 = nI l) : ∀ (n j f g : Nat) (A B : Int64), j + n = 36 → n < f → n < g →
    ∃ r, J_X8_line_39 f (nI s) b A B (nI j) σ = some r ∧ J_X9_line_33 g (nI s) b (if b = 0 then A else B) (nI j) σ = some r := by
  intro n
  induction n with
  | zero =>
    intro j f g A B hj hf hg
    obtain ⟨f, rfl⟩ : ∃ y, f = y + 1 := ⟨f - 1, by omega⟩
    obtain ⟨g, rfl⟩ : ∃ y, g = y + 1 := ⟨g - 1, by omega⟩
    refine ⟨if b = 0 then A else B, ?_, ?_⟩
    · rw [E_X8_line_39, if_pos (k_le (x := (36 : Int32)) 36 rfl (by decide) (by omega) (by omega))]
      by_cases z : b = 0
      · rw [if_pos z, if_pos z]
      · rw [if_neg z, if_neg z]
    · rw [E_X9_line_33, if_pos (k_le (x := (36 : Int32)) 36 rfl (by decide) (by omega) (by omega))]
  | succ n ih =>
    intro j f g A B hj hf hg
    obtain ⟨f, rfl⟩ : ∃ y, f = y + 1 := ⟨f - 1, by omega⟩
    obtain ⟨g, rfl⟩ : ∃ y, g = y + 1 := ⟨g - 1, by omega⟩
    obtain ⟨e, e1, e2, e3⟩ := end_eq hs hl h el l 0 xFU xFU (nI j) (by omega) (by show l < 2000; omega) (by show l < 2000; omega) (Or.inr ⟨j, by omega, rfl⟩)
    have e1' : J_X8_endOfLine (28 + 2 * s) (nI j) σ = some e := e1
    have e2' : J_X9_endOf (nI s) (nI j) σ = some e := e2
    have k8 : J_X8_line_39 (f + 1) (nI s) b A B (nI j) σ = if e < 0 then J_X8_line_39 f (nI s) b A B (nI (j + 1)) σ else J_X8_line_39 f (nI s) b (A ||| xls 1 (nI j)) (B ||| xls 1 e) (nI (j + 1)) σ := by
      rw [E_X8_line_39, if_neg (k_nle (x := (36 : Int32)) 36 rfl (by decide) (by omega) (by omega)), c_xin hs (by decide), xgd_t, nI_c (by omega), e1', Option.bind_some]
      unfold J_X8_line_80
      rw [nI_1]
    have k9 : ∀ C, J_X9_line_33 (g + 1) (nI s) b C (nI j) σ = if e < 0 then J_X9_line_33 g (nI s) b C (nI (j + 1)) σ else if b = 0 then J_X9_line_33 g (nI s) b (C ||| xls 1 (nI j)) (nI (j + 1)) σ else J_X9_line_33 g (nI s) b (C ||| xls 1 e) (nI (j + 1)) σ := by
      intro C
      rw [E_X9_line_33, if_neg (k_nle (x := (36 : Int32)) 36 rfl (by decide) (by omega) (by omega)), e2', Option.bind_some, Option.bind_some]
      unfold J_X9_line_68 J_X9_line_71
      rw [nI_1]
    rw [k8, k9]
    by_cases q : e < 0
    · rw [if_pos q, if_pos q]
      exact ih (j + 1) f g A B (by omega) (by omega) (by omega)
    · rw [if_neg q, if_neg q]
      obtain ⟨r, r1, r2⟩ := ih (j + 1) f g (A ||| xls 1 (nI j)) (B ||| xls 1 e) (by omega) (by omega) (by omega)
      refine ⟨r, r1, ?_⟩
      by_cases z : b = 0
      · rw [if_pos z] at r2 ⊢
        rw [if_pos z]
        exact r2
      · rw [if_neg z] at r2 ⊢
        rw [if_neg z]
        exact r2
theorem step_line : xStep_line xIv := by
  intro a1 a2 σ hI
  have hS := hI.2.2.2.2.2.2.2.1
  cases hsh : J_X9_isShelf a1 with
  | false => exact ⟨_, by unfold J_X8_line; rw [X8_isShelf, hsh, if_pos xb_ff], by unfold J_X9_line; rw [hsh, if_pos xb_ff], hI⟩
  | true =>
    obtain ⟨s, hs, rfl⟩ := isShelf_nat hsh
    cases h2 : J_X9_in a2 0 1 with
    | false => exact ⟨_, by unfold J_X8_line; rw [X8_isShelf, hsh, if_neg xb_nt, X8_oneOf2, h2, if_pos xb_ff], by unfold J_X9_line; rw [hsh, if_neg xb_nt, h2, if_pos xb_ff], hI⟩
    | true =>
      have k8 : J_X8_line (nI s) a2 σ = if xb (J_X5_isBytes (28 + 2 * s) σ) = 0 then some (-9223372036854775808) else J_X8_line_39 xFU (nI s) a2 0 0 0 σ := by
        unfold J_X8_line
        rw [X8_isShelf, hsh, if_neg xb_nt, X8_oneOf2, h2, if_neg xb_nt, c_xin hs (by decide), xgd_t, nI_c (by omega)]
      have k9 : J_X9_line (nI s) a2 σ = (J_X9_rowFault (nI s) σ).bind fun x5 => if 0 ≤ x5 then J_X9_line_33 xFU (nI s) a2 0 0 σ else some (-9223372036854775808) := by
        unfold J_X9_line
        rw [hsh, if_neg xb_nt, h2, if_neg xb_nt]
      have bys : J_X8_refusedBytes (nI s) σ = if xb (J_X5_isEmpty (28 + 2 * s) σ) = 0 then (if xb (J_X5_isBytes (28 + 2 * s) σ) = 0 then some (-12) else some 0) else some (-11) := by
        unfold J_X8_refusedBytes
        rw [c_xin hs (by decide), xgd_t, xgd_t, nI_c (by omega)]
      rcases bytes_why hs (hS s hs) with ⟨w1, w2, w3⟩ | ⟨r, r0, r1, w1, w2⟩
      · obtain ⟨l, hl, el⟩ := xRg_at (l := 60) (hS s hs).1
        obtain ⟨r, e1, e2⟩ := line_sim (b := a2) hs hl (hS s hs) el 36 0 xFU xFU 0 0 (by omega) (by decide) (by decide)
        have hby : J_X5_isBytes (28 + 2 * s) σ = true := by
          rw [bys] at w1
          cases hh : J_X5_isBytes (28 + 2 * s) σ with
          | true => rfl
          | false =>
            rw [hh] at w1
            cases hh2 : J_X5_isEmpty (28 + 2 * s) σ <;> rw [hh2] at w1 <;> exact absurd (Option.some.inj w1) (by decide)
        refine ⟨r, ?_, ?_, hI⟩
        · rw [k8, hby, if_neg xb_nt]
          exact e1
        · rw [k9, w2, Option.bind_some, if_pos (by decide)]
          have : (if a2 = 0 then (0 : Int64) else 0) = 0 := by split <;> rfl
          rw [this] at e2
          exact e2
      · refine ⟨-9223372036854775808, ?_, ?_, hI⟩
        · have hby : J_X5_isBytes (28 + 2 * s) σ = false := by
            cases hh : J_X5_isBytes (28 + 2 * s) σ with
            | false => rfl
            | true =>
              have he : J_X5_isEmpty (28 + 2 * s) σ = false := by
                unfold J_X5_isBytes at hh
                unfold J_X5_isEmpty
                by_cases z : σ.1 (28 + 2 * s) 1 = 2
                · rw [z]; decide
                · rw [if_neg z] at hh; cases hh
              rw [bys, he, hh] at w1
              exact absurd (Option.some.inj w1).symm r0
          rw [k8, hby, if_pos xb_ff]
        · rw [k9, w2 σ rfl, Option.bind_some, if_neg r1]
