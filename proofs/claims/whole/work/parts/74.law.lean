/-! law: the reference's copies. -/
theorem xDp_byte {z : Int32} {n m : Nat} (h : xDp z n = some m) : vp_nar .byte (xSt z).1 = (xSt z).1 := by
  unfold xDp at h
  by_cases c0 : 0 ≤ z
  · unfold xSt; rw [if_pos c0]; show vp_nar .byte 1 = 1; decide
  · rw [if_neg c0] at h
    by_cases c1 : z = -115 ∨ z = -117 ∨ z = -100 ∨ z = -104 ∨ z = -111 ∨ z = -119 ∨ z = -99
    · rcases c1 with rfl | rfl | rfl | rfl | rfl | rfl | rfl <;> decide
    · rw [if_neg c1] at h
      by_cases c2 : z = -33 ∨ z = -126
      · rcases c2 with rfl | rfl <;> decide
      · rw [if_neg c2] at h
        by_cases c3 : z = -43 ∨ z = -45 ∨ z = -42 ∨ z = -47 ∨ z = -37 ∨ z = -60 ∨ z = -61 ∨ z = -62 ∨ z = -38 ∨ z = -124
        · rcases c3 with rfl | rfl | rfl | rfl | rfl | rfl | rfl | rfl | rfl | rfl <;> decide
        · rw [if_neg c3] at h; cases h
theorem xDps_byte : ∀ (l : List Int32) (n m : Nat), xDps l n = some m → ∀ z ∈ l, vp_nar .byte (xSt z).1 = (xSt z).1 := by
  intro l
  induction l with
  | nil => intro n m _ z hz; cases hz
  | cons a r ih =>
    intro n m h z hz
    obtain ⟨k, h1, h2⟩ := xDps_c h
    rcases List.mem_cons.mp hz with rfl | hz
    · exact xDp_byte h1
    · exact ih k m h2 z hz
theorem xSp_byte : ∀ (P : List xLn), (∀ q ∈ P, xLG q) → ∀ z ∈ xSp P, vp_nar .byte (xSt z).1 = (xSt z).1 := by
  intro P
  induction P with
  | nil => intro _ z hz; cases hz
  | cons q r ih =>
    intro hG z hz
    obtain ⟨t, b⟩ := q
    obtain ⟨g1, g2⟩ := hG (t, b) (List.mem_cons_self ..)
    have hz2 : z ∈ t.getD [] ++ b ++ xSp r := hz
    rcases List.mem_append.mp hz2 with hz3 | hz3
    · rcases List.mem_append.mp hz3 with hz4 | hz4
      · cases t with
        | none => cases hz4
        | some t => exact xDps_byte t 0 1 ((g1 t rfl).2 0) z hz4
      · exact xDps_byte b 0 1 (g2.2 0) z hz4
    · exact ih (fun q hq => hG q (List.mem_cons_of_mem _ hq)) z hz3
theorem ends_le : ∀ (P : List xLn) (n k : Nat) (q : Nat × Nat), (xEnds n P)[k]? = some q → q.1 ≤ n + (xSp P).length ∧ q.2 ≤ n + (xSp P).length := by
  intro P
  induction P with
  | nil => intro n k q h; cases h
  | cons a r ih =>
    intro n k q h
    obtain ⟨t, b⟩ := a
    have e : (xSp ((t, b) :: r)).length = (t.getD []).length + b.length + (xSp r).length := by
      show (t.getD [] ++ b ++ xSp r).length = _
      rw [List.length_append, List.length_append]
    rw [e]
    cases k with
    | zero =>
      have : q = (n + (t.getD []).length, n + (t.getD []).length + b.length) := (Option.some.inj h).symm
      rw [this]
      exact ⟨by show n + (t.getD []).length ≤ _; omega, by show n + (t.getD []).length + b.length ≤ _; omega⟩
    | succ k =>
      obtain ⟨h1, h2⟩ := ih (n + (t.getD []).length + b.length) k q h
      exact ⟨by omega, by omega⟩
theorem copy_105 {s : Nat} (hs : s ≤ 121) : ∀ (m k f : Nat) (μ : xS2), k + m = s → m < f → μ.1 43 25 = nI s → (∀ i, i < s → vp_nar .byte (μ.1 55 (130 + i)) = μ.1 55 (130 + i)) →
    ∃ μ', J_X9_readText_105 f 0 (nI k) μ = J_X9_readText_177 xFU 0 0 (yI μ' 57 0 (μ'.1 57 1)) ∧ (∀ i, k ≤ i → i < s → μ'.1 55 i = μ.1 55 (130 + i) ∧ μ'.1 56 i = μ.1 56 (130 + i)) ∧ (∀ i, i < k → μ'.1 55 i = μ.1 55 i ∧ μ'.1 56 i = μ.1 56 i) ∧ xFr [(55, 99), (56, 99)] μ μ' := by
  intro m
  induction m with
  | zero =>
    intro k f μ hk hf h25 hb
    obtain ⟨f, rfl⟩ : ∃ z, f = z + 1 := ⟨f - 1, by omega⟩
    refine ⟨μ, ?_, fun i h1 h2 => by omega, fun i _ => ⟨rfl, rfl⟩, xFr_rf⟩
    rw [E_X9_readText_105, h25, if_pos (c_le (by omega) (by omega) (by omega)), show xin (0 : Int32) 2 = true from by decide, xgd_t]
    rfl
  | succ m ih =>
    intro k f μ hk hf h25 hb
    obtain ⟨f, rfl⟩ : ∃ z, f = z + 1 := ⟨f - 1, by omega⟩
    have e1 : (130 : Int32) + nI k = nI (130 + k) := nI_add 130 _
    have e2 : (130 : Int32) * 0 + nI k = nI k := by rw [Int32.mul_zero, Int32.zero_add]
    obtain ⟨μ', r1, r2, r3, r4⟩ := ih (k + 1) f (yI (yI μ 55 k (μ.1 55 (130 + k))) 56 k (μ.1 56 (130 + k))) (by omega) (by omega) h25 (fun i hi => by
      show vp_nar .byte (if 130 + i = k then _ else μ.1 55 (130 + i)) = (if 130 + i = k then _ else μ.1 55 (130 + i))
      rw [if_neg (by omega)]
      exact hb i hi)
    refine ⟨μ', ?_, fun i h1 h2 => ?_, fun i hi => ?_, xFr_tq (xFr_yI (xFr_yI xFr_rf rfl) rfl) r4⟩
    · rw [E_X9_readText_105, h25, if_neg (c_nle (by omega) (by omega) (by omega)), e1, e2, c_xin (by omega) (by decide), xgd_t, c_xin (by omega) (by decide), xgd_t, xgd_t, xgd_t, nI_c (by omega), nI_c (by omega), hb k (by omega), nI_1]
      exact r1
    · by_cases z : i = k
      · subst z
        obtain ⟨a1, a2⟩ := r3 i (by omega)
        rw [a1, a2]
        show (if i = i then μ.1 55 (130 + i) else _) = _ ∧ (if i = i then μ.1 56 (130 + i) else _) = _
        rw [if_pos rfl, if_pos rfl]
        exact ⟨rfl, rfl⟩
      · obtain ⟨a1, a2⟩ := r2 i (by omega) h2
        rw [a1, a2]
        show (if 130 + i = k then _ else μ.1 55 (130 + i)) = _ ∧ (if 130 + i = k then _ else μ.1 56 (130 + i)) = _
        rw [if_neg (by omega), if_neg (by omega)]
        exact ⟨rfl, rfl⟩
    · obtain ⟨a1, a2⟩ := r3 i (by omega)
      rw [a1, a2]
      show (if i = k then _ else μ.1 55 i) = _ ∧ (if i = k then _ else μ.1 56 i) = _
      rw [if_neg (by omega), if_neg (by omega)]
      exact ⟨rfl, rfl⟩
theorem copy_177 {s : Nat} (hs : s ≤ 61) : ∀ (m k f : Nat) (μ : xS2), k + m = s → m < f → μ.1 57 0 = nI s → (∀ i, i < s → vp_nar .short (μ.1 58 (61 + i)) = μ.1 58 (61 + i) ∧ vp_nar .short (μ.1 59 (61 + i)) = μ.1 59 (61 + i)) →
    ∃ μ', J_X9_readText_177 f 0 (nI k) μ = some (-1, μ') ∧ (∀ i, k ≤ i → i < s → μ'.1 58 i = μ.1 58 (61 + i) ∧ μ'.1 59 i = μ.1 59 (61 + i)) ∧ (∀ i, i < k → μ'.1 58 i = μ.1 58 i ∧ μ'.1 59 i = μ.1 59 i) ∧ xFr [(58, 99), (59, 99)] μ μ' := by
  intro m
  induction m with
  | zero =>
    intro k f μ hk hf h57 hb
    obtain ⟨f, rfl⟩ : ∃ z, f = z + 1 := ⟨f - 1, by omega⟩
    have h57' : μ.1 57 (0 : Int32).toNatClampNeg = nI s := h57
    refine ⟨μ, ?_, fun i h1 h2 => by omega, fun i _ => ⟨rfl, rfl⟩, xFr_rf⟩
    rw [E_X9_readText_177, show xin (0 : Int32) 2 = true from by decide, xgd_t, h57', if_pos (c_le (by omega) (by omega) (by omega))]
  | succ m ih =>
    intro k f μ hk hf h57 hb
    obtain ⟨f, rfl⟩ : ∃ z, f = z + 1 := ⟨f - 1, by omega⟩
    have h57' : μ.1 57 (0 : Int32).toNatClampNeg = nI s := h57
    have e1 : (61 : Int32) + nI k = nI (61 + k) := nI_add 61 _
    have e2 : (61 : Int32) * 0 + nI k = nI k := by rw [Int32.mul_zero, Int32.zero_add]
    obtain ⟨μ', r1, r2, r3, r4⟩ := ih (k + 1) f (yI (yI μ 58 k (μ.1 58 (61 + k))) 59 k (μ.1 59 (61 + k))) (by omega) (by omega) h57 (fun i hi => by
      show vp_nar .short (if 61 + i = k then _ else μ.1 58 (61 + i)) = (if 61 + i = k then _ else μ.1 58 (61 + i)) ∧ vp_nar .short (if 61 + i = k then _ else μ.1 59 (61 + i)) = (if 61 + i = k then _ else μ.1 59 (61 + i))
      rw [if_neg (by omega), if_neg (by omega)]
      exact hb i hi)
    refine ⟨μ', ?_, fun i h1 h2 => ?_, fun i hi => ?_, xFr_tq (xFr_yI (xFr_yI xFr_rf rfl) rfl) r4⟩
    · rw [E_X9_readText_177, show xin (0 : Int32) 2 = true from by decide, xgd_t, h57', if_neg (c_nle (by omega) (by omega) (by omega)), e1, e2, c_xin (by omega) (by decide), xgd_t, c_xin (by omega) (by decide), xgd_t, xgd_t, xgd_t, nI_c (by omega), nI_c (by omega), (hb k (by omega)).1, (hb k (by omega)).2, nI_1]
      exact r1
    · by_cases z : i = k
      · subst z
        obtain ⟨a1, a2⟩ := r3 i (by omega)
        rw [a1, a2]
        show (if i = i then μ.1 58 (61 + i) else _) = _ ∧ (if i = i then μ.1 59 (61 + i) else _) = _
        rw [if_pos rfl, if_pos rfl]
        exact ⟨rfl, rfl⟩
      · obtain ⟨a1, a2⟩ := r2 i (by omega) h2
        rw [a1, a2]
        show (if 61 + i = k then _ else μ.1 58 (61 + i)) = _ ∧ (if 61 + i = k then _ else μ.1 59 (61 + i)) = _
        rw [if_neg (by omega), if_neg (by omega)]
        exact ⟨rfl, rfl⟩
    · obtain ⟨a1, a2⟩ := r3 i (by omega)
      rw [a1, a2]
      show (if i = k then _ else μ.1 58 i) = _ ∧ (if i = k then _ else μ.1 59 i) = _
      rw [if_neg (by omega), if_neg (by omega)]
      exact ⟨rfl, rfl⟩
/-- the text as it becomes the reference's law -/
theorem text_86 {Γ : xGm} {p o : Nat} {P : List xLn} {μ0 μ : xS2} (hG : ∀ q ∈ P, xLG q) (hP : P.length ≤ 61) (hS : (xSp P).length ≤ 121) (hm : xPm Γ p o (xSp P) μ) (hl : xLm μ0 P μ) : ∃ ρ, J_X9_readText_86 0 μ = some (-1, ρ) ∧ (∀ i z, (xSp P)[i]? = some z → ρ.1 55 i = (xSt z).1 ∧ ρ.1 56 i = (xSt z).2) ∧
    ρ.1 57 0 = nI P.length ∧ (∀ i q, (xEnds 0 P)[i]? = some q → ρ.1 58 i = nI q.1 ∧ ρ.1 59 i = nI q.2) ∧ ρ.1 43 21 = 0 := by
  obtain ⟨h21, h22, h23, h24, h25, hSS, hA, hU⟩ := hm
  obtain ⟨-, l57, lE⟩ := hl
  obtain ⟨μ1, e1, a1, -, f1⟩ := copy_105 hS (xSp P).length 0 xFU (yI μ 43 21 0) (by omega) (by show (xSp P).length < 2000; omega) h25 (fun i hi => by
    obtain ⟨z, hz⟩ : ∃ z, (xSp P)[i]? = some z := ⟨(xSp P)[i], List.getElem?_eq_getElem hi⟩
    show vp_nar .byte (μ.1 55 (130 + i)) = μ.1 55 (130 + i)
    rw [(hSS i z hz).1]
    exact xSp_byte P hG z (List.mem_of_getElem? hz))
  have e57 : μ1.1 57 1 = nI P.length := (f1 57 1 rfl).1.trans l57
  obtain ⟨μ2, e2, a2, -, f2⟩ := copy_177 hP P.length 0 xFU (yI μ1 57 0 (μ1.1 57 1)) (by omega) (by show P.length < 2000; omega) e57 (fun i hi => by
    obtain ⟨q, hq⟩ : ∃ q, (xEnds 0 P)[i]? = some q := ⟨(xEnds 0 P)[i]'(by rw [ends_len]; exact hi), List.getElem?_eq_getElem _⟩
    obtain ⟨b1, b2⟩ := ends_le P 0 i q hq
    show vp_nar .short (μ1.1 58 (61 + i)) = μ1.1 58 (61 + i) ∧ vp_nar .short (μ1.1 59 (61 + i)) = μ1.1 59 (61 + i)
    rw [(f1 58 _ rfl).1, (f1 59 _ rfl).1]
    show vp_nar .short (μ.1 58 (61 + i)) = μ.1 58 (61 + i) ∧ vp_nar .short (μ.1 59 (61 + i)) = μ.1 59 (61 + i)
    rw [(lE i q hq).1, (lE i q hq).2]
    exact ⟨(sh_id q.1 (by omega)).2, (sh_id q.2 (by omega)).2⟩)
  refine ⟨μ2, ?_, fun i z hz => ?_, ?_, fun i q hq => ?_, ?_⟩
  · unfold J_X9_readText_86
    rw [h23, if_pos (show (-1 : Int32) < 0 by decide)]
    exact e1.trans e2
  · have hi := get_lt hz
    obtain ⟨c1, c2⟩ := a1 i (by omega) hi
    rw [(f2 55 i rfl).1, (f2 56 i rfl).1]
    show μ1.1 55 i = _ ∧ μ1.1 56 i = _
    rw [c1, c2]
    exact hSS i z hz
  · rw [(f2 57 0 rfl).1]
    exact e57
  · have hi : i < P.length := by
      have := (List.getElem?_eq_some_iff.mp hq).1
      rwa [ends_len] at this
    obtain ⟨c1, c2⟩ := a2 i (by omega) hi
    rw [c1, c2]
    show μ1.1 58 (61 + i) = _ ∧ μ1.1 59 (61 + i) = _
    rw [(f1 58 _ rfl).1, (f1 59 _ rfl).1]
    exact lE i q hq
  · rw [(f2 43 21 rfl).1]
    show μ1.1 43 21 = 0
    rw [(f1 43 21 rfl).1]
    rfl
