/-! THE TAPE read, in class and reference: states and single acts. -/
/-- how many bytes, the class's and the reference's, and the reference's law as it was -/
abbrev xGm : Type := Nat × (Nat → Int32) × (Nat → Int32) × (Nat → Int32) × (Nat → Int32)
def xGo (Γ : xGm) : Prop := Γ.1 ≤ 120 ∧ ∀ i, i < Γ.1 → xRg (Γ.2.1 i) 0 255 ∧ Γ.2.2.1 i = (Γ.2.1 i).toInt8.toInt32
def xPc (Γ : xGm) (p : Nat) (D : List Int32) (σ : xS2) : Prop := σ.1 8 9 = nI Γ.1 ∧ σ.1 8 7 = nI p ∧ σ.1 8 8 = -1 ∧ σ.1 8 4 = nI D.length ∧ (∀ i z, D[i]? = some z → σ.1 10 i = z) ∧ σ.1 9 = Γ.2.1
def xPm (Γ : xGm) (p o : Nat) (S : List Int32) (μ : xS2) : Prop := μ.1 43 21 = nI Γ.1 ∧ μ.1 43 22 = nI p ∧ μ.1 43 23 = -1 ∧ μ.1 43 24 = nI o ∧ μ.1 43 25 = nI S.length ∧ (∀ i z, S[i]? = some z → μ.1 55 (130 + i) = (xSt z).1 ∧ μ.1 56 (130 + i) = (xSt z).2) ∧
  (∀ i, i < 130 → μ.1 55 i = Γ.2.2.2.1 i ∧ μ.1 56 i = Γ.2.2.2.2 i) ∧ μ.1 54 = Γ.2.2.1
def xPr (Γ : xGm) (p o : Nat) (D S : List Int32) (σ μ : xS2) : Prop := xPc Γ p D σ ∧ xPm Γ p o S μ ∧ p ≤ Γ.1 ∧ D.length ≤ p ∧ S.length ≤ p
def xFc (Γ : xGm) (q : Nat) (σ : xS2) : Prop := σ.1 8 9 = nI Γ.1 ∧ (σ.1 8 8 = nI q ∨ (σ.1 8 8 = -1 ∧ σ.1 8 7 = nI q ∧ q < Γ.1 ∧ J_X2_isDigit (Γ.2.1 q) = true)) ∧ (∃ d : Nat, d ≤ 121 ∧ σ.1 8 4 = nI d) ∧ σ.1 9 = Γ.2.1
def xFm (Γ : xGm) (q s : Nat) (μ : xS2) : Prop := μ.1 43 21 = nI Γ.1 ∧ μ.1 43 22 = nI q ∧ μ.1 43 23 = nI q ∧ μ.1 43 25 = nI s ∧ (∀ i, i < 130 → μ.1 55 i = Γ.2.2.2.1 i ∧ μ.1 56 i = Γ.2.2.2.2 i) ∧ μ.1 54 = Γ.2.2.1
def xFa (Γ : xGm) (q s : Nat) (σ μ : xS2) : Prop := xFc Γ q σ ∧ xFm Γ q s μ ∧ q ≤ Γ.1
def xOut (Γ : xGm) (p o : Nat) (D S : List Int32) (x y : Option xS2) : Prop := ∃ σ' μ', x = some σ' ∧ y = some μ' ∧ ((∃ l p', p ≤ p' ∧ l.length ≤ p' - p ∧ xOne l ∧ xPr Γ p' o (D ++ l) (S ++ l) σ' μ') ∨ ∃ q s, p ≤ q ∧ s ≤ S.length + (q - p) + 1 ∧ xFa Γ q s σ' μ')
def xExp (Γ : xGm) (o : Nat) (F H : xS2 → Option xS2) : Prop := ∀ p D S σ μ, xPr Γ p o D S σ μ → xOut Γ p o D S (F σ) (H μ)
-- what stands at a place
def cA (Γ : xGm) (p : Nat) : Int32 := if p < Γ.1 then Γ.2.1 p else -1
def cB (Γ : xGm) (p : Nat) : Int32 := if p < Γ.1 then Γ.2.2.1 p else -1
theorem snoc_get {l : List Int32} {z w : Int32} {i : Nat} (h : (l ++ [z])[i]? = some w) : l[i]? = some w ∨ (i = l.length ∧ w = z) := by
  by_cases q : i < l.length
  · rw [List.getElem?_append_left q] at h
    exact Or.inl h
  · rw [List.getElem?_append_right (by omega)] at h
    obtain ⟨h1, h2⟩ := List.getElem?_eq_some_iff.mp h
    have h3 : i - l.length = 0 := by simpa using h1
    refine Or.inr ⟨by omega, ?_⟩
    simp only [h3] at h2
    exact h2.symm
theorem get_lt {l : List Int32} {i : Nat} {w : Int32} (h : l[i]? = some w) : i < l.length := (List.getElem?_eq_some_iff.mp h).1
theorem pc_sign {Γ : xGm} {p : Nat} {D : List Int32} {σ : xS2} (hΓ : xGo Γ) (h : xPc Γ p D σ) (hp : p ≤ Γ.1) : J_X2_sign σ = some (cA Γ p) := by
  obtain ⟨h9, h7, h8, h4, hD, hT⟩ := h
  have h120 := hΓ.1
  unfold J_X2_sign cA
  rw [h8, if_pos rfl, h9, h7]
  by_cases q : p < Γ.1
  · rw [if_neg (c_nle (by omega) (by omega) q), c_xin (by omega) (by decide), xgd_t, nI_c (by omega), hT, if_pos q]
  · rw [if_pos (c_le (by omega) (by omega) (by omega)), if_neg q]
theorem pm_look {Γ : xGm} {p o : Nat} {S : List Int32} {μ : xS2} (hΓ : xGo Γ) (h : xPm Γ p o S μ) (hp : p ≤ Γ.1) : J_X9_look μ = some (cB Γ p) := by
  obtain ⟨h21, h22, h23, h24, h25, hS, hA, hU⟩ := h
  have h120 := hΓ.1
  unfold J_X9_look cB
  rw [h21, h22]
  by_cases q : p < Γ.1
  · rw [if_neg (c_nle (by omega) (by omega) q), c_xin (by omega) (by decide), xgd_t, nI_c (by omega), hU, if_pos q]
  · rw [if_pos (c_le (by omega) (by omega) (by omega)), if_neg q]
theorem byte_facts : ∀ k, k < 256 → (k < 128 → (nI k).toInt8.toInt32 = nI k) ∧ (128 ≤ k → (nI k).toInt8.toInt32 < 0) := by decide +kernel
/-- below 128 both show the same; above it the reference shows a number below 0 -/
theorem cAB {Γ : xGm} {p : Nat} (hΓ : xGo Γ) : (cA Γ p = cB Γ p ∧ ((p < Γ.1 ∧ ∃ k, k < 128 ∧ cA Γ p = nI k) ∨ cA Γ p = -1)) ∨ (∃ k, 128 ≤ k ∧ k < 256 ∧ cA Γ p = nI k ∧ cB Γ p < 0) := by
  unfold cA cB
  by_cases q : p < Γ.1
  · rw [if_pos q, if_pos q]
    obtain ⟨h1, h2⟩ := hΓ.2 p q
    obtain ⟨k, hk, ek⟩ := xRg_at (l := 255) h1
    rw [h2, ek]
    by_cases z : k < 128
    · exact Or.inl ⟨((byte_facts k (by omega)).1 z).symm, Or.inl ⟨q, k, z, rfl⟩⟩
    · exact Or.inr ⟨k, by omega, by omega, rfl, (byte_facts k (by omega)).2 (by omega)⟩
  · rw [if_neg q, if_neg q]
    exact Or.inl ⟨rfl, Or.inr rfl⟩
theorem cAB_eq {Γ : xGm} {p : Nat} (hΓ : xGo Γ) (c : Nat) (hc : c < 128) : cA Γ p = nI c ↔ cB Γ p = nI c := by
  rcases cAB (p := p) hΓ with ⟨h, -⟩ | ⟨k, h1, h2, h3, h4⟩
  · rw [h]
  · constructor
    · intro h
      have := (nI_eq (by omega) (by omega)).mp (h3.symm.trans h)
      omega
    · intro h
      rw [h] at h4
      exact absurd h4 (nI_pos (by omega))
theorem cA_lt {Γ : xGm} {p c : Nat} (hc : c < 2147483648) (h : cA Γ p = nI c) : p < Γ.1 := by
  unfold cA at h
  by_cases q : p < Γ.1
  · exact q
  · rw [if_neg q] at h
    exact absurd h.symm (nI_nm1 hc)
theorem pc_adv {Γ : xGm} {p : Nat} {D : List Int32} {σ : xS2} (h : xPc Γ p D σ) : xPc Γ (p + 1) D (yI σ 8 7 (σ.1 8 7 + 1)) := by
  obtain ⟨h9, h7, h8, h4, hD, hT⟩ := h
  exact ⟨h9, by show σ.1 8 7 + 1 = _; rw [h7, nI_1], h8, h4, hD, hT⟩
theorem pm_adv {Γ : xGm} {p o : Nat} {S : List Int32} {μ : xS2} (h : xPm Γ p o S μ) : xPm Γ (p + 1) o S (yI μ 43 22 (μ.1 43 22 + 1)) := by
  obtain ⟨h21, h22, h23, h24, h25, hS, hA, hU⟩ := h
  exact ⟨h21, by show μ.1 43 22 + 1 = _; rw [h22, nI_1], h23, h24, h25, hS, hA, hU⟩
theorem pc_write {Γ : xGm} {p : Nat} {D : List Int32} {σ : xS2} (z : Int32) (h : xPc Γ p D σ) (hD1 : D.length < 121) : ∃ σ', J_X2_write z σ = some σ' ∧ xPc Γ p (D ++ [z]) σ' := by
  obtain ⟨h9, h7, h8, h4, hD, hT⟩ := h
  refine ⟨yI (yI σ 10 D.length z) 8 4 (nI (D.length + 1)), ?_, h9, h7, h8, ?_, fun i w hw => ?_, hT⟩
  · unfold J_X2_write
    rw [h4, if_neg (k_nle (x := (121 : Int32)) 121 rfl (by decide) (by omega) hD1), c_xin hD1 (by decide), xgd_t, nI_c (by omega), nI_1]
  · rw [List.length_append, List.length_singleton]; rfl
  · show (if i = D.length then z else σ.1 10 i) = w
    rcases snoc_get hw with h | ⟨h1, h2⟩
    · have := get_lt h
      rw [if_neg (by omega)]
      exact hD i w h
    · rw [if_pos h1, h2]
theorem pm_add {Γ : xGm} {p o : Nat} {S : List Int32} {μ : xS2} (z a v : Int32) (h : xPm Γ p o S μ) (hS1 : S.length < 130) (ha : vp_nar .byte (a.toInt8.toInt32) = (xSt z).1) (hv : v = (xSt z).2) : ∃ μ', J_X9_addStep a v μ = some μ' ∧ xPm Γ p o (S ++ [z]) μ' := by
  obtain ⟨h21, h22, h23, h24, h25, hS, hA, hU⟩ := h
  have e : (130 : Int32) + nI S.length = nI (130 + S.length) := nI_add 130 _
  refine ⟨yI (yI (yI μ 55 (130 + S.length) (xSt z).1) 56 (130 + S.length) (xSt z).2) 43 25 (nI (S.length + 1)), ?_, h21, h22, h23, h24, ?_, fun i w hw => ?_, fun i hi => ?_, hU⟩
  · unfold J_X9_addStep
    rw [h25, e, c_xin (by omega) (by decide), xgd_t, xgd_t, nI_c (by omega), nI_1, ha, hv]
  · rw [List.length_append, List.length_singleton]; rfl
  · show (if 130 + i = 130 + S.length then (xSt z).1 else μ.1 55 (130 + i)) = (xSt w).1 ∧ (if 130 + i = 130 + S.length then (xSt z).2 else μ.1 56 (130 + i)) = (xSt w).2
    rcases snoc_get hw with h | ⟨h1, h2⟩
    · have := get_lt h
      rw [if_neg (by omega), if_neg (by omega)]
      exact hS i w h
    · rw [if_pos (by omega), if_pos (by omega), h2]; exact ⟨rfl, rfl⟩
  · show (if i = 130 + S.length then (xSt z).1 else μ.1 55 i) = _ ∧ (if i = 130 + S.length then (xSt z).2 else μ.1 56 i) = _
    rw [if_neg (by omega), if_neg (by omega)]
    exact hA i hi
-- behind a fault
theorem fc_write {Γ : xGm} {q : Nat} {σ : xS2} (z : Int32) (h : xFc Γ q σ) : ∃ σ', J_X2_write z σ = some σ' ∧ xFc Γ q σ' := by
  obtain ⟨h9, h8, ⟨d, hd, h4⟩, hT⟩ := h
  unfold J_X2_write
  rw [h4]
  by_cases c : d < 121
  · rw [if_neg (k_nle (x := (121 : Int32)) 121 rfl (by decide) (by omega) c), c_xin c (by decide), xgd_t]
    exact ⟨_, rfl, h9, h8, ⟨d + 1, by omega, nI_1 d⟩, hT⟩
  · rw [if_pos (show (121 : Int32) ≤ nI d from r_le (x := nI d) d rfl (by omega) (b := 121) (by decide) (by omega))]
    exact ⟨_, rfl, h9, h8, ⟨d, hd, h4⟩, hT⟩
theorem fm_add {Γ : xGm} {q s : Nat} {μ : xS2} (a v : Int32) (h : xFm Γ q s μ) (hs : s < 130) : ∃ μ', J_X9_addStep a v μ = some μ' ∧ xFm Γ q (s + 1) μ' := by
  obtain ⟨h21, h22, h23, h25, hA, hU⟩ := h
  have e : (130 : Int32) + nI s = nI (130 + s) := nI_add 130 _
  unfold J_X9_addStep
  rw [h25, e, c_xin (by omega) (by decide), xgd_t, xgd_t, nI_c (by omega)]
  refine ⟨_, rfl, h21, h22, h23, nI_1 s, fun i hi => ?_, hU⟩
  show (if i = 130 + s then _ else μ.1 55 i) = _ ∧ (if i = 130 + s then _ else μ.1 56 i) = _
  rw [if_neg (by omega), if_neg (by omega)]
  exact hA i hi
/-- no sign that any act looks for -/
def xNoS (a : Int32) : Prop := a = -1 ∨ J_X2_isDigit a = true
theorem fc_sign {Γ : xGm} {q : Nat} {σ : xS2} (hΓ : xGo Γ) (h : xFc Γ q σ) (hq : q ≤ Γ.1) : ∃ a, J_X2_sign σ = some a ∧ xNoS a := by
  obtain ⟨h9, h8, -, hT⟩ := h
  have h120 := hΓ.1
  unfold J_X2_sign
  rcases h8 with h8 | ⟨h8, h7, hqn, hd⟩
  · rw [h8, if_neg (nI_nm1 (by omega))]
    exact ⟨-1, rfl, Or.inl rfl⟩
  · rw [h8, if_pos rfl, h9, h7, if_neg (c_nle (by omega) (by omega) hqn), c_xin (by omega) (by decide), xgd_t, nI_c (by omega), hT]
    exact ⟨_, rfl, Or.inr hd⟩
theorem fc_refuse {Γ : xGm} {q : Nat} {σ : xS2} (hΓ : xGo Γ) (h : xFc Γ q σ) (hq : q ≤ Γ.1) : ∃ σ', J_X2_refuse σ = some σ' ∧ xFc Γ q σ' ∧ σ'.1 8 8 = nI q := by
  obtain ⟨h9, h8, hd, hT⟩ := h
  have h120 := hΓ.1
  unfold J_X2_refuse
  rcases h8 with h8 | ⟨h8, h7, hqn, hdd⟩
  · rw [h8, if_neg (nI_nm1 (by omega))]
    exact ⟨σ, rfl, ⟨h9, Or.inl h8, hd, hT⟩, h8⟩
  · rw [h8, if_pos rfl]
    exact ⟨yI σ 8 8 (σ.1 8 7), rfl, ⟨h9, Or.inl h7, hd, hT⟩, h7⟩
theorem pc_refuse {Γ : xGm} {p : Nat} {D : List Int32} {σ : xS2} (h : xPc Γ p D σ) (hD : D.length ≤ 121) : ∃ σ', J_X2_refuse σ = some σ' ∧ xFc Γ p σ' ∧ σ'.1 8 8 = nI p := by
  obtain ⟨h9, h7, h8, h4, hDD, hT⟩ := h
  unfold J_X2_refuse
  rw [h8, if_pos rfl]
  exact ⟨yI σ 8 8 (σ.1 8 7), rfl, ⟨h9, Or.inl h7, ⟨D.length, hD, h4⟩, hT⟩, h7⟩
theorem pm_faulty {Γ : xGm} {p o : Nat} {S : List Int32} {μ : xS2} (h : xPm Γ p o S μ) : ∃ μ', J_X9_faulty μ = some μ' ∧ xFm Γ p S.length μ' := by
  obtain ⟨h21, h22, h23, h24, h25, hS, hA, hU⟩ := h
  unfold J_X9_faulty
  rw [h23, if_neg (by decide)]
  exact ⟨yI μ 43 23 (μ.1 43 22), rfl, h21, h22, h22, h25, hA, hU⟩
theorem fm_look {Γ : xGm} {q s : Nat} {μ : xS2} (hΓ : xGo Γ) (h : xFm Γ q s μ) (hq : q ≤ Γ.1) : ∃ b, J_X9_look μ = some b := by
  obtain ⟨h21, h22, h23, h25, hA, hU⟩ := h
  have h120 := hΓ.1
  unfold J_X9_look
  rw [h21, h22]
  by_cases q1 : q < Γ.1
  · rw [if_neg (c_nle (by omega) (by omega) q1), c_xin (by omega) (by decide), xgd_t]
    exact ⟨_, rfl⟩
  · rw [if_pos (c_le (by omega) (by omega) (by omega))]
    exact ⟨_, rfl⟩
-- codes that leave one value
theorem xDps_app : ∀ (a b : List Int32) (n : Nat), xDps (a ++ b) n = (xDps a n).bind (xDps b) := by
  intro a
  induction a with
  | nil => intro b n; rfl
  | cons z r ih =>
    intro b n
    show (xDp z n).bind (xDps (r ++ b)) = ((xDp z n).bind (xDps r)).bind (xDps b)
    cases xDp z n with
    | none => rfl
    | some k => exact ih b k
theorem one_un {l : List Int32} {z : Int32} (h : xOne l) (hz : z = -33 ∨ z = -126) : xOne (l ++ [z]) := by
  refine ⟨by simp, fun n => ?_⟩
  rw [xDps_app, h.2, Option.bind_some]
  show (xDp z (n + 1)).bind (xDps []) = _
  have : xDp z (n + 1) = some (n + 1) := by
    unfold xDp
    rcases hz with rfl | rfl
    · rw [if_neg (by decide), if_neg (by decide), if_pos (by decide), if_pos (by omega)]
    · rw [if_neg (by decide), if_neg (by decide), if_pos (by decide), if_pos (by omega)]
  rw [this]; rfl
def xBi (z : Int32) : Prop := z = -43 ∨ z = -45 ∨ z = -42 ∨ z = -47 ∨ z = -37 ∨ z = -60 ∨ z = -61 ∨ z = -62 ∨ z = -38 ∨ z = -124
theorem one_bi {l l2 : List Int32} {z : Int32} (h : xOne l) (h2 : xOne l2) (hz : xBi z) : xOne (l ++ l2 ++ [z]) := by
  refine ⟨by simp, fun n => ?_⟩
  rw [xDps_app, xDps_app, h.2, Option.bind_some, h2.2, Option.bind_some]
  show (xDp z (n + 2)).bind (xDps []) = _
  have : xDp z (n + 2) = some (n + 1) := by
    unfold xDp
    have h1 : ¬ 0 ≤ z := by rcases hz with rfl | rfl | rfl | rfl | rfl | rfl | rfl | rfl | rfl | rfl <;> decide
    have h2 : ¬ (z = -115 ∨ z = -117 ∨ z = -100 ∨ z = -104 ∨ z = -111 ∨ z = -119 ∨ z = -99) := by rcases hz with rfl | rfl | rfl | rfl | rfl | rfl | rfl | rfl | rfl | rfl <;> decide
    have h3 : ¬ (z = -33 ∨ z = -126) := by rcases hz with rfl | rfl | rfl | rfl | rfl | rfl | rfl | rfl | rfl | rfl <;> decide
    unfold xBi at hz
    rw [if_neg h1, if_neg h2, if_neg h3, if_pos hz, if_pos (by omega)]
    rfl
  rw [this]; rfl
theorem one_num {z : Int32} (h : 0 ≤ z) : xOne [z] := by
  refine ⟨by simp, fun n => ?_⟩
  show (xDp z n).bind (xDps []) = _
  have : xDp z n = some (n + 1) := by unfold xDp; rw [if_pos h]
  rw [this]; rfl
theorem one_name {z : Int32} (hz : z = -115 ∨ z = -117 ∨ z = -100 ∨ z = -104 ∨ z = -111 ∨ z = -119 ∨ z = -99) : xOne [z] := by
  refine ⟨by simp, fun n => ?_⟩
  show (xDp z n).bind (xDps []) = _
  have h1 : ¬ 0 ≤ z := by rcases hz with rfl | rfl | rfl | rfl | rfl | rfl | rfl <;> decide
  have : xDp z n = some (n + 1) := by unfold xDp; rw [if_neg h1, if_pos hz]
  rw [this]; rfl
