/-! THE TAPE read: expressions whole, lines. -/
theorem or_of_operand {Γ : xGm} {n n' o : Nat} (hΓ : xGo Γ) (h : xExp Γ o ((G_X2_readAnd n).2.2.2.1 (nI o)) ((G_X9_both n').2.2.2.1)) : xExp Γ o ((G_X2_readAnd (n + 5)).2.2.2.2.1 (nI o)) ((G_X9_both (n' + 5)).2.2.1) := by
  have h1 : xExp Γ o ((G_X2_readAnd (n + 1)).2.2.2.2.2.1 (nI o)) ((G_X9_both (n' + 1)).2.2.2.2.1) := e_product hΓ h
  have h2 : xExp Γ o ((G_X2_readAnd (n + 2)).2.2.2.2.2.2 (nI o)) ((G_X9_both (n' + 2)).2.2.2.2.2) := e_sum hΓ h1
  have h3 : xExp Γ o ((G_X2_readAnd (n + 3)).2.1 (nI o)) ((G_X9_both (n' + 3)).2.1) := e_compared hΓ h2
  have h4 : xExp Γ o ((G_X2_readAnd (n + 4)).1 (nI o)) ((G_X9_both (n' + 4)).1) := e_and hΓ h3
  exact e_or hΓ h4
theorem e_all {Γ : xGm} (hΓ : xGo Γ) : ∀ r o, o + r = 6 → ∀ n n', 7 * r ≤ n → 6 * r ≤ n' → xExp Γ o ((G_X2_readAnd (n + 1)).2.2.2.1 (nI o)) ((G_X9_both (n' + 1)).2.2.2.1) := by
  intro r
  induction r with
  | zero =>
    intro o ho n n' _ _
    exact e_operand (P := (G_X2_readAnd n).2.2.1) (Hop := (G_X9_both n').2.2.2.1) (Hor := (G_X9_both n').2.2.1) hΓ (by omega) (fun z => absurd z (by omega))
  | succ r ih =>
    intro o ho n n' hn hn'
    obtain ⟨n, rfl⟩ : ∃ z, n = z + 7 := ⟨n - 7, by omega⟩
    obtain ⟨n', rfl⟩ : ∃ z, n' = z + 6 := ⟨n' - 6, by omega⟩
    refine e_operand (P := (G_X2_readAnd (n + 7)).2.2.1) (Hop := (G_X9_both (n' + 6)).2.2.2.1) (Hor := (G_X9_both (n' + 6)).2.2.1) hΓ (by omega) (fun _ => ⟨(G_X2_readAnd (n + 6)).2.2.2.1, (G_X2_readAnd (n + 6)).2.2.2.2.1, rfl, ?_, ?_⟩)
    · exact ih (o + 1) (by omega) (n + 5) (n' + 5) (by omega) (by omega)
    · exact or_of_operand (n := n + 1) (n' := n' + 1) hΓ (ih (o + 1) (by omega) n n' (by omega) (by omega))
theorem e_top {Γ : xGm} (hΓ : xGo Γ) : xExp Γ 0 (J_X2_readOr 0) J_X9_either := or_of_operand (n := 95) (n' := 95) hΓ (e_all hΓ 6 0 rfl 94 94 (by omega) (by omega))
-- lines
theorem xCd_app : ∀ (P Q : List xLn), xCd (P ++ Q) = xCd P ++ xCd Q := by
  intro P
  induction P with
  | nil => intro Q; rfl
  | cons q r ih =>
    intro Q
    obtain ⟨t, b⟩ := q
    cases t with
    | none =>
      show b ++ (-59 : Int32) :: xCd (r ++ Q) = (b ++ (-59 : Int32) :: xCd r) ++ xCd Q
      rw [ih]; simp
    | some t =>
      show t ++ (-63 : Int32) :: (b ++ (-59 : Int32) :: xCd (r ++ Q)) = (t ++ (-63 : Int32) :: (b ++ (-59 : Int32) :: xCd r)) ++ xCd Q
      rw [ih]; simp
theorem xSp_app : ∀ (P Q : List xLn), xSp (P ++ Q) = xSp P ++ xSp Q := by
  intro P
  induction P with
  | nil => intro Q; rfl
  | cons q r ih =>
    intro Q
    obtain ⟨t, b⟩ := q
    show t.getD [] ++ b ++ xSp (r ++ Q) = (t.getD [] ++ b ++ xSp r) ++ xSp Q
    rw [ih]; simp
theorem ends_snoc : ∀ (P : List xLn) (n : Nat) (t : Option (List Int32)) (b : List Int32), xEnds n (P ++ [(t, b)]) = xEnds n P ++ [(n + (xSp P).length + (t.getD []).length, n + (xSp P).length + (t.getD []).length + b.length)] := by
  intro P
  induction P with
  | nil => intro n t b; rfl
  | cons q r ih =>
    intro n t b
    obtain ⟨t1, b1⟩ := q
    show (n + (t1.getD []).length, n + (t1.getD []).length + b1.length) :: xEnds (n + (t1.getD []).length + b1.length) (r ++ [(t, b)]) = (n + (t1.getD []).length, n + (t1.getD []).length + b1.length) :: (xEnds (n + (t1.getD []).length + b1.length) r ++ _)
    rw [ih]
    have e : (xSp ((t1, b1) :: r)).length = (t1.getD []).length + b1.length + (xSp r).length := by
      show (t1.getD [] ++ b1 ++ xSp r).length = _
      rw [List.length_append, List.length_append]
    rw [e, show n + (t1.getD []).length + b1.length + (xSp r).length = n + ((t1.getD []).length + b1.length + (xSp r).length) by omega]
theorem ends_len : ∀ (P : List xLn) (n : Nat), (xEnds n P).length = P.length := by
  intro P
  induction P with
  | nil => intro n; rfl
  | cons q r ih =>
    intro n
    obtain ⟨t1, b1⟩ := q
    show (_ :: xEnds (n + (t1.getD []).length + b1.length) r).length = _
    rw [List.length_cons, ih, List.length_cons]
/-- the reference's lines: those of before -/
def xLold (μ0 μ : xS2) : Prop := μ.1 57 0 = μ0.1 57 0 ∧ ∀ i, i < 61 → μ.1 58 i = μ0.1 58 i ∧ μ.1 59 i = μ0.1 59 i
def xLm (μ0 : xS2) (P : List xLn) (μ : xS2) : Prop := xLold μ0 μ ∧ μ.1 57 1 = nI P.length ∧ ∀ k q, (xEnds 0 P)[k]? = some q → μ.1 58 (61 + k) = nI q.1 ∧ μ.1 59 (61 + k) = nI q.2
theorem xLm_fr {μ0 μ ρ : xS2} {P : List xLn} (h : xLm μ0 P μ) (h57 : ∀ k, ρ.1 57 k = μ.1 57 k) (h58 : ∀ k, k < 61 + P.length → ρ.1 58 k = μ.1 58 k) (h59 : ∀ k, k < 61 + P.length → ρ.1 59 k = μ.1 59 k) : xLm μ0 P ρ := by
  obtain ⟨⟨a1, a2⟩, a3, a4⟩ := h
  refine ⟨⟨by rw [h57, a1], fun i hi => ⟨by rw [h58 _ (by omega)]; exact (a2 i hi).1, by rw [h59 _ (by omega)]; exact (a2 i hi).2⟩⟩, by rw [h57, a3], fun k q hq => ?_⟩
  have hk : k < P.length := by
    have := (List.getElem?_eq_some_iff.mp hq).1
    rwa [ends_len] at this
  rw [h58 _ (by omega), h59 _ (by omega)]
  exact a4 k q hq
theorem xLm_snoc {μ0 μ ρ : xS2} {P : List xLn} {t : Option (List Int32)} {b : List Int32} (h : xLm μ0 P μ) (h570 : ρ.1 57 0 = μ.1 57 0) (h571 : ρ.1 57 1 = nI (P.length + 1)) (h58 : ∀ k, k < 61 + P.length → ρ.1 58 k = μ.1 58 k) (h59 : ∀ k, k < 61 + P.length → ρ.1 59 k = μ.1 59 k)
    (e58 : ρ.1 58 (61 + P.length) = nI ((xSp P).length + (t.getD []).length)) (e59 : ρ.1 59 (61 + P.length) = nI ((xSp P).length + (t.getD []).length + b.length)) : xLm μ0 (P ++ [(t, b)]) ρ := by
  obtain ⟨⟨a1, a2⟩, a3, a4⟩ := h
  refine ⟨⟨by rw [h570, a1], fun i hi => ⟨by rw [h58 _ (by omega)]; exact (a2 i hi).1, by rw [h59 _ (by omega)]; exact (a2 i hi).2⟩⟩, by rw [h571, List.length_append, List.length_singleton], fun k q hq => ?_⟩
  rw [ends_snoc] at hq
  by_cases hk : k < P.length
  · rw [List.getElem?_append_left (by rw [ends_len]; exact hk)] at hq
    rw [h58 _ (by omega), h59 _ (by omega)]
    exact a4 k q hq
  · rw [List.getElem?_append_right (by rw [ends_len]; omega), ends_len] at hq
    have hk2 : k - P.length = 0 := by
      have := (List.getElem?_eq_some_iff.mp hq).1
      simpa using this
    rw [hk2] at hq
    cases hq
    obtain rfl : k = P.length := by omega
    rw [e58, e59, Nat.zero_add]
    exact ⟨rfl, rfl⟩
theorem sh_id : ∀ k, k < 200 → vp_nar .short ((nI k).toInt16.toInt32) = nI k ∧ vp_nar .short (nI k) = nI k := by decide +kernel
/-- the class's line, up to its end's code -/
def xLC (σ : xS2) : Option xS2 := (J_X2_readOr 0 σ).bind fun x4 => (J_X2_pass 63 x4).bind fun x5 => if xb x5.1 = 0 then some x5.2 else (J_X2_write (-63) x5.2).bind fun x10 => J_X2_readOr 0 x10
theorem lines_LC {f : Nat} {l1 : Int32} {σ : xS2} (h : ¬ (120 : Int32) < l1) : J_X2_readLines_2 (f + 1) l1 σ = (xLC σ).bind (J_X2_readLines_33 (J_X2_readLines_2 f) l1) := by
  rw [E_X2_readLines_2, if_neg h]
  unfold xLC
  cases J_X2_readOr 0 σ with
  | none => rfl
  | some x4 =>
    rw [Option.bind_some, Option.bind_some]
    cases J_X2_pass 63 x4 with
    | none => rfl
    | some x5 =>
      rw [Option.bind_some, Option.bind_some]
      by_cases z : xb x5.1 = 0
      · rw [if_pos z, if_pos z]; rfl
      · rw [if_neg z, if_neg z]
        cases J_X2_write (-63) x5.2 <;> rfl
def xLG (q : xLn) : Prop := (∀ t, q.1 = some t → xOne t) ∧ xOne q.2
