/-! THE TAPE read: numbers, names, what is opened. -/
theorem dig_eq {Γ : xGm} {p : Nat} (hΓ : xGo Γ) : J_X9_in (cB Γ p) 48 57 = J_X2_isDigit (cA Γ p) := by
  rcases cAB (p := p) hΓ with ⟨h, -⟩ | ⟨k, h1, h2, h3, h4⟩
  · rw [h]; rfl
  · have hf : ∀ k, k < 256 → 128 ≤ k → J_X2_isDigit (nI k) = false := by decide +kernel
    rw [h3, hf k h2 h1]
    unfold J_X9_in
    rw [if_pos]
    rw [Int32.lt_iff_toInt_lt, show (0 : Int32).toInt = 0 from rfl] at h4
    rw [Int32.lt_iff_toInt_lt, show (48 : Int32).toInt = 48 from rfl]
    omega
theorem dig_of {Γ : xGm} {p : Nat} (hΓ : xGo Γ) (h : J_X2_isDigit (cA Γ p) = true) : ∃ k, 48 ≤ k ∧ k ≤ 57 ∧ cA Γ p = nI k ∧ cB Γ p = nI k ∧ p < Γ.1 := by
  have hf : ∀ k, k < 128 → J_X2_isDigit (nI k) = true → 48 ≤ k ∧ k ≤ 57 := by decide +kernel
  have hf2 : ∀ k, k < 256 → 128 ≤ k → J_X2_isDigit (nI k) = false := by decide +kernel
  rcases cAB (p := p) hΓ with ⟨h1, ⟨hp, k, hk, ek⟩ | h2⟩ | ⟨k, h1, h2, h3, h4⟩
  · rw [ek] at h
    obtain ⟨h3, h4⟩ := hf k hk h
    exact ⟨k, h3, h4, ek, h1.symm.trans ek, hp⟩
  · rw [h2] at h
    exact absurd h (by decide)
  · rw [h3, hf2 k h2 h1] at h
    cases h
theorem nI_mul (a b : Nat) : nI a * nI b = nI (a * b) := (Int32.ofNat_mul a b).symm
theorem dig_acc {a k : Nat} (h : 48 ≤ k) : nI a * 10 + nI k - 48 = nI (a * 10 + (k - 48)) ∧ 10 * nI a + nI k - 48 = nI (a * 10 + (k - 48)) := by
  have e : nI a * 10 + nI k - 48 = nI (a * 10 + (k - 48)) := by
    rw [show (10 : Int32) = nI 10 from rfl, nI_mul, nI_add, show a * 10 + k = (a * 10 + (k - 48)) + 48 by omega, ← nI_add, show (48 : Int32) = nI 48 from rfl, Int32.add_sub_cancel]
  exact ⟨e, by rw [Int32.mul_comm]; exact e⟩
theorem xSt_num {a : Nat} (h : a < 10000) : (xSt (nI a)).1 = 1 ∧ (xSt (nI a)).2 = nI a := by
  unfold xSt
  rw [if_pos (nI_pos' (by omega))]
  exact ⟨rfl, rfl⟩
theorem pr_put {Γ : xGm} {p o : Nat} {D S : List Int32} {σ μ : xS2} (z a v : Int32) (h : xPr Γ p o D S σ μ) (hΓ : xGo Γ) (hp : D.length + 1 ≤ p) (hp2 : S.length + 1 ≤ p) (ha : vp_nar .byte (a.toInt8.toInt32) = (xSt z).1) (hv : v = (xSt z).2) :
    ∃ σ' μ', J_X2_write z σ = some σ' ∧ J_X9_addStep a v μ = some μ' ∧ xPr Γ p o (D ++ [z]) (S ++ [z]) σ' μ' := by
  obtain ⟨hc, hm, hpn, hD, hS⟩ := h
  have h120 := hΓ.1
  obtain ⟨σ', e1, hc'⟩ := pc_write z hc (by omega)
  obtain ⟨μ', e2, hm'⟩ := pm_add z a v hm (by omega) ha hv
  exact ⟨σ', μ', e1, e2, hc', hm', hpn, by rw [List.length_append, List.length_singleton]; exact hp, by rw [List.length_append, List.length_singleton]; exact hp2⟩
theorem sbi {x : Option xS2} : (x.bind fun x5 => some x5) = x := by cases x <;> rfl
theorem num_stop {Γ : xGm} {o p p0 a : Nat} {D S : List Int32} {σ μ : xS2} (hΓ : xGo Γ) (h : xPr Γ p o D S σ μ) (ha : a < 10000) (hp0 : p0 < p) (hD0 : D.length ≤ p0) (hS0 : S.length ≤ p0) (cnt : Nat) (hc : 0 < cnt) (hc4 : cnt ≤ 4) : xOut Γ p0 o D S (J_X2_readNumber_48 (nI a) σ) (J_X9_figure_52 (nI a) (nI cnt) μ) := by
  have h120 := hΓ.1
  obtain ⟨t1, t2⟩ := xSt_num ha
  have hlk := pm_look hΓ h.2.1 h.2.2.1
  unfold J_X2_readNumber_48 J_X9_figure_52 J_X9_figure_70 J_X9_figure_74
  rw [if_neg (nI_ne0 hc (by omega)), hlk, Option.bind_some, dig_eq hΓ]
  simp only [sbi]
  cases hd : J_X2_isDigit (cA Γ p) with
  | false =>
    rw [if_pos xb_f]
    obtain ⟨σ', μ', e1, e2, h'⟩ := pr_put (nI a) 1 (nI a) h hΓ (by omega) (by omega) (by rw [t1]; decide) t2.symm
    exact ⟨σ', μ', e1, e2, Or.inl ⟨[nI a], p, by omega, by rw [List.length_singleton]; omega, one_num (nI_pos' (by omega)), h'⟩⟩
  | true =>
    rw [if_neg xb_nt]
    obtain ⟨hcc, hm, hpn, hD, hS⟩ := h
    obtain ⟨k, hk1, hk2, ek, -, hpn2⟩ := dig_of hΓ hd
    obtain ⟨μ1, e1, hf⟩ := pm_faulty hm
    obtain ⟨μ2, e2, hf2⟩ := fm_add 1 (nI a) hf (by omega)
    obtain ⟨σ1, e3, hc1⟩ := pc_write (nI a) hcc (by omega)
    rw [e1, Option.bind_some, e2, e3]
    refine ⟨σ1, μ2, rfl, rfl, Or.inr ⟨p, S.length + 1, by omega, by omega, ⟨hc1.1, Or.inr ⟨hc1.2.2.1, hc1.2.1, hpn2, ?_⟩, ⟨_, ?_, hc1.2.2.2.1⟩, hc1.2.2.2.2.2⟩, hf2, hpn⟩⟩
    · unfold cA at hd
      rw [if_pos hpn2] at hd
      exact hd
    · rw [List.length_append, List.length_singleton]; omega
theorem num_loop {Γ : xGm} {o p0 : Nat} {D S : List Int32} (hΓ : xGo Γ) (hD0 : D.length ≤ p0) (hS0 : S.length ≤ p0) : ∀ (m cnt a p f g : Nat) (σ μ : xS2), cnt + m = 4 → 1 ≤ cnt → a < 10 ^ cnt → p0 < p → m < f → m < g → xPr Γ p o D S σ μ →
    xOut Γ p0 o D S (J_X2_readNumber_4 f (nI a) (nI cnt) σ) (J_X9_figure_4 g (nI a) (nI cnt) μ) := by
  intro m
  induction m with
  | zero =>
    intro cnt a p f g σ μ hm hc ha hp hf hg h
    obtain ⟨f, rfl⟩ : ∃ z, f = z + 1 := ⟨f - 1, by omega⟩
    obtain ⟨g, rfl⟩ : ∃ z, g = z + 1 := ⟨g - 1, by omega⟩
    obtain rfl : cnt = 4 := by omega
    rw [E_X2_readNumber_4, E_X9_figure_4, if_pos (show (4 : Int32) ≤ nI 4 by decide), if_pos (show (4 : Int32) ≤ nI 4 by decide)]
    exact num_stop hΓ h ha hp hD0 hS0 4 (by omega) (by omega)
  | succ m ih =>
    intro cnt a p f g σ μ hm hc ha hp hf hg h
    obtain ⟨f, rfl⟩ : ∃ z, f = z + 1 := ⟨f - 1, by omega⟩
    obtain ⟨g, rfl⟩ : ∃ z, g = z + 1 := ⟨g - 1, by omega⟩
    have hsg := pc_sign hΓ h.1 h.2.2.1
    have hlk := pm_look hΓ h.2.1 h.2.2.1
    have ha4 : a < 10 ^ 4 := Nat.lt_of_lt_of_le ha (Nat.pow_le_pow_right (by decide) (by omega))
    have ha5 : a < 10000 := ha4
    have n4 : ¬ (4 : Int32) ≤ nI cnt := k_nle (x := (4 : Int32)) 4 rfl (by decide) (by omega) (by omega)
    rw [E_X2_readNumber_4, E_X9_figure_4, if_neg n4, if_neg n4, hsg, hlk, Option.bind_some, Option.bind_some, Option.bind_some, Option.bind_some, dig_eq hΓ]
    cases hd : J_X2_isDigit (cA Γ p) with
    | false =>
      rw [if_pos xb_f, if_pos xb_f]
      exact num_stop hΓ h ha5 hp hD0 hS0 cnt (by omega) (by omega)
    | true =>
      rw [if_neg xb_nt, if_neg xb_nt]
      obtain ⟨k, hk1, hk2, ek, ek2, hpn⟩ := dig_of hΓ hd
      obtain ⟨hcc, hm', hpn1, hD, hS⟩ := h
      rw [ek, ek2, (dig_acc hk1).1, (dig_acc hk1).2, nI_1]
      refine ih (cnt + 1) (a * 10 + (k - 48)) (p + 1) f g _ _ (by omega) (by omega) ?_ (by omega) (by omega) (by omega) ⟨pc_adv hcc, pm_adv hm', by omega, by omega, by omega⟩
      rw [Nat.pow_succ]
      omega
theorem e_number {Γ : xGm} {o p : Nat} {D S : List Int32} {σ μ : xS2} (hΓ : xGo Γ) (h : xPr Γ p o D S σ μ) (hd : J_X2_isDigit (cA Γ p) = true) : xOut Γ p o D S (J_X2_readNumber σ) (J_X9_figure μ) := by
  have hsg := pc_sign hΓ h.1 h.2.2.1
  have hlk := pm_look hΓ h.2.1 h.2.2.1
  show xOut Γ p o D S (J_X2_readNumber_4 (1999 + 1) (nI 0) (nI 0) σ) (J_X9_figure_4 (1999 + 1) (nI 0) (nI 0) μ)
  have n4 : ¬ (4 : Int32) ≤ nI 0 := by decide
  rw [E_X2_readNumber_4, E_X9_figure_4, if_neg n4, if_neg n4, hsg, hlk, Option.bind_some, Option.bind_some, Option.bind_some, Option.bind_some, dig_eq hΓ, hd, if_neg xb_nt, if_neg xb_nt]
  obtain ⟨k, hk1, hk2, ek, ek2, hpn⟩ := dig_of hΓ hd
  obtain ⟨hcc, hm', hpn1, hD, hS⟩ := h
  rw [ek, ek2, (dig_acc hk1).1, (dig_acc hk1).2, nI_1]
  exact num_loop hΓ hD hS 3 1 (0 * 10 + (k - 48)) (p + 1) 1999 1999 _ _ (by omega) (by omega) (by omega) (by omega) (by omega) (by omega) ⟨pc_adv hcc, pm_adv hm', by omega, by omega, by omega⟩
/-- no operand stands there -/
theorem e_bad {Γ : xGm} {o p : Nat} {D S : List Int32} {σ μ : xS2} (hΓ : xGo Γ) (h : xPr Γ p o D S σ μ) (hd : J_X2_isDigit (cA Γ p) = false) : xOut Γ p o D S (J_X2_refuse σ) (J_X9_figure μ) := by
  have h120 := hΓ.1
  have hlk := pm_look hΓ h.2.1 h.2.2.1
  obtain ⟨hcc, hm', hpn1, hD, hS⟩ := h
  obtain ⟨σ1, e1, f1, -⟩ := pc_refuse hcc (by omega)
  obtain ⟨μ1, e2, f2⟩ := pm_faulty hm'
  obtain ⟨μ2, e3, f3⟩ := fm_add 1 0 f2 (by omega)
  refine ⟨σ1, μ2, e1, ?_, Or.inr ⟨p, S.length + 1, by omega, by omega, f1, f3, hpn1⟩⟩
  show J_X9_figure_4 (1999 + 1) (nI 0) (nI 0) μ = _
  rw [E_X9_figure_4, if_neg (show ¬ (4 : Int32) ≤ nI 0 by decide), hlk, Option.bind_some, dig_eq hΓ, hd, if_pos xb_f]
  unfold J_X9_figure_52 J_X9_figure_70 J_X9_figure_74
  rw [if_pos (show nI 0 = 0 from rfl), e2, Option.bind_some]
  show (J_X9_addStep 1 0 μ1).bind _ = _
  rw [e3, Option.bind_some]
-- names
theorem nm_neg {b : Int32} (h : b < 0) : J_X2_isName b = false := by
  have ne : ∀ c : Int32, 0 ≤ c → ¬ b = c := fun c hc e => by
    rw [e] at h
    exact absurd h (i_le_nlt hc)
  unfold J_X2_isName
  rw [if_neg (ne 99 (by decide)), if_neg (ne 100 (by decide)), if_neg (ne 104 (by decide)), if_neg (ne 111 (by decide)), if_neg (ne 115 (by decide)), if_neg (ne 117 (by decide)), if_neg (ne 119 (by decide))]
theorem nm_AB {Γ : xGm} {p : Nat} (hΓ : xGo Γ) : J_X2_isName (cB Γ p) = J_X2_isName (cA Γ p) := by
  rcases cAB (p := p) hΓ with ⟨h, -⟩ | ⟨k, h1, h2, h3, h4⟩
  · rw [h]
  · have hf : ∀ k, k < 256 → 128 ≤ k → J_X2_isName (nI k) = false := by decide +kernel
    rw [h3, hf k h2 h1, nm_neg h4]
theorem nm_of {b : Int32} (h : J_X2_isName b = true) : b = 115 ∨ b = 117 ∨ b = 100 ∨ b = 104 ∨ b = 111 ∨ b = 119 ∨ b = 99 := by
  by_cases q1 : b = 99
  · simp [q1]
  by_cases q2 : b = 100
  · simp [q2]
  by_cases q3 : b = 104
  · simp [q3]
  by_cases q4 : b = 111
  · simp [q4]
  by_cases q5 : b = 115
  · simp [q5]
  by_cases q6 : b = 117
  · simp [q6]
  by_cases q7 : b = 119
  · simp [q7]
  unfold J_X2_isName at h
  rw [if_neg q1, if_neg q2, if_neg q3, if_neg q4, if_neg q5, if_neg q6, if_neg q7] at h
  cases h
theorem nm_no {b : Int32} (h : J_X2_isName b = false) : J_X9_nameOf b = -1 := by
  have ne : ∀ c : Int32, J_X2_isName c = true → ¬ b = c := fun c hc e => by
    rw [e, hc] at h; cases h
  unfold J_X9_nameOf
  rw [if_neg (ne 99 (by decide)), if_neg (ne 100 (by decide)), if_neg (ne 104 (by decide)), if_neg (ne 111 (by decide)), if_neg (ne 115 (by decide)), if_neg (ne 117 (by decide)), if_neg (ne 119 (by decide))]
theorem e_name {Γ : xGm} {o p : Nat} {D S : List Int32} {σ μ : xS2} (hΓ : xGo Γ) (h : xPr Γ p o D S σ μ) (hd : J_X2_isName (cA Γ p) = true) : xOut Γ p o D S (J_X2_write (-(cA Γ p)) (yI σ 8 7 (σ.1 8 7 + 1))) ((J_X9_addStep 2 (J_X9_nameOf (cB Γ p)) μ).bind fun x21 => some (yI x21 43 22 (x21.1 43 22 + 1))) := by
  have h120 := hΓ.1
  obtain ⟨hcc, hm, hpn, hD, hS⟩ := h
  have main : ∀ (k : Nat) (v : Int32), k < 128 → cA Γ p = nI k → J_X9_nameOf (nI k) = v → (xSt (-(nI k))).1 = 2 → v = (xSt (-(nI k))).2 → (-(nI k) = -115 ∨ -(nI k) = -117 ∨ -(nI k) = -100 ∨ -(nI k) = -104 ∨ -(nI k) = -111 ∨ -(nI k) = -119 ∨ -(nI k) = -99) → xOut Γ p o D S (J_X2_write (-(cA Γ p)) (yI σ 8 7 (σ.1 8 7 + 1))) ((J_X9_addStep 2 (J_X9_nameOf (cB Γ p)) μ).bind fun x21 => some (yI x21 43 22 (x21.1 43 22 + 1))) := by
    intro k v hk ek hv h1 h2 hN
    have hpn2 := cA_lt (by omega) ek
    rw [ek, (cAB_eq hΓ k hk).mp ek, hv]
    obtain ⟨σ1, e1, c1⟩ := pc_write (-(nI k)) (pc_adv hcc) (by omega)
    obtain ⟨μ1, e2, m1⟩ := pm_add (-(nI k)) 2 v hm (by omega) (by rw [h1]; decide) h2
    refine ⟨σ1, _, e1, by rw [e2, Option.bind_some], Or.inl ⟨[-(nI k)], p + 1, by omega, by rw [List.length_singleton]; omega, one_name hN, c1, pm_adv m1, by omega, ?_, ?_⟩⟩
    · rw [List.length_append, List.length_singleton]; omega
    · rw [List.length_append, List.length_singleton]; omega
  rcases nm_of hd with e | e | e | e | e | e | e
  · exact main 115 0 (by decide) e (by decide) (by decide) (by decide) (Or.inl rfl)
  · exact main 117 1 (by decide) e (by decide) (by decide) (by decide) (Or.inr (Or.inl rfl))
  · exact main 100 2 (by decide) e (by decide) (by decide) (by decide) (Or.inr (Or.inr (Or.inl rfl)))
  · exact main 104 3 (by decide) e (by decide) (by decide) (by decide) (Or.inr (Or.inr (Or.inr (Or.inl rfl))))
  · exact main 111 4 (by decide) e (by decide) (by decide) (by decide) (Or.inr (Or.inr (Or.inr (Or.inr (Or.inl rfl)))))
  · exact main 119 5 (by decide) e (by decide) (by decide) (by decide) (Or.inr (Or.inr (Or.inr (Or.inr (Or.inr (Or.inl rfl))))))
  · exact main 99 6 (by decide) e (by decide) (by decide) (by decide) (Or.inr (Or.inr (Or.inr (Or.inr (Or.inr (Or.inr rfl))))))
-- opened
theorem pm_open {Γ : xGm} {p o : Nat} {S : List Int32} {μ : xS2} (h : xPm Γ p o S μ) (ho : o < 6) : J_X9_opens μ = some (true, yI (yI μ 43 24 (nI (o + 1))) 43 22 (nI (p + 1))) ∧ xPm Γ (p + 1) (o + 1) S (yI (yI μ 43 24 (nI (o + 1))) 43 22 (nI (p + 1))) := by
  obtain ⟨h21, h22, h23, h24, h25, hS, hA, hU⟩ := h
  refine ⟨?_, h21, rfl, h23, rfl, h25, hS, hA, hU⟩
  unfold J_X9_opens
  rw [h24, if_neg (fun z => by have := (nI_eq (by omega) (by decide)).mp (z.trans (show (6 : Int32) = nI 6 from rfl)); omega), nI_1]
  show some (true, yI (yI μ 43 24 (nI (o + 1))) 43 22 (μ.1 43 22 + 1)) = _
  rw [h22, nI_1]
theorem pm_full {Γ : xGm} {p : Nat} {S : List Int32} {μ : xS2} (h : xPm Γ p 6 S μ) : ∃ μ', J_X9_opens μ = some (false, μ') ∧ xFm Γ p S.length μ' := by
  obtain ⟨μ1, e, f⟩ := pm_faulty h
  refine ⟨μ1, ?_, f⟩
  unfold J_X9_opens
  rw [h.2.2.2.1, if_pos (by decide), e, Option.bind_some]
theorem pm_shut {Γ : xGm} {p o : Nat} {S : List Int32} {μ : xS2} (h : xPm Γ p (o + 1) S μ) : xPm Γ p o S (yI μ 43 24 (μ.1 43 24 - 1)) := by
  obtain ⟨h21, h22, h23, h24, h25, hS, hA, hU⟩ := h
  exact ⟨h21, h22, h23, by show μ.1 43 24 - 1 = _; rw [h24, nI_pred], h25, hS, hA, hU⟩
theorem e_unary {Γ : xGm} {o p k : Nat} {D S : List Int32} {σ μ : xS2} {Fop For : Int32 → xS2 → Option xS2} {Hop Hor : xS2 → Option xS2} (hΓ : xGo Γ) (ho : o < 6) (hX : xExp Γ (o + 1) (Fop (nI (o + 1))) Hop) (h : xPr Γ p o D S σ μ) (hk : k = 33 ∨ k = 45) (ek : cA Γ p = nI k) :
    xOut Γ p o D S (J_X2_readOpened_b Fop For (nI k) (nI (o + 1)) (yI σ 8 7 (σ.1 8 7 + 1))) (J_X9_operand_46 Hor Hop (nI k) μ) := by
  have h120 := hΓ.1
  obtain ⟨hcc, hm, hpn, hD, hS⟩ := h
  have hpn2 : p < Γ.1 := cA_lt (by omega) ek
  obtain ⟨o1, o2⟩ := pm_open hm ho
  obtain ⟨σ1, μ1, e1, e2, hr⟩ := hX (p + 1) D S _ _ ⟨pc_adv hcc, o2, by omega, by omega, by omega⟩
  obtain ⟨z, a, hz, ha1, ha2, kc, km⟩ : ∃ z a : Int32, (z = -33 ∨ z = -126) ∧ vp_nar .byte (a.toInt8.toInt32) = (xSt z).1 ∧ (0 : Int32) = (xSt z).2 ∧ J_X2_readOpened_b Fop For (nI k) (nI (o + 1)) (yI σ 8 7 (σ.1 8 7 + 1)) = J_X2_write z σ1 ∧ J_X9_operand_46 Hor Hop (nI k) μ = J_X9_addStep a 0 (yI μ1 43 24 (μ1.1 43 24 - 1)) := by
    unfold J_X2_readOpened_b J_X2_readOpened_46 J_X9_operand_46 J_X9_operand_80
    rw [o1, Option.bind_some, if_neg xb_nt]
    show ∃ z a : Int32, _ ∧ _ ∧ _ ∧ _ ∧ ((Hop (yI (yI μ 43 24 (nI (o + 1))) 43 22 (nI (p + 1)))).bind _) = _
    rw [e1, e2, Option.bind_some, Option.bind_some]
    simp only [sbi]
    rcases hk with rfl | rfl
    · exact ⟨-33, 3, Or.inl rfl, by decide, by decide, by rw [if_neg (by decide), if_pos (by decide)], by rw [if_pos (by decide)]⟩
    · exact ⟨-126, 4, Or.inr rfl, by decide, by decide, by rw [if_neg (by decide), if_neg (by decide)], by rw [if_neg (by decide)]⟩
  rw [kc, km]
  rcases hr with ⟨l, p', hp', hl, h1, hpr⟩ | ⟨q, s, hq, hs, hf1, hf2, hqn⟩
  · obtain ⟨c1, m1, q1, q2, q3⟩ := hpr
    rw [List.length_append] at q2 q3
    obtain ⟨σ2, μ2, e3, e4, h5⟩ := pr_put z a 0 ⟨c1, pm_shut m1, q1, by rw [List.length_append]; exact q2, by rw [List.length_append]; exact q3⟩ hΓ (by rw [List.length_append]; omega) (by rw [List.length_append]; omega) ha1 ha2
    rw [List.append_assoc, List.append_assoc] at h5
    exact ⟨σ2, μ2, e3, e4, Or.inl ⟨l ++ [z], p', by omega, by rw [List.length_append, List.length_singleton]; omega, one_un h1 hz, h5⟩⟩
  · obtain ⟨σ2, e3, f3⟩ := fc_write z hf1
    obtain ⟨g1, g2, g3, g4, g5, g6⟩ := hf2
    have hf3 : xFm Γ q s (yI μ1 43 24 (μ1.1 43 24 - 1)) := ⟨g1, g2, g3, g4, g5, g6⟩
    obtain ⟨μ2, e4, f4⟩ := fm_add a 0 hf3 (by omega)
    exact ⟨σ2, μ2, e3, e4, Or.inr ⟨q, s + 1, by omega, by omega, f3, f4, hqn⟩⟩
theorem e_paren {Γ : xGm} {o p : Nat} {D S : List Int32} {σ μ : xS2} {Fop For : Int32 → xS2 → Option xS2} {Hor : xS2 → Option xS2} (hΓ : xGo Γ) (ho : o < 6) (hX : xExp Γ (o + 1) (For (nI (o + 1))) Hor) (h : xPr Γ p o D S σ μ) (ek : cA Γ p = nI 40) :
    xOut Γ p o D S (J_X2_readOpened_b Fop For 40 (nI (o + 1)) (yI σ 8 7 (σ.1 8 7 + 1))) ((J_X9_opens μ).bind fun x13 =>
          if (xb x13.1) = 0 then
            some x13.2
          else
            (Hor x13.2).bind fun x15 =>
            if (x15.1 43 23) < 0 then
              (J_X9_look x15).bind fun x17 =>
              if x17 = (41 : Int32) then
                some (yI (yI x15 43 22 ((x15.1 43 22) + (1 : Int32))) 43 24 ((x15.1 43 24) - (1 : Int32)))
              else
                J_X9_faulty x15
            else
              some x15) := by
  have h120 := hΓ.1
  obtain ⟨hcc, hm, hpn, hD, hS⟩ := h
  have hpn2 : p < Γ.1 := cA_lt (by decide) ek
  obtain ⟨o1, o2⟩ := pm_open hm ho
  obtain ⟨σ1, μ1, e1, e2, hr⟩ := hX (p + 1) D S _ _ ⟨pc_adv hcc, o2, by omega, by omega, by omega⟩
  unfold J_X2_readOpened_b J_X2_pass
  rw [if_pos rfl, o1, Option.bind_some, if_neg xb_nt]
  show xOut Γ p o D S _ ((Hor (yI (yI μ 43 24 (nI (o + 1))) 43 22 (nI (p + 1)))).bind _)
  rw [e1, e2, Option.bind_some, Option.bind_some]
  rcases hr with ⟨l, p', hp', hl, h1, hpr⟩ | ⟨q, s, hq, hs, hf1, hf2, hqn⟩
  · have hsg := pc_sign hΓ hpr.1 hpr.2.2.1
    have hlk := pm_look hΓ hpr.2.1 hpr.2.2.1
    obtain ⟨c1, m1, q1, q2, q3⟩ := hpr
    rw [List.length_append] at q2 q3
    rw [hsg, hlk, Option.bind_some, Option.bind_some, m1.2.2.1, if_pos (show (-1 : Int32) < 0 by decide)]
    by_cases z : cA Γ p' = 41
    · have zb : cB Γ p' = 41 := (cAB_eq hΓ 41 (by decide)).mp z
      have hp2 : p' < Γ.1 := cA_lt (c := 41) (by decide) z
      rw [if_pos z, if_pos zb, Option.bind_some, if_neg xb_nt]
      refine ⟨_, _, rfl, rfl, Or.inl ⟨l, p' + 1, by omega, by omega, h1, pc_adv c1, ?_, by omega, by rw [List.length_append]; omega, by rw [List.length_append]; omega⟩⟩
      exact pm_shut (pm_adv m1)
    · have zb : ¬ cB Γ p' = 41 := fun e => z ((cAB_eq hΓ 41 (by decide)).mpr e)
      rw [if_neg z, if_neg zb, Option.bind_some, if_pos xb_f]
      obtain ⟨σ2, e3, f3, -⟩ := pc_refuse c1 (by rw [List.length_append]; omega)
      obtain ⟨μ2, e4, f4⟩ := pm_faulty m1
      show xOut Γ p o D S ((J_X2_refuse σ1).bind _) _
      rw [e3, e4, Option.bind_some]
      refine ⟨σ2, μ2, rfl, rfl, Or.inr ⟨p', _, by omega, ?_, f3, f4, q1⟩⟩
      rw [List.length_append]
      omega
  · obtain ⟨a, ha, hno⟩ := fc_sign hΓ hf1 hqn
    have ne : ¬ a = 41 := by
      intro e
      rcases hno with h | h
      · rw [e] at h; exact absurd h (by decide)
      · rw [e] at h; exact absurd h (by decide)
    rw [ha, Option.bind_some, if_neg ne, Option.bind_some, if_pos xb_f, hf2.2.2.1, if_neg (nI_pos (by omega))]
    obtain ⟨σ2, e3, f3, -⟩ := fc_refuse hΓ hf1 hqn
    show xOut Γ p o D S ((J_X2_refuse σ1).bind _) _
    rw [e3, Option.bind_some]
    exact ⟨σ2, μ1, rfl, rfl, Or.inr ⟨q, s, by omega, by omega, f3, hf2, hqn⟩⟩
theorem e_operand {Γ : xGm} {o : Nat} {P : Int32 → Int32 → xS2 → Option xS2} {Hop Hor : xS2 → Option xS2} (hΓ : xGo Γ) (ho : o ≤ 6) (hP : o < 6 → ∃ Fop For : Int32 → xS2 → Option xS2, P = J_X2_readOpened_b Fop For ∧ xExp Γ (o + 1) (Fop (nI (o + 1))) Hop ∧ xExp Γ (o + 1) (For (nI (o + 1))) Hor) :
    xExp Γ o (J_X2_readOperand_b P (nI o)) (J_X9_operand_b Hor Hop) := by
  intro p D S σ μ h
  have h120 := hΓ.1
  have hsg := pc_sign hΓ h.1 h.2.2.1
  have hlk := pm_look hΓ h.2.1 h.2.2.1
  unfold J_X2_readOperand_b J_X9_operand_b J_X2_readOperand_69 J_X2_readOperand_90
  rw [hsg, hlk, Option.bind_some, Option.bind_some]
  simp only [sbi]
  cases hd : J_X2_isDigit (cA Γ p) with
  | true =>
    obtain ⟨k, hk1, hk2, ek, ek2, hpn⟩ := dig_of hΓ hd
    have f1 : ∀ k, k < 58 → 48 ≤ k → J_X2_isName (nI k) = false ∧ ¬ nI k = 33 ∧ ¬ nI k = 45 ∧ ¬ nI k = 40 := by decide +kernel
    obtain ⟨g1, g2, g3, g4⟩ := f1 k (by omega) hk1
    rw [if_neg xb_nt, ek2, nm_no g1, if_pos (by decide), if_neg g2, if_neg g3, if_neg g4]
    exact e_number hΓ h hd
  | false =>
    rw [if_pos xb_f]
    cases hn : J_X2_isName (cA Γ p) with
    | true =>
      have : ¬ J_X9_nameOf (cB Γ p) < 0 := by
        have hb : J_X2_isName (cB Γ p) = true := (nm_AB hΓ).trans hn
        rcases nm_of hb with e | e | e | e | e | e | e <;> rw [e] <;> decide
      rw [if_neg xb_nt, if_neg this]
      exact e_name hΓ h hn
    | false =>
      have hb : J_X9_nameOf (cB Γ p) = -1 := nm_no ((nm_AB hΓ).trans hn)
      rw [if_pos xb_f, hb, if_pos (show (-1 : Int32) < 0 by decide)]
      by_cases o6 : o < 6
      · obtain ⟨Fop, For, rfl, hX1, hX2⟩ := hP o6
        rw [if_neg (k_nle (x := (6 : Int32)) 6 rfl (by decide) (by omega) o6), nI_1]
        by_cases z1 : cA Γ p = 40
        · have zb : cB Γ p = 40 := (cAB_eq hΓ 40 (by decide)).mp z1
          rw [if_pos z1, zb, z1, if_neg (show ¬ (40 : Int32) = 33 by decide), if_neg (show ¬ (40 : Int32) = 45 by decide), if_pos rfl]
          exact e_paren hΓ o6 hX2 h z1
        · have zb : ¬ cB Γ p = 40 := fun e => z1 ((cAB_eq hΓ 40 (by decide)).mpr e)
          rw [if_neg z1]
          by_cases z2 : cA Γ p = 33
          · have zb : cB Γ p = 33 := (cAB_eq hΓ 33 (by decide)).mp z2
            rw [if_pos z2, zb, z2, if_pos rfl]
            exact e_unary (k := 33) hΓ o6 hX1 h (Or.inl rfl) z2
          · have zb2 : ¬ cB Γ p = 33 := fun e => z2 ((cAB_eq hΓ 33 (by decide)).mpr e)
            rw [if_neg z2, if_neg zb2]
            by_cases z3 : cA Γ p = 45
            · have zb : cB Γ p = 45 := (cAB_eq hΓ 45 (by decide)).mp z3
              rw [if_pos z3, zb, z3, if_pos rfl]
              exact e_unary (k := 45) hΓ o6 hX1 h (Or.inr rfl) z3
            · have zb3 : ¬ cB Γ p = 45 := fun e => z3 ((cAB_eq hΓ 45 (by decide)).mpr e)
              rw [if_neg z3, if_neg zb3, if_neg zb]
              exact e_bad hΓ h hd
      · obtain rfl : o = 6 := by omega
        rw [if_pos (show (6 : Int32) ≤ nI 6 by decide)]
        obtain ⟨hcc, hm', hpn1, hD, hS⟩ := id h
        obtain ⟨σ1, e1, f1, -⟩ := pc_refuse hcc (by omega)
        obtain ⟨μ1, e2, f2⟩ := pm_full hm'
        have full : xOut Γ p 6 D S (J_X2_refuse σ) (some μ1) := ⟨σ1, μ1, e1, rfl, Or.inr ⟨p, S.length, by omega, by omega, f1, f2, hpn1⟩⟩
        by_cases z2 : cB Γ p = 33
        · rw [if_pos z2]
          unfold J_X9_operand_46
          rw [e2, Option.bind_some, if_pos xb_f]
          exact full
        · rw [if_neg z2]
          by_cases z3 : cB Γ p = 45
          · rw [if_pos z3]
            unfold J_X9_operand_46
            rw [e2, Option.bind_some, if_pos xb_f]
            exact full
          · rw [if_neg z3]
            by_cases z1 : cB Γ p = 40
            · rw [if_pos z1, e2, Option.bind_some, if_pos xb_f]
              exact full
            · rw [if_neg z1]
              exact e_bad hΓ h hd
