/-! THE TAPE read: loops of binary signs. -/
theorem xFa_of {Γ : xGm} {q s : Nat} {σ μ : xS2} (h1 : xFc Γ q σ) (h2 : xFm Γ q s μ) (h : q ≤ Γ.1) : xFa Γ q s σ μ := ⟨h1, h2, h⟩
theorem vnb : ∀ k, k < 128 → vp_nar .byte ((nI k).toInt8.toInt32) = nI k := by decide +kernel
theorem xSt_bi : ∀ k, k < 128 → xBi (-(nI k)) → (xSt (-(nI k))).1 = nI k ∧ (xSt (-(nI k))).2 = 0 := by
  have h : ∀ k, k < 128 → (-(nI k) = -43 ∨ -(nI k) = -45 ∨ -(nI k) = -42 ∨ -(nI k) = -47 ∨ -(nI k) = -37 ∨ -(nI k) = -60 ∨ -(nI k) = -61 ∨ -(nI k) = -62 ∨ -(nI k) = -38 ∨ -(nI k) = -124) → (xSt (-(nI k))).1 = nI k ∧ (xSt (-(nI k))).2 = 0 := by decide +kernel
  exact h
/-- a binary sign read: the operand behind it, then its code -/
theorem op_tail {Γ : xGm} {o p k : Nat} {D S : List Int32} {σ μ : xS2} {F H : xS2 → Option xS2} (hΓ : xGo Γ) (hX : xExp Γ o F H) (h : xPr Γ p o D S σ μ) (hk : k < 128) (hb : xBi (-(nI k))) (hp : p < Γ.1) :
    ∃ σ' μ', ((F (yI σ 8 7 (σ.1 8 7 + 1))).bind fun x => J_X2_write (-(nI k)) x) = some σ' ∧ ((H (yI μ 43 22 (μ.1 43 22 + 1))).bind fun x => J_X9_addStep (nI k) 0 x) = some μ' ∧
      ((∃ l p', p < p' ∧ l.length + 1 ≤ p' - p ∧ xOne l ∧ xPr Γ p' o (D ++ (l ++ [-(nI k)])) (S ++ (l ++ [-(nI k)])) σ' μ') ∨ ∃ q s, p ≤ q ∧ s ≤ S.length + (q - p) + 1 ∧ xFa Γ q s σ' μ') := by
  have h120 := hΓ.1
  obtain ⟨hc, hm, hpn, hD, hS⟩ := h
  obtain ⟨σ1, μ1, e1, e2, hr⟩ := hX (p + 1) D S _ _ ⟨pc_adv hc, pm_adv hm, by omega, by omega, by omega⟩
  rw [e1, e2, Option.bind_some, Option.bind_some]
  rcases hr with ⟨l, p', hp', hl, h1, hc1, hm1, hpn1, hD1, hS1⟩ | ⟨q, s, hq, hs, hf1, hf2, hqn⟩
  · rw [List.length_append] at hD1 hS1
    obtain ⟨t1, t2⟩ := xSt_bi k hk hb
    obtain ⟨σ2, e3, hc2⟩ := pc_write (-(nI k)) hc1 (by rw [List.length_append]; omega)
    obtain ⟨μ2, e4, hm2⟩ := pm_add (-(nI k)) (nI k) 0 hm1 (by rw [List.length_append]; omega) (by rw [t1]; exact vnb k hk) t2.symm
    rw [List.append_assoc] at hc2 hm2
    refine ⟨σ2, μ2, e3, e4, Or.inl ⟨l, p', by omega, by omega, h1, hc2, hm2, hpn1, ?_, ?_⟩⟩
    · rw [List.length_append, List.length_append, List.length_singleton]; omega
    · rw [List.length_append, List.length_append, List.length_singleton]; omega
  · obtain ⟨σ2, e3, hf3⟩ := fc_write (-(nI k)) hf1
    obtain ⟨μ2, e4, hf4⟩ := fm_add (nI k) 0 hf2 (by omega)
    exact ⟨σ2, μ2, e3, e4, Or.inr ⟨q, s + 1, by omega, by omega, hf3, hf4, hqn⟩⟩
/-- a loop in class (CL, by fuel and rounds) and reference (RL, by fuel) over the signs C -/
def xLp (o : Nat) (C : Nat → Prop) (F H : xS2 → Option xS2) (CL : Nat → Nat → xS2 → Option xS2) (RL : Nat → xS2 → Option xS2) : Prop :=
  (∀ f k c σ, k < 120 → J_X2_sign σ = some (nI c) → C c → CL (f + 1) k σ = ((F (yI σ 8 7 (σ.1 8 7 + 1))).bind fun x => J_X2_write (-(nI c)) x).bind (CL f (k + 1))) ∧
  (∀ f k a σ, J_X2_sign σ = some a → (∀ c, C c → ¬ a = nI c) → CL (f + 1) k σ = some σ) ∧
  (∀ g c μ, μ.1 43 23 = -1 → J_X9_look μ = some (nI c) → C c → RL (g + 1) μ = ((H (yI μ 43 22 (μ.1 43 22 + 1))).bind fun x => J_X9_addStep (nI c) 0 x).bind (RL g)) ∧
  (∀ g b μ, μ.1 43 23 = -1 → J_X9_look μ = some b → (∀ c, C c → ¬ b = nI c) → RL (g + 1) μ = some μ) ∧
  (∀ g μ, 0 ≤ μ.1 43 23 → RL (g + 1) μ = some μ) ∧
  (∀ c, C c → c < 128 ∧ xBi (-(nI c)) ∧ J_X2_isDigit (nI c) = false)
theorem xNo_ne {C : Nat → Prop} {a : Int32} (h : xNoS a) (hC : ∀ c, C c → c < 128 ∧ xBi (-(nI c)) ∧ J_X2_isDigit (nI c) = false) : ∀ c, C c → ¬ a = nI c := by
  intro c hc e
  obtain ⟨h1, -, h3⟩ := hC c hc
  rcases h with h | h
  · exact nI_nm1 (n := c) (by omega) (e.symm.trans h)
  · rw [e, h3] at h; cases h
theorem lp_out {Γ : xGm} {o : Nat} {C : Nat → Prop} {F H : xS2 → Option xS2} {CL : Nat → Nat → xS2 → Option xS2} {RL : Nat → xS2 → Option xS2} (hΓ : xGo Γ) (hX : xExp Γ o F H) (hL : xLp o C F H CL RL) :
    ∀ (m f g k p p0 : Nat) (D S l : List Int32) (σ μ : xS2), Γ.1 - p ≤ m → m < f → m < g → k < p → p0 ≤ p → l.length ≤ p - p0 → xOne l → S.length ≤ p0 → xPr Γ p o (D ++ l) (S ++ l) σ μ → xOut Γ p0 o D S (CL f k σ) (RL g μ) := by
  obtain ⟨c1, c2, r1, r2, r3, hC⟩ := hL
  have h120 := hΓ.1
  intro m
  induction m with
  | zero =>
    intro f g k p p0 D S l σ μ hm hf hg hk hp0 hl h1 hS0 h
    obtain ⟨f, rfl⟩ : ∃ z, f = z + 1 := ⟨f - 1, by omega⟩
    obtain ⟨g, rfl⟩ : ∃ z, g = z + 1 := ⟨g - 1, by omega⟩
    have hsg := pc_sign hΓ h.1 h.2.2.1
    have hlk := pm_look hΓ h.2.1 h.2.2.1
    have no : ∀ c, C c → ¬ cA Γ p = nI c := fun c hc e => by
      have := cA_lt (by have := (hC c hc).1; omega) e
      omega
    have no2 : ∀ c, C c → ¬ cB Γ p = nI c := fun c hc e => no c hc ((cAB_eq hΓ c (hC c hc).1).mpr e)
    exact ⟨σ, μ, c2 f k _ σ hsg no, r2 g _ μ h.2.1.2.2.1 hlk no2, Or.inl ⟨l, p, hp0, hl, h1, h⟩⟩
  | succ m ih =>
    intro f g k p p0 D S l σ μ hm hf hg hk hp0 hl h1 hS0 h
    obtain ⟨f, rfl⟩ : ∃ z, f = z + 2 := ⟨f - 2, by omega⟩
    obtain ⟨g, rfl⟩ : ∃ z, g = z + 2 := ⟨g - 2, by omega⟩
    have hsg := pc_sign hΓ h.1 h.2.2.1
    have hlk := pm_look hΓ h.2.1 h.2.2.1
    by_cases yes : ∃ c, C c ∧ cA Γ p = nI c
    · obtain ⟨c, hc, ec⟩ := yes
      obtain ⟨hc1, hc2, hc3⟩ := hC c hc
      have hpn := cA_lt (by omega) ec
      rw [ec] at hsg
      rw [(cAB_eq hΓ c hc1).mp ec] at hlk
      obtain ⟨σ1, μ1, e1, e2, hr⟩ := op_tail hΓ hX h hc1 hc2 hpn
      have kc : CL (f + 2) k σ = CL (f + 1) (k + 1) σ1 := by rw [c1 (f + 1) k c σ (by omega) hsg hc, e1, Option.bind_some]
      have km : RL (g + 2) μ = RL (g + 1) μ1 := by rw [r1 (g + 1) c μ h.2.1.2.2.1 hlk hc, e2, Option.bind_some]
      rw [kc, km]
      rcases hr with ⟨l2, p2, hp2, hl2, h2, hpr⟩ | ⟨q, s, hq, hs, hf1, hf2, hqn⟩
      · refine ih (f + 1) (g + 1) (k + 1) p2 p0 D S (l ++ l2 ++ [-(nI c)]) σ1 μ1 (by omega) (by omega) (by omega) (by omega) (by omega) ?_ (one_bi h1 h2 hc2) hS0 ?_
        · rw [List.length_append, List.length_append, List.length_singleton]; omega
        · rw [show D ++ (l ++ l2 ++ [-(nI c)]) = D ++ l ++ (l2 ++ [-(nI c)]) by simp [List.append_assoc], show S ++ (l ++ l2 ++ [-(nI c)]) = S ++ l ++ (l2 ++ [-(nI c)]) by simp [List.append_assoc]]
          exact hpr
      · obtain ⟨a, ha, hno⟩ := fc_sign hΓ hf1 hqn
        refine ⟨σ1, μ1, c2 f (k + 1) a σ1 ha (xNo_ne hno hC), r3 g μ1 (by rw [hf2.2.2.1]; exact nI_pos' (by omega)), Or.inr ⟨q, s, by omega, ?_, hf1, hf2, hqn⟩⟩
        rw [List.length_append] at hs
        omega
    · have no : ∀ c, C c → ¬ cA Γ p = nI c := fun c hc e => yes ⟨c, hc, e⟩
      have no2 : ∀ c, C c → ¬ cB Γ p = nI c := fun c hc e => no c hc ((cAB_eq hΓ c (hC c hc).1).mpr e)
      exact ⟨σ, μ, c2 (f + 1) k _ σ hsg no, r2 (g + 1) _ μ h.2.1.2.2.1 hlk no2, Or.inl ⟨l, p, hp0, hl, h1, h⟩⟩
/-- an operand, then the loop -/
theorem lp_exp {Γ : xGm} {o : Nat} {C : Nat → Prop} {F H : xS2 → Option xS2} {CL : Nat → Nat → xS2 → Option xS2} {RL : Nat → xS2 → Option xS2} (hΓ : xGo Γ) (hX : xExp Γ o F H) (hL : xLp o C F H CL RL) :
    xExp Γ o (fun σ => (F σ).bind (CL xFU 0)) (fun μ => (H μ).bind (RL xFU)) := by
  intro p D S σ μ h
  have h120 := hΓ.1
  have hS := h.2.2.2.2
  obtain ⟨σ1, μ1, e1, e2, hr⟩ := hX p D S σ μ h
  show xOut Γ p o D S ((F σ).bind (CL xFU 0)) ((H μ).bind (RL xFU))
  rw [e1, e2, Option.bind_some, Option.bind_some]
  rcases hr with ⟨l, p', hp', hl, h1, hpr⟩ | ⟨q, s, hq, hs, hf1, hf2, hqn⟩
  · have : 0 < l.length := List.length_pos_iff.mpr h1.1
    exact lp_out hΓ hX hL 120 xFU xFU 0 p' p D S l σ1 μ1 (by omega) (by show 120 < 2000; omega) (by show 120 < 2000; omega) (by omega) hp' hl h1 hS hpr
  · obtain ⟨c1, c2, r1, r2, r3, hC⟩ := hL
    obtain ⟨a, ha, hno⟩ := fc_sign hΓ hf1 hqn
    exact ⟨σ1, μ1, c2 1999 0 a σ1 ha (xNo_ne hno hC), r3 1999 μ1 (by rw [hf2.2.2.1]; exact nI_pos' (by omega)), Or.inr ⟨q, s, hq, hs, hf1, hf2, hqn⟩⟩
theorem op_dig : J_X2_isDigit 124 = false ∧ J_X2_isDigit 38 = false ∧ J_X2_isDigit 43 = false ∧ J_X2_isDigit 45 = false ∧ J_X2_isDigit 42 = false ∧ J_X2_isDigit 47 = false ∧ J_X2_isDigit 37 = false := by decide
theorem e_or {Γ : xGm} {o : Nat} {F : Int32 → xS2 → Option xS2} {H : xS2 → Option xS2} (hΓ : xGo Γ) (hX : xExp Γ o (F (nI o)) H) : xExp Γ o (J_X2_readOr_b F (nI o)) (J_X9_either_b H) := by
  refine lp_exp (C := fun c => c = 124) (CL := fun f k σ => J_X2_readOr_7 F f (nI o) (nI k) σ) (RL := fun g μ => J_X9_either_4 H g μ) hΓ hX ⟨?_, ?_, ?_, ?_, ?_, ?_⟩
  · intro f k c σ hk hs hc
    subst hc
    show J_X2_readOr_7 F (f + 1) (nI o) (nI k) σ = _
    rw [E_X2_readOr_7, if_neg (k_nle (x := (120 : Int32)) 120 rfl (by decide) (by omega) hk)]
    unfold J_X2_pass
    rw [hs, Option.bind_some, if_pos (by decide), Option.bind_some, if_neg xb_nt, nI_1]
    cases F (nI o) (yI σ 8 7 (σ.1 8 7 + 1)) <;> rfl
  · intro f k a σ hs hno
    show J_X2_readOr_7 F (f + 1) (nI o) (nI k) σ = _
    rw [E_X2_readOr_7]
    unfold J_X2_pass
    rw [hs, Option.bind_some, if_neg (show ¬ a = (124 : Int32) from hno 124 rfl), Option.bind_some, if_pos xb_f]
    split <;> rfl
  · intro g c μ h23 hl hc
    subst hc
    show J_X9_either_4 H (g + 1) μ = _
    rw [E_X9_either_4, h23, if_neg (by decide), hl, Option.bind_some, if_pos (by decide)]
    cases H (yI μ 43 22 (μ.1 43 22 + 1)) <;> rfl
  · intro g b μ h23 hl hno
    show J_X9_either_4 H (g + 1) μ = _
    rw [E_X9_either_4, h23, if_neg (by decide), hl, Option.bind_some, if_neg (show ¬ b = (124 : Int32) from hno 124 rfl)]
  · intro g μ h
    show J_X9_either_4 H (g + 1) μ = _
    rw [E_X9_either_4, if_pos h]
  · intro c hc
    subst hc
    exact ⟨by decide, Or.inr (Or.inr (Or.inr (Or.inr (Or.inr (Or.inr (Or.inr (Or.inr (Or.inr rfl)))))))), by decide⟩
theorem e_and {Γ : xGm} {o : Nat} {F : Int32 → xS2 → Option xS2} {H : xS2 → Option xS2} (hΓ : xGo Γ) (hX : xExp Γ o (F (nI o)) H) : xExp Γ o (J_X2_readAnd_b F (nI o)) (J_X9_both_b H) := by
  refine lp_exp (C := fun c => c = 38) (CL := fun f k σ => J_X2_readAnd_7 F f (nI o) (nI k) σ) (RL := fun g μ => J_X9_both_4 H g μ) hΓ hX ⟨?_, ?_, ?_, ?_, ?_, ?_⟩
  · intro f k c σ hk hs hc
    subst hc
    show J_X2_readAnd_7 F (f + 1) (nI o) (nI k) σ = _
    rw [E_X2_readAnd_7, if_neg (k_nle (x := (120 : Int32)) 120 rfl (by decide) (by omega) hk)]
    unfold J_X2_pass
    rw [hs, Option.bind_some, if_pos (by decide), Option.bind_some, if_neg xb_nt, nI_1]
    cases F (nI o) (yI σ 8 7 (σ.1 8 7 + 1)) <;> rfl
  · intro f k a σ hs hno
    show J_X2_readAnd_7 F (f + 1) (nI o) (nI k) σ = _
    rw [E_X2_readAnd_7]
    unfold J_X2_pass
    rw [hs, Option.bind_some, if_neg (show ¬ a = (38 : Int32) from hno 38 rfl), Option.bind_some, if_pos xb_f]
    split <;> rfl
  · intro g c μ h23 hl hc
    subst hc
    show J_X9_both_4 H (g + 1) μ = _
    rw [E_X9_both_4, h23, if_neg (by decide), hl, Option.bind_some, if_pos (by decide)]
    cases H (yI μ 43 22 (μ.1 43 22 + 1)) <;> rfl
  · intro g b μ h23 hl hno
    show J_X9_both_4 H (g + 1) μ = _
    rw [E_X9_both_4, h23, if_neg (by decide), hl, Option.bind_some, if_neg (show ¬ b = (38 : Int32) from hno 38 rfl)]
  · intro g μ h
    show J_X9_both_4 H (g + 1) μ = _
    rw [E_X9_both_4, if_pos h]
  · intro c hc
    subst hc
    exact ⟨by decide, Or.inr (Or.inr (Or.inr (Or.inr (Or.inr (Or.inr (Or.inr (Or.inr (Or.inl rfl)))))))), by decide⟩
theorem e_sum {Γ : xGm} {o : Nat} {F : Int32 → xS2 → Option xS2} {H : xS2 → Option xS2} (hΓ : xGo Γ) (hX : xExp Γ o (F (nI o)) H) : xExp Γ o (J_X2_readSum_b F (nI o)) (J_X9_sum_b H) := by
  refine lp_exp (C := fun c => c = 43 ∨ c = 45) (CL := fun f k σ => J_X2_readSum_7 F f (nI o) (nI k) σ) (RL := fun g μ => J_X9_sum_4 H g μ) hΓ hX ⟨?_, ?_, ?_, ?_, ?_, ?_⟩
  · intro f k c σ hk hs hc
    show J_X2_readSum_7 F (f + 1) (nI o) (nI k) σ = _
    rw [E_X2_readSum_7, if_neg (k_nle (x := (120 : Int32)) 120 rfl (by decide) (by omega) hk), hs, Option.bind_some]
    unfold J_X2_readSum_33
    rw [nI_1]
    rcases hc with rfl | rfl
    · rw [if_pos (by decide)]
      cases F (nI o) (yI σ 8 7 (σ.1 8 7 + 1)) <;> rfl
    · rw [if_neg (by decide), if_pos (by decide)]
      cases F (nI o) (yI σ 8 7 (σ.1 8 7 + 1)) <;> rfl
  · intro f k a σ hs hno
    show J_X2_readSum_7 F (f + 1) (nI o) (nI k) σ = _
    rw [E_X2_readSum_7, hs, Option.bind_some, if_neg (show ¬ a = (43 : Int32) from hno 43 (Or.inl rfl)), if_neg (show ¬ a = (45 : Int32) from hno 45 (Or.inr rfl))]
    split <;> rfl
  · intro g c μ h23 hl hc
    show J_X9_sum_4 H (g + 1) μ = _
    rw [E_X9_sum_4, h23, if_neg (by decide), hl, Option.bind_some, Option.bind_some]
    unfold J_X9_sum_29
    rw [hl, Option.bind_some]
    rcases hc with rfl | rfl
    · rw [if_pos (by decide)]
      cases H (yI μ 43 22 (μ.1 43 22 + 1)) <;> rfl
    · rw [if_neg (by decide), if_pos (by decide)]
      cases H (yI μ 43 22 (μ.1 43 22 + 1)) <;> rfl
  · intro g b μ h23 hl hno
    show J_X9_sum_4 H (g + 1) μ = _
    rw [E_X9_sum_4, h23, if_neg (by decide), hl, Option.bind_some, if_neg (show ¬ b = (43 : Int32) from hno 43 (Or.inl rfl)), Option.bind_some, if_neg (show ¬ b = (45 : Int32) from hno 45 (Or.inr rfl))]
  · intro g μ h
    show J_X9_sum_4 H (g + 1) μ = _
    rw [E_X9_sum_4, if_pos h]
  · intro c hc
    rcases hc with rfl | rfl
    · exact ⟨by decide, Or.inl rfl, by decide⟩
    · exact ⟨by decide, Or.inr (Or.inl rfl), by decide⟩
theorem e_product {Γ : xGm} {o : Nat} {F : Int32 → xS2 → Option xS2} {H : xS2 → Option xS2} (hΓ : xGo Γ) (hX : xExp Γ o (F (nI o)) H) : xExp Γ o (J_X2_readProduct_b F (nI o)) (J_X9_product_b H) := by
  refine lp_exp (C := fun c => c = 42 ∨ c = 47 ∨ c = 37) (CL := fun f k σ => J_X2_readProduct_7 F f (nI o) (nI k) σ) (RL := fun g μ => J_X9_product_4 H g μ) hΓ hX ⟨?_, ?_, ?_, ?_, ?_, ?_⟩
  · intro f k c σ hk hs hc
    show J_X2_readProduct_7 F (f + 1) (nI o) (nI k) σ = _
    rw [E_X2_readProduct_7, if_neg (k_nle (x := (120 : Int32)) 120 rfl (by decide) (by omega) hk), hs, Option.bind_some]
    unfold J_X2_readProduct_39
    rw [nI_1]
    rcases hc with rfl | rfl | rfl
    · rw [if_pos (by decide)]
      cases F (nI o) (yI σ 8 7 (σ.1 8 7 + 1)) <;> rfl
    · rw [if_neg (by decide), if_pos (by decide)]
      cases F (nI o) (yI σ 8 7 (σ.1 8 7 + 1)) <;> rfl
    · rw [if_neg (by decide), if_neg (by decide), if_pos (by decide)]
      cases F (nI o) (yI σ 8 7 (σ.1 8 7 + 1)) <;> rfl
  · intro f k a σ hs hno
    show J_X2_readProduct_7 F (f + 1) (nI o) (nI k) σ = _
    rw [E_X2_readProduct_7, hs, Option.bind_some, if_neg (show ¬ a = (42 : Int32) from hno 42 (Or.inl rfl)), if_neg (show ¬ a = (47 : Int32) from hno 47 (Or.inr (Or.inl rfl))), if_neg (show ¬ a = (37 : Int32) from hno 37 (Or.inr (Or.inr rfl)))]
    split <;> rfl
  · intro g c μ h23 hl hc
    show J_X9_product_4 H (g + 1) μ = _
    rw [E_X9_product_4, h23, if_neg (by decide), hl, Option.bind_some, Option.bind_some, Option.bind_some]
    unfold J_X9_product_38
    rw [hl, Option.bind_some]
    rcases hc with rfl | rfl | rfl
    · rw [if_pos (by decide)]
      cases H (yI μ 43 22 (μ.1 43 22 + 1)) <;> rfl
    · rw [if_neg (by decide), if_pos (by decide)]
      cases H (yI μ 43 22 (μ.1 43 22 + 1)) <;> rfl
    · rw [if_neg (by decide), if_neg (by decide), if_pos (by decide)]
      cases H (yI μ 43 22 (μ.1 43 22 + 1)) <;> rfl
  · intro g b μ h23 hl hno
    show J_X9_product_4 H (g + 1) μ = _
    rw [E_X9_product_4, h23, if_neg (by decide), hl, Option.bind_some, if_neg (show ¬ b = (42 : Int32) from hno 42 (Or.inl rfl)), Option.bind_some, if_neg (show ¬ b = (47 : Int32) from hno 47 (Or.inr (Or.inl rfl))), Option.bind_some, if_neg (show ¬ b = (37 : Int32) from hno 37 (Or.inr (Or.inr rfl)))]
  · intro g μ h
    show J_X9_product_4 H (g + 1) μ = _
    rw [E_X9_product_4, if_pos h]
  · intro c hc
    rcases hc with rfl | rfl | rfl
    · exact ⟨by decide, Or.inr (Or.inr (Or.inl rfl)), by decide⟩
    · exact ⟨by decide, Or.inr (Or.inr (Or.inr (Or.inl rfl))), by decide⟩
    · exact ⟨by decide, Or.inr (Or.inr (Or.inr (Or.inr (Or.inl rfl)))), by decide⟩
theorem e_compared {Γ : xGm} {o : Nat} {F : Int32 → xS2 → Option xS2} {H : xS2 → Option xS2} (hΓ : xGo Γ) (hX : xExp Γ o (F (nI o)) H) : xExp Γ o (J_X2_readCompared_b F (nI o)) (J_X9_compared_b H) := by
  intro p D S σ μ h
  have h120 := hΓ.1
  have hS := h.2.2.2.2
  have bi : ∀ {x : Option xS2}, (x.bind fun x5 => some x5) = x := fun {x} => by cases x <;> rfl
  obtain ⟨σ1, μ1, e1, e2, hr⟩ := hX p D S σ μ h
  unfold J_X2_readCompared_b J_X9_compared_b J_X2_readCompared_28 J_X9_compared_35
  rw [e1, e2, Option.bind_some, Option.bind_some]
  simp only [bi]
  rcases hr with ⟨l, p', hp', hl, h1, hpr⟩ | ⟨q, s, hq, hs, hf1, hf2, hqn⟩
  · have hsg := pc_sign hΓ hpr.1 hpr.2.2.1
    have hlk := pm_look hΓ hpr.2.1 hpr.2.2.1
    rw [hsg, hlk, Option.bind_some, Option.bind_some, hpr.2.1.2.2.1, if_neg (show ¬ (0 : Int32) ≤ -1 by decide)]
    have yes : ∀ k, k < 128 → xBi (-(nI k)) → cA Γ p' = nI k → xOut Γ p o D S ((F (nI o) (yI σ1 8 7 (σ1.1 8 7 + 1))).bind fun x => J_X2_write (-(nI k)) x) ((H (yI μ1 43 22 (μ1.1 43 22 + 1))).bind fun x => J_X9_addStep (nI k) 0 x) := by
      intro k hk hb ek
      obtain ⟨σ2, μ2, e3, e4, hr2⟩ := op_tail hΓ hX hpr hk hb (cA_lt (by omega) ek)
      refine ⟨σ2, μ2, e3, e4, ?_⟩
      rcases hr2 with ⟨l2, p2, hp2, hl2, h2, hpr2⟩ | ⟨q, s, hq, hs, hf⟩
      · refine Or.inl ⟨l ++ l2 ++ [-(nI k)], p2, by omega, ?_, one_bi h1 h2 hb, ?_⟩
        · rw [List.length_append, List.length_append, List.length_singleton]; omega
        · rw [show D ++ (l ++ l2 ++ [-(nI k)]) = D ++ l ++ (l2 ++ [-(nI k)]) by simp [List.append_assoc], show S ++ (l ++ l2 ++ [-(nI k)]) = S ++ l ++ (l2 ++ [-(nI k)]) by simp [List.append_assoc]]
          exact hpr2
      · rw [List.length_append] at hs
        exact Or.inr ⟨q, s, by omega, by omega, hf⟩
    by_cases z1 : cA Γ p' = 60
    · have hB : cB Γ p' = 60 := (cAB_eq hΓ 60 (by decide)).mp z1
      rw [z1, hB, if_pos rfl, if_pos rfl]
      exact yes 60 (by decide) (Or.inr (Or.inr (Or.inr (Or.inr (Or.inr (Or.inl rfl)))))) z1
    · rw [if_neg z1, if_neg (show ¬ cB Γ p' = 60 from fun z => z1 ((cAB_eq hΓ 60 (by decide)).mpr z))]
      by_cases z2 : cA Γ p' = 61
      · have hB : cB Γ p' = 61 := (cAB_eq hΓ 61 (by decide)).mp z2
        rw [z2, hB, if_pos rfl, if_pos rfl]
        exact yes 61 (by decide) (Or.inr (Or.inr (Or.inr (Or.inr (Or.inr (Or.inr (Or.inl rfl))))))) z2
      · rw [if_neg z2, if_neg (show ¬ cB Γ p' = 61 from fun z => z2 ((cAB_eq hΓ 61 (by decide)).mpr z))]
        by_cases z3 : cA Γ p' = 62
        · have hB : cB Γ p' = 62 := (cAB_eq hΓ 62 (by decide)).mp z3
          rw [z3, hB, if_pos rfl, if_pos rfl]
          exact yes 62 (by decide) (Or.inr (Or.inr (Or.inr (Or.inr (Or.inr (Or.inr (Or.inr (Or.inl rfl)))))))) z3
        · rw [if_neg z3, if_neg (show ¬ cB Γ p' = 62 from fun z => z3 ((cAB_eq hΓ 62 (by decide)).mpr z))]
          exact ⟨σ1, μ1, rfl, rfl, Or.inl ⟨l, p', hp', hl, h1, hpr⟩⟩
  · obtain ⟨a, ha, hno⟩ := fc_sign hΓ hf1 hqn
    obtain ⟨b, hb⟩ := fm_look hΓ hf2 hqn
    have ne : ∀ k, k < 128 → J_X2_isDigit (nI k) = false → ¬ a = nI k := by
      intro k hk hd e
      rcases hno with h | h
      · exact nI_nm1 (n := k) (by omega) (e.symm.trans h)
      · rw [e, hd] at h; cases h
    rw [ha, hb, Option.bind_some, Option.bind_some, if_neg (show ¬ a = (60 : Int32) from ne 60 (by decide) (by decide)), if_neg (show ¬ a = (61 : Int32) from ne 61 (by decide) (by decide)), if_neg (show ¬ a = (62 : Int32) from ne 62 (by decide) (by decide)), if_pos (by rw [hf2.2.2.1]; exact nI_pos' (by omega))]
    exact ⟨σ1, μ1, rfl, rfl, Or.inr ⟨q, s, hq, hs, hf1, hf2, hqn⟩⟩
