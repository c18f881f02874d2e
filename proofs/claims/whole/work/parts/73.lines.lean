/-! THE TAPE read: a line, all lines. -/
theorem pm_58 {Γ : xGm} {p o j : Nat} {v : Int32} {S : List Int32} {μ : xS2} (h : xPm Γ p o S μ) : xPm Γ p o S (yI μ 58 j v) := h
theorem fm_59 {Γ : xGm} {q s j : Nat} {v w : Int32} {μ : xS2} (h : xFm Γ q s μ) : xFm Γ q s (yI (yI μ 59 j v) 57 1 w) := h
theorem pm_59 {Γ : xGm} {p o j : Nat} {v w : Int32} {S : List Int32} {μ : xS2} (h : xPm Γ p o S μ) : xPm Γ p o S (yI (yI μ 59 j v) 57 1 w) := h
theorem one_66 {μ0 μ ρ : xS2} {P : List xLn} {t : Option (List Int32)} {b : List Int32} {s : Nat} (hP : P.length ≤ 60) (h : xLm μ0 P μ) (h57 : ∀ k, ρ.1 57 k = μ.1 57 k) (h58 : ∀ k, k < 61 + P.length → ρ.1 58 k = μ.1 58 k) (h59 : ∀ k, k < 61 + P.length → ρ.1 59 k = μ.1 59 k)
    (e58 : ρ.1 58 (61 + P.length) = nI ((xSp P).length + (t.getD []).length)) (e25 : ρ.1 43 25 = nI s) (hs : s < 200) (es : s = (xSp P).length + (t.getD []).length + b.length) :
    J_X9_oneLine_66 (nI (61 + P.length)) ρ = some (yI (yI ρ 59 (61 + P.length) (nI s)) 57 1 (nI (P.length + 1))) ∧ xLm μ0 (P ++ [(t, b)]) (yI (yI ρ 59 (61 + P.length) (nI s)) 57 1 (nI (P.length + 1))) := by
  refine ⟨?_, ?_⟩
  · unfold J_X9_oneLine_66
    rw [c_xin (by omega) (by decide), xgd_t, nI_c (by omega), e25, (sh_id s hs).1, h57, h.2.1, nI_1]
  · refine xLm_snoc h (h57 0) rfl h58 (fun k hk => ?_) e58 ?_
    · show (if k = 61 + P.length then nI s else ρ.1 59 k) = _
      rw [if_neg (by omega), h59 k hk]
    · show (if 61 + P.length = 61 + P.length then nI s else _) = _
      rw [if_pos rfl, es]
theorem old_66 {μ0 μ ρ : xS2} {P : List xLn} {s : Nat} (hP : P.length ≤ 60) (h : xLm μ0 P μ) (h57 : ∀ k, ρ.1 57 k = μ.1 57 k) (h58 : ∀ k, k < 61 + P.length → ρ.1 58 k = μ.1 58 k) (h59 : ∀ k, k < 61 + P.length → ρ.1 59 k = μ.1 59 k) (e25 : ρ.1 43 25 = nI s) (hs : s < 200) :
    J_X9_oneLine_66 (nI (61 + P.length)) ρ = some (yI (yI ρ 59 (61 + P.length) (nI s)) 57 1 (nI (P.length + 1))) ∧ xLold μ0 (yI (yI ρ 59 (61 + P.length) (nI s)) 57 1 (nI (P.length + 1))) := by
  obtain ⟨⟨a1, a2⟩, a3, a4⟩ := h
  refine ⟨?_, ?_, fun i hi => ⟨?_, ?_⟩⟩
  · unfold J_X9_oneLine_66
    rw [c_xin (by omega) (by decide), xgd_t, nI_c (by omega), e25, (sh_id s hs).1, h57, a3, nI_1]
  · show ρ.1 57 0 = _
    rw [h57, a1]
  · show ρ.1 58 i = _
    rw [h58 i (by omega)]; exact (a2 i hi).1
  · show (if i = 61 + P.length then nI s else ρ.1 59 i) = _
    rw [if_neg (by omega), h59 i (by omega)]; exact (a2 i hi).2
theorem one_line {Γ : xGm} {p : Nat} {P : List xLn} {σ μ μ0 : xS2} (hΓ : xGo Γ) (h : xPr Γ p 0 (xCd P) (xSp P) σ μ) (hP : P.length ≤ 60) (hm : xLm μ0 P μ) : ∃ σ' μ', xLC σ = some σ' ∧ J_X9_oneLine μ = some μ' ∧
    ((∃ t b D p', p < p' ∧ xLG (t, b) ∧ D ++ [-59] = xCd (P ++ [(t, b)]) ∧ xPr Γ p' 0 D (xSp (P ++ [(t, b)])) σ' μ' ∧ xLm μ0 (P ++ [(t, b)]) μ') ∨ ∃ q s, p ≤ q ∧ xFa Γ q s σ' μ' ∧ xLold μ0 μ') := by
  have h120 := hΓ.1
  obtain ⟨hcc, hmm, hpn, hD, hS⟩ := h
  have e61 : (61 : Int32) + nI P.length = nI (61 + P.length) := nI_add 61 _
  have x61 : xin (nI (61 + P.length)) 122 = true := c_xin (by omega) (by decide)
  have hsh : vp_nar .short ((μ.1 43 25).toInt16.toInt32) = nI (xSp P).length := by rw [hmm.2.2.2.2.1]; exact (sh_id _ (by omega)).1
  have r1 : J_X9_oneLine μ = (J_X9_either (yI μ 58 (61 + P.length) (nI (xSp P).length))).bind fun x3 => if 0 ≤ x3.1 43 23 then J_X9_oneLine_66 (nI (61 + P.length)) x3 else (J_X9_look x3).bind fun x8 => if x8 = 63 then (J_X9_either (yI (yI x3 43 22 (x3.1 43 22 + 1)) 58 (61 + P.length) (vp_nar .short ((x3.1 43 25).toInt16.toInt32)))).bind fun x11 => J_X9_oneLine_66 (nI (61 + P.length)) x11 else J_X9_oneLine_66 (nI (61 + P.length)) x3 := by
    unfold J_X9_oneLine
    rw [hm.2.1, e61, x61, xgd_t, hsh, nI_c (by omega)]
    simp only [xgd_t]
  have hm1 : xLm μ0 P (yI μ 58 (61 + P.length) (nI (xSp P).length)) := xLm_fr hm (fun _ => rfl) (fun k hk => by
    show (if k = 61 + P.length then _ else μ.1 58 k) = _
    rw [if_neg (by omega)]) (fun _ _ => rfl)
  obtain ⟨σ1, μ1, e1, e2, hr⟩ := e_top hΓ p (xCd P) (xSp P) σ (yI μ 58 (61 + P.length) (nI (xSp P).length)) ⟨hcc, pm_58 hmm, hpn, hD, hS⟩
  have f2 := F_X9_either e2
  have g57 : ∀ k, μ1.1 57 k = (yI μ 58 (61 + P.length) (nI (xSp P).length)).1 57 k := fun k => (f2 57 k rfl).1
  have g58 : ∀ k, μ1.1 58 k = (yI μ 58 (61 + P.length) (nI (xSp P).length)).1 58 k := fun k => (f2 58 k rfl).1
  have g59 : ∀ k, μ1.1 59 k = (yI μ 58 (61 + P.length) (nI (xSp P).length)).1 59 k := fun k => (f2 59 k rfl).1
  have t58 : μ1.1 58 (61 + P.length) = nI (xSp P).length := by
    rw [g58]
    show (if 61 + P.length = 61 + P.length then _ else _) = _
    rw [if_pos rfl]
  rw [e2, Option.bind_some] at r1
  unfold xLC J_X2_pass
  rw [e1, Option.bind_some]
  rcases hr with ⟨l, p', hp', hl, h1, hpr⟩ | ⟨q, s, hq, hs, hf1, hf2, hqn⟩
  · have hl0 : 0 < l.length := List.length_pos_iff.mpr h1.1
    have hsg := pc_sign hΓ hpr.1 hpr.2.2.1
    have hlk := pm_look hΓ hpr.2.1 hpr.2.2.1
    obtain ⟨c1, m1, q1, q2, q3⟩ := hpr
    have q2' := q2
    have q3' := q3
    rw [List.length_append] at q2' q3'
    rw [m1.2.2.1, if_neg (show ¬ (0 : Int32) ≤ -1 by decide), hlk, Option.bind_some] at r1
    rw [hsg, Option.bind_some]
    by_cases z : cA Γ p' = 63
    · have zb : cB Γ p' = 63 := (cAB_eq hΓ 63 (by decide)).mp z
      have hp2 : p' < Γ.1 := cA_lt (c := 63) (by decide) z
      have hsh2 : vp_nar .short ((μ1.1 43 25).toInt16.toInt32) = nI (xSp P ++ l).length := by rw [m1.2.2.2.2.1]; exact (sh_id _ (by rw [List.length_append]; omega)).1
      rw [if_pos zb, hsh2] at r1
      rw [if_pos z, Option.bind_some, if_neg xb_nt]
      obtain ⟨σ2, e3, c2⟩ := pc_write (-63) (pc_adv c1) (by rw [List.length_append]; omega)
      show ∃ σ' μ', ((J_X2_write (-63) (yI σ1 8 7 (σ1.1 8 7 + 1))).bind _) = _ ∧ _
      rw [e3, Option.bind_some]
      have m2 : xPm Γ (p' + 1) 0 (xSp P ++ l) (yI (yI μ1 43 22 (μ1.1 43 22 + 1)) 58 (61 + P.length) (nI (xSp P ++ l).length)) := pm_58 (pm_adv m1)
      have hm2 : xLm μ0 P (yI (yI μ1 43 22 (μ1.1 43 22 + 1)) 58 (61 + P.length) (nI (xSp P ++ l).length)) := xLm_fr hm1 g57 (fun k hk => by
        show (if k = 61 + P.length then _ else μ1.1 58 k) = _
        rw [if_neg (by omega), g58]) (fun k _ => g59 k)
      obtain ⟨σ3, μ3, e4, e5, hr2⟩ := e_top hΓ (p' + 1) (xCd P ++ l ++ [-63]) (xSp P ++ l) σ2 _ ⟨c2, m2, by omega, by rw [List.length_append, List.length_append, List.length_singleton]; omega, by rw [List.length_append]; omega⟩
      have f5 := F_X9_either e5
      have u57 : ∀ k, μ3.1 57 k = (yI (yI μ1 43 22 (μ1.1 43 22 + 1)) 58 (61 + P.length) (nI (xSp P ++ l).length)).1 57 k := fun k => (f5 57 k rfl).1
      have u58 : ∀ k, μ3.1 58 k = (yI (yI μ1 43 22 (μ1.1 43 22 + 1)) 58 (61 + P.length) (nI (xSp P ++ l).length)).1 58 k := fun k => (f5 58 k rfl).1
      have u59 : ∀ k, μ3.1 59 k = (yI (yI μ1 43 22 (μ1.1 43 22 + 1)) 58 (61 + P.length) (nI (xSp P ++ l).length)).1 59 k := fun k => (f5 59 k rfl).1
      have v58 : μ3.1 58 (61 + P.length) = nI ((xSp P).length + l.length) := by
        rw [u58]
        show (if 61 + P.length = 61 + P.length then nI (xSp P ++ l).length else _) = _
        rw [if_pos rfl, List.length_append]
      rw [e5, Option.bind_some] at r1
      rw [e4]
      rcases hr2 with ⟨l2, p2, hp2', hl2, h2, c3, m3, q4, q5, q6⟩ | ⟨q, s, hq, hs, hf1, hf2, hqn⟩
      · have hl20 : 0 < l2.length := List.length_pos_iff.mpr h2.1
        have q6' := q6
        rw [List.length_append, List.length_append] at q6'
        obtain ⟨w1, w2⟩ := one_66 (t := some l) (b := l2) (s := (xSp P ++ l ++ l2).length) hP hm2 u57 (fun k _ => u58 k) (fun k _ => u59 k) v58 m3.2.2.2.2.1 (by omega) (by rw [List.length_append, List.length_append]; rfl)
        have eS : xSp (P ++ [(some l, l2)]) = xSp P ++ l ++ l2 := by
          rw [xSp_app]
          show xSp P ++ (l ++ l2 ++ []) = _
          simp
        refine ⟨σ3, _, rfl, r1.trans w1, Or.inl ⟨some l, l2, xCd P ++ l ++ [-63] ++ l2, p2, by omega, ⟨fun t ht => by cases ht; exact h1, h2⟩, ?_, ⟨c3, ?_, q4, q5, ?_⟩, w2⟩⟩
        · rw [xCd_app]
          show _ = xCd P ++ (l ++ (-63 : Int32) :: (l2 ++ (-59 : Int32) :: []))
          simp
        · rw [eS]; exact pm_59 m3
        · rw [eS]; exact q6
      · rw [List.length_append] at hs
        obtain ⟨w1, w2⟩ := old_66 (s := s) hP hm2 u57 (fun k _ => u58 k) (fun k _ => u59 k) hf2.2.2.2.1 (by omega)
        exact ⟨σ3, _, rfl, r1.trans w1, Or.inr ⟨q, s, by omega, ⟨hf1, fm_59 hf2, hqn⟩, w2⟩⟩
    · have zb : ¬ cB Γ p' = 63 := fun e => z ((cAB_eq hΓ 63 (by decide)).mpr e)
      rw [if_neg zb] at r1
      rw [if_neg z, Option.bind_some, if_pos xb_f]
      obtain ⟨w1, w2⟩ := one_66 (t := none) (b := l) (s := (xSp P ++ l).length) hP hm1 g57 (fun k _ => g58 k) (fun k _ => g59 k) (by rw [t58]; rfl) m1.2.2.2.2.1 (by rw [List.length_append]; omega) (by rw [List.length_append]; rfl)
      have eS : xSp (P ++ [(none, l)]) = xSp P ++ l := by
        rw [xSp_app]
        show xSp P ++ ([] ++ l ++ []) = _
        simp
      refine ⟨σ1, _, rfl, r1.trans w1, Or.inl ⟨none, l, xCd P ++ l, p', by omega, ⟨(fun t ht => by cases ht), h1⟩, ?_, ⟨c1, ?_, q1, q2, ?_⟩, w2⟩⟩
      · rw [xCd_app]
        show _ = xCd P ++ (l ++ (-59 : Int32) :: [])
        simp
      · rw [eS]; exact pm_59 m1
      · rw [eS]; exact q3
  · obtain ⟨a, ha, hno⟩ := fc_sign hΓ hf1 hqn
    have ne : ¬ a = 63 := by
      intro e
      rcases hno with h | h
      · rw [e] at h; exact absurd h (by decide)
      · rw [e] at h; exact absurd h (by decide)
    rw [hf2.2.2.1, if_pos (nI_pos' (by omega))] at r1
    obtain ⟨w1, w2⟩ := old_66 (s := s) hP hm1 g57 (fun k _ => g58 k) (fun k _ => g59 k) hf2.2.2.2.1 (by omega)
    rw [ha, Option.bind_some, if_neg ne, Option.bind_some, if_pos xb_f]
    exact ⟨σ1, _, rfl, r1.trans w1, Or.inr ⟨q, s, by omega, ⟨hf1, fm_59 hf2, hqn⟩, w2⟩⟩
theorem pc_57 {Γ : xGm} {p : Nat} {D : List Int32} {σ : xS2} (hΓ : xGo Γ) (h : xPc Γ p D σ) (hp : p ≤ Γ.1) (hD : D.length ≤ 121) : (p = Γ.1 ∧ J_X2_readLines_57 σ = some σ) ∨ (p < Γ.1 ∧ ∃ σ', J_X2_readLines_57 σ = some σ' ∧ σ'.1 8 8 = nI p) := by
  have h120 := hΓ.1
  unfold J_X2_readLines_57
  rw [h.1, h.2.1]
  by_cases q : p < Γ.1
  · obtain ⟨σ', e, -, e2⟩ := pc_refuse h hD
    rw [if_neg (c_nle (by omega) (by omega) q), e, Option.bind_some]
    exact Or.inr ⟨q, σ', rfl, e2⟩
  · rw [if_pos (c_le (by omega) (by omega) (by omega))]
    exact Or.inl ⟨by omega, rfl⟩
theorem fc_57 {Γ : xGm} {q : Nat} {σ : xS2} (hΓ : xGo Γ) (h : xFc Γ q σ) (hq : q ≤ Γ.1) : ∃ σ', J_X2_readLines_57 σ = some σ' ∧ σ'.1 8 8 = nI q := by
  have h120 := hΓ.1
  unfold J_X2_readLines_57
  obtain ⟨σ', e, -, e2⟩ := fc_refuse hΓ h hq
  rw [e, Option.bind_some]
  rcases h.2.1 with h8 | ⟨h8, h7, hqn, -⟩
  · by_cases z : σ.1 8 9 ≤ σ.1 8 7
    · rw [if_pos z]; exact ⟨σ, rfl, h8⟩
    · rw [if_neg z]; exact ⟨σ', rfl, e2⟩
  · rw [h.1, h7, if_neg (c_nle (by omega) (by omega) hqn)]
    exact ⟨σ', rfl, e2⟩
theorem lines_sim {Γ : xGm} {μ0 : xS2} (hΓ : xGo Γ) : ∀ (m f g p : Nat) (P : List xLn) (σ μ : xS2), Γ.1 - p ≤ m → m < f → m < g → 2 * P.length ≤ p → (∀ q ∈ P, xLG q) → xPr Γ p 0 (xCd P) (xSp P) σ μ → xLm μ0 P μ →
    ∃ σ' μ', J_X2_readLines_2 f (nI P.length) σ = some σ' ∧ ((J_X9_oneLine μ).bind (J_X9_readText_31 g 0)) = J_X9_readText_86 0 μ' ∧
      ((∃ P', P' ≠ [] ∧ (∀ q ∈ P', xLG q) ∧ P'.length ≤ 61 ∧ (xCd P').length ≤ 121 ∧ (xSp P').length ≤ 121 ∧ xPc Γ Γ.1 (xCd P') σ' ∧ xPm Γ Γ.1 0 (xSp P') μ' ∧ xLm μ0 P' μ') ∨ ∃ q s, q ≤ Γ.1 ∧ xFm Γ q s μ' ∧ σ'.1 8 8 = nI q ∧ xLold μ0 μ') := by
  have h120 := hΓ.1
  intro m
  induction m with
  | zero =>
    intro f g p P σ μ hm hf hg hP hG h hlm
    have hpn := h.2.2.1
    obtain ⟨f, rfl⟩ : ∃ z, f = z + 1 := ⟨f - 1, by omega⟩
    obtain ⟨g, rfl⟩ : ∃ z, g = z + 1 := ⟨g - 1, by omega⟩
    obtain ⟨σ1, μ1, e1, e2, hr⟩ := one_line hΓ h (by omega) hlm
    rw [lines_LC (k_nlt (x := (120 : Int32)) 120 rfl (by decide) (by omega) (by omega)), e1, e2, Option.bind_some, Option.bind_some]
    rcases hr with ⟨t, b, D, p', hp', -, -, hpr, -⟩ | ⟨q, s, hq, ⟨hf1, hf2, hqn⟩, hold⟩
    · have := hpr.2.2.1
      omega
    · obtain ⟨σ2, e3, hf3⟩ := fc_write (-59) hf1
      obtain ⟨a, ha, hno⟩ := fc_sign hΓ hf3 hqn
      have ne : ¬ a = 59 := by
        intro e
        rcases hno with h | h
        · rw [e] at h; exact absurd h (by decide)
        · rw [e] at h; exact absurd h (by decide)
      obtain ⟨σ3, e4, e5⟩ := fc_57 hΓ hf3 hqn
      refine ⟨σ3, μ1, ?_, ?_, Or.inr ⟨q, s, hqn, hf2, e5, hold⟩⟩
      · unfold J_X2_readLines_33 J_X2_pass
        rw [e3, Option.bind_some, ha, Option.bind_some, if_neg ne, Option.bind_some, if_pos xb_f]
        exact e4
      · rw [E_X9_readText_31, hf2.2.2.1, if_pos (nI_pos' (by omega))]
        unfold J_X9_readText_64
        rw [hf2.2.2.1, if_pos (nI_pos' (by omega))]
  | succ m ih =>
    intro f g p P σ μ hm hf hg hP hG h hlm
    have hpn := h.2.2.1
    obtain ⟨f, rfl⟩ : ∃ z, f = z + 1 := ⟨f - 1, by omega⟩
    obtain ⟨g, rfl⟩ : ∃ z, g = z + 1 := ⟨g - 1, by omega⟩
    obtain ⟨σ1, μ1, e1, e2, hr⟩ := one_line hΓ h (by omega) hlm
    rw [lines_LC (k_nlt (x := (120 : Int32)) 120 rfl (by decide) (by omega) (by omega)), e1, e2, Option.bind_some, Option.bind_some]
    rcases hr with ⟨t, b, D, p', hp', hg1, hDD, hpr, hlm1⟩ | ⟨q, s, hq, ⟨hf1, hf2, hqn⟩, hold⟩
    · obtain ⟨c1, m1, q1, q2, q3⟩ := hpr
      have eD : (xCd (P ++ [(t, b)])).length = D.length + 1 := by rw [← hDD, List.length_append, List.length_singleton]
      have eP : (P ++ [(t, b)]).length = P.length + 1 := by rw [List.length_append, List.length_singleton]
      obtain ⟨σ2, e3, c2⟩ := pc_write (-59) c1 (by omega)
      rw [hDD] at c2
      have hsg := pc_sign hΓ c2 q1
      have hlk := pm_look hΓ m1 q1
      have hG1 : ∀ q ∈ P ++ [(t, b)], xLG q := by
        intro q hq
        rcases List.mem_append.mp hq with z | z
        · exact hG q z
        · rw [List.mem_singleton.mp z]; exact hg1
      have kc : J_X2_readLines_33 (J_X2_readLines_2 f) (nI P.length) σ1 = if cA Γ p' = 59 then J_X2_readLines_2 f (nI (P ++ [(t, b)]).length) (yI σ2 8 7 (σ2.1 8 7 + 1)) else J_X2_readLines_57 σ2 := by
        unfold J_X2_readLines_33 J_X2_pass
        rw [e3, Option.bind_some, hsg, Option.bind_some, nI_1, eP]
        by_cases z : cA Γ p' = 59
        · rw [if_pos z, if_pos z, Option.bind_some, if_neg xb_nt]
        · rw [if_neg z, if_neg z, Option.bind_some, if_pos xb_f]
      have km : J_X9_readText_31 (g + 1) 0 μ1 = if cB Γ p' = 59 then (J_X9_oneLine (yI μ1 43 22 (μ1.1 43 22 + 1))).bind (J_X9_readText_31 g 0) else J_X9_readText_64 0 μ1 := by
        rw [E_X9_readText_31, m1.2.2.1, if_neg (by decide), hlk, Option.bind_some]
      rw [kc, km]
      by_cases z : cA Γ p' = 59
      · have zb : cB Γ p' = 59 := (cAB_eq hΓ 59 (by decide)).mp z
        have hp2 : p' < Γ.1 := cA_lt (c := 59) (by decide) z
        rw [if_pos z, if_pos zb]
        exact ih f g (p' + 1) (P ++ [(t, b)]) _ _ (by omega) (by omega) (by omega) (by omega) hG1 ⟨pc_adv c2, pm_adv m1, by omega, by omega, by omega⟩ (xLm_fr hlm1 (fun _ => rfl) (fun _ _ => rfl) (fun _ _ => rfl))
      · have zb : ¬ cB Γ p' = 59 := fun e => z ((cAB_eq hΓ 59 (by decide)).mpr e)
        rw [if_neg z, if_neg zb]
        unfold J_X9_readText_64
        rw [m1.2.2.1, if_neg (show ¬ (0 : Int32) ≤ -1 by decide), m1.1, m1.2.1]
        rcases pc_57 hΓ c2 q1 (by omega) with ⟨y1, y2⟩ | ⟨y1, σ3, y2, y3⟩
        · rw [y2, if_pos (c_le (by omega) (by omega) (by omega))]
          subst y1
          refine ⟨σ2, μ1, rfl, rfl, Or.inl ⟨P ++ [(t, b)], by simp, hG1, by omega, by omega, by omega, c2, m1, hlm1⟩⟩
        · obtain ⟨μ2, e4, f4⟩ := pm_faulty m1
          rw [y2, if_neg (c_nle (by omega) (by omega) y1), e4, Option.bind_some]
          have f5 := F_X9_faulty e4
          obtain ⟨⟨a1, a2⟩, -, -⟩ := hlm1
          exact ⟨σ3, μ2, rfl, rfl, Or.inr ⟨p', _, q1, f4, y3, ⟨(f5 57 0 rfl).1.trans a1, fun i hi => ⟨(f5 58 i rfl).1.trans (a2 i hi).1, (f5 59 i rfl).1.trans (a2 i hi).2⟩⟩⟩⟩
    · obtain ⟨σ2, e3, hf3⟩ := fc_write (-59) hf1
      obtain ⟨a, ha, hno⟩ := fc_sign hΓ hf3 hqn
      have ne : ¬ a = 59 := by
        intro e
        rcases hno with h | h
        · rw [e] at h; exact absurd h (by decide)
        · rw [e] at h; exact absurd h (by decide)
      obtain ⟨σ3, e4, e5⟩ := fc_57 hΓ hf3 hqn
      refine ⟨σ3, μ1, ?_, ?_, Or.inr ⟨q, s, hqn, hf2, e5, hold⟩⟩
      · unfold J_X2_readLines_33 J_X2_pass
        rw [e3, Option.bind_some, ha, Option.bind_some, if_neg ne, Option.bind_some, if_pos xb_f]
        exact e4
      · rw [E_X9_readText_31, hf2.2.2.1, if_pos (nI_pos' (by omega))]
        unfold J_X9_readText_64
        rw [hf2.2.2.1, if_pos (nI_pos' (by omega))]
