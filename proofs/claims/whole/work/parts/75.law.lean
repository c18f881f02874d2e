/-! law: the step. -/
theorem xIL_tr {σ ρ : xS2} (h : xIL σ) (h5 : ρ.1 8 5 = σ.1 8 5) (h11 : ∀ k, ρ.1 11 k = σ.1 11 k) (h33 : ρ.1 43 33 = σ.1 43 33) (h55 : ∀ i, i < 130 → ρ.1 55 i = σ.1 55 i ∧ ρ.1 56 i = σ.1 56 i) (h57 : ρ.1 57 0 = σ.1 57 0) (h58 : ∀ i, i < 61 → ρ.1 58 i = σ.1 58 i ∧ ρ.1 59 i = σ.1 59 i) : xIL ρ := by
  rcases h with ⟨a, b⟩ | ⟨a, P, p0, p1, p2, p3, p4, p5, p6, p7, p8, p9⟩
  · exact Or.inl ⟨h5.trans a, h33.trans b⟩
  · refine Or.inr ⟨h33.trans a, P, p0, p1, p2, p3, p4, h5.trans p5, fun i z hz => (h11 i).trans (p6 i z hz), fun i z hz => ?_, h57.trans p8, fun i q hq => ?_⟩
    · have := get_lt hz
      obtain ⟨e1, e2⟩ := h55 i (by omega)
      rw [e1, e2]
      exact p7 i z hz
    · have : i < P.length := by
        have := (List.getElem?_eq_some_iff.mp hq).1
        rwa [ends_len] at this
      obtain ⟨e1, e2⟩ := h58 i (by omega)
      rw [e1, e2]
      exact p9 i q hq
def xCini (σ : xS2) : xS2 := yI (yI (yI σ 8 4 0) 8 7 0) 8 8 (-1)
def xMini (μ : xS2) : xS2 := yI (yI (yI (yI (yI μ 43 22 0) 43 23 (-1)) 43 24 0) 43 25 0) 57 1 0
theorem cpy_0 (f g : Nat → Int32) (n i : Nat) (h : i < n) : va_cpy f g (0 : Int32).toNatClampNeg (0 : Int32).toNatClampNeg n i = f i := by
  show (if 0 ≤ i ∧ i < 0 + n then f (0 + (i - 0)) else g i) = f i
  rw [if_pos ⟨Nat.zero_le _, by omega⟩, Nat.zero_add, Nat.sub_zero]
theorem law_two {σ μ : xS2} {n : Nat} (hn : n ≤ 120) (h9 : σ.1 8 9 = nI n) (h21 : μ.1 43 21 = nI n) (ht : ∀ i, i < n → xRg (σ.1 9 i) 0 255 ∧ μ.1 54 i = (σ.1 9 i).toInt8.toInt32) :
    ∃ r σ' ρ, J_X8_law σ = some (r, σ') ∧ J_X9_law μ = some (r, ρ) ∧ σ'.1 8 9 = 0 ∧ ρ.1 43 21 = 0 ∧
      ((σ'.1 8 5 = σ.1 8 5 ∧ (∀ k, σ'.1 11 k = σ.1 11 k) ∧ ρ.1 43 33 = μ.1 43 33 ∧ (∀ i, i < 130 → ρ.1 55 i = μ.1 55 i ∧ ρ.1 56 i = μ.1 56 i) ∧ ρ.1 57 0 = μ.1 57 0 ∧ ∀ i, i < 61 → ρ.1 58 i = μ.1 58 i ∧ ρ.1 59 i = μ.1 59 i) ∨
       (ρ.1 43 33 = 1 ∧ ∃ P : List xLn, P ≠ [] ∧ (∀ q ∈ P, (∀ t, q.1 = some t → xOne t) ∧ xOne q.2) ∧ P.length ≤ 61 ∧ (xCd P).length ≤ 121 ∧ (xSp P).length ≤ 121 ∧
        σ'.1 8 5 = nI (xCd P).length ∧ (∀ i z, (xCd P)[i]? = some z → σ'.1 11 i = z) ∧ (∀ i z, (xSp P)[i]? = some z → ρ.1 55 i = (xSt z).1 ∧ ρ.1 56 i = (xSt z).2) ∧
        ρ.1 57 0 = nI P.length ∧ ∀ i q, (xEnds 0 P)[i]? = some q → ρ.1 58 i = nI q.1 ∧ ρ.1 59 i = nI q.2)) := by
  obtain ⟨Γ, hΓe⟩ : ∃ Γ : xGm, Γ = (n, σ.1 9, μ.1 54, μ.1 55, μ.1 56) := ⟨_, rfl⟩
  have hΓ : xGo Γ := by rw [hΓe]; exact ⟨hn, ht⟩
  have hpr : xPr Γ 0 0 (xCd []) (xSp []) (xCini σ) (xMini μ) := by
    rw [hΓe]
    exact ⟨⟨h9, rfl, rfl, rfl, fun i z hz => (by cases hz), rfl⟩, ⟨h21, rfl, rfl, rfl, rfl, fun i z hz => (by cases hz), fun i _ => ⟨rfl, rfl⟩, rfl⟩, Nat.zero_le _, Nat.le_refl _, Nat.le_refl _⟩
  have hlm : xLm (xMini μ) [] (xMini μ) := ⟨⟨rfl, fun i _ => ⟨rfl, rfl⟩⟩, rfl, fun k q hq => (by cases hq)⟩
  obtain ⟨σ1, μ1, e1, e2, hr⟩ := lines_sim hΓ 120 xFU xFU 0 [] (xCini σ) (xMini μ) (by have := hΓ.1; omega) (by show 120 < 2000; omega) (by show 120 < 2000; omega) (Nat.le_refl _) (fun q hq => (by cases hq)) hpr hlm
  have e1 : J_X2_readLines_2 xFU (nI 0) (xCini σ) = some σ1 := e1
  have hc : J_X2_become σ = if σ1.1 8 8 = -1 then xgd (xcg 0 0 (σ1.1 8 4) 121 121) (J_X2_become_52 (yI (yCI σ1 10 (0 : Int32).toNatClampNeg 11 (0 : Int32).toNatClampNeg (σ1.1 8 4).toNatClampNeg) 8 5 ((yCI σ1 10 (0 : Int32).toNatClampNeg 11 (0 : Int32).toNatClampNeg (σ1.1 8 4).toNatClampNeg).1 8 4))) else J_X2_become_52 σ1 := by
    unfold J_X2_become
    show (J_X2_readLines_2 xFU (nI 0) (xCini σ)).bind _ = _
    rw [e1, Option.bind_some]
  have hm : J_X9_readText 0 μ = J_X9_readText_86 0 μ1 := e2
  have e1' : J_X2_readLines (xCini σ) = some σ1 := e1
  have f1 := F_X2_readLines e1'
  rcases hr with ⟨P, p0, p1, p2, p3, p4, hcc, hmm, hl⟩ | ⟨q, s, hq, hfm, h8, hold⟩
  · obtain ⟨c9, c7, c8, c4, cD, cT⟩ := hcc
    have hcg : xcg 0 0 (nI (xCd P).length) 121 121 = true := by
      have a1 : ¬ (0 : Int32) < 0 := by decide
      have a2 : ¬ nI (xCd P).length < 0 := nI_pos (by omega)
      have a3 : (nI (xCd P).length).toNatClampNeg = (xCd P).length := nI_c (by omega)
      have a4 : (0 : Int32).toNatClampNeg = 0 := rfl
      unfold xcg
      simp only [a3, a4]
      simp [a1, a2, p3]
    obtain ⟨ρ, g1, g2, g3, g4, g5⟩ := text_86 p1 p2 p4 hmm hl
    rw [c8, if_pos rfl, c4, hcg, xgd_t, nI_c (by omega)] at hc
    refine ⟨1, yI (yI (yCI σ1 10 (0 : Int32).toNatClampNeg 11 (0 : Int32).toNatClampNeg (xCd P).length) 8 5 (nI (xCd P).length)) 8 9 0, yI ρ 43 33 1, ?_, ?_, ?_, ?_, Or.inr ⟨rfl, P, p0, p1, p2, p3, p4, ?_, ?_, g2, g3, g4⟩⟩
    · unfold J_X8_law
      rw [hc]
      unfold J_X2_become_52
      rw [show (yCI σ1 10 (0 : Int32).toNatClampNeg 11 (0 : Int32).toNatClampNeg (xCd P).length).1 8 4 = nI (xCd P).length from c4, Option.bind_some]
      show (if (0 : Int32) ≤ σ1.1 8 8 then _ else _) = _
      rw [c8, if_neg (show ¬ (0 : Int32) ≤ -1 by decide)]
    · unfold J_X9_law
      rw [hm, g1, Option.bind_some]
      exact if_pos (show (-1 : Int32) < 0 by decide)
    · rfl
    · exact g5
    · rfl
    · intro i z hz
      have hi := get_lt hz
      show va_cpy (σ1.1 10) (σ1.1 11) (0 : Int32).toNatClampNeg (0 : Int32).toNatClampNeg (xCd P).length i = z
      rw [cpy_0 _ _ _ _ hi]
      exact cD i z hz
  · have hq31 : q < 2147483648 := by have := hΓ.1; omega
    rw [h8, if_neg (nI_nm1 hq31)] at hc
    obtain ⟨m21, m22, m23, m25, mA, mU⟩ := hfm
    have k2 : J_X9_readText 0 μ = some (nI q, yI μ1 43 21 0) := by
      rw [hm]
      unfold J_X9_readText_86
      rw [m23, if_neg (nI_pos (by omega))]
    have f2 := F_X9_readText k2
    refine ⟨-100 - nI q, yI σ1 8 9 0, yI μ1 43 21 0, ?_, ?_, rfl, rfl, Or.inl ⟨?_, ?_, ?_, ?_, ?_, ?_⟩⟩
    · unfold J_X8_law
      rw [hc]
      unfold J_X2_become_52
      rw [Option.bind_some]
      show (if (0 : Int32) ≤ σ1.1 8 8 then some (-100 - σ1.1 8 8, yI σ1 8 9 0) else _) = _
      rw [h8, if_pos (nI_pos' (by omega))]
    · unfold J_X9_law
      rw [k2, Option.bind_some]
      show (if nI q < 0 then _ else _) = _
      rw [if_neg (nI_pos (by omega))]
    · exact (f1 8 5 rfl).1
    · exact fun k => (f1 11 k rfl).1
    · exact (f2 43 33 rfl).1
    · intro i hi
      have := mA i hi
      rw [hΓe] at this
      exact this
    · exact hold.1
    · exact hold.2
theorem step_law : xStep_law xIv := by
  intro σ hI
  obtain ⟨hP, hC, hT, hK, hU, hF, hL, hS, hW⟩ := id hI
  obtain ⟨n, hn, e9, e21, et⟩ := id hF
  obtain ⟨r, τ, -, k1, -, -, -, -⟩ := law_two hn e9 e21 et
  have f1 := F_X8_law k1
  have t54 : τ.1 54 = σ.1 54 := funext fun k => (f1 54 k rfl).1
  obtain ⟨r2, τ2, ρ, k1', k2, h9, h21, hr⟩ := law_two (σ := σ) (μ := τ) hn e9 ((f1 43 21 rfl).1.trans e21) (fun i hi => by rw [t54]; exact et i hi)
  obtain ⟨rfl, rfl⟩ := xso2 (k1'.symm.trans k1)
  have f2 := F_X9_law k2
  refine ⟨r2, τ2, ρ, k1, k2, xIP_f f1 f2 (by decide) (by decide) hP, xIC_f f1 f2 (by decide) (by decide) hC, xIT_f f1 f2 (by decide) (by decide) hT, xIK_f f1 f2 (by decide) (by decide) hK, xIU_f f1 f2 (by decide) (by decide) hU, ?_, ?_, xIS_f f1 f2 (by decide) (by decide) hS, xIW_f f1 f2 (by decide) (by decide) hW⟩
  · exact ⟨0, by omega, ((f2 8 9 rfl).1).trans h9, h21, fun i hi => absurd hi (Nat.not_lt_zero i)⟩
  · have g5 : ρ.1 8 5 = τ2.1 8 5 := (f2 8 5 rfl).1
    have g11 : ∀ k, ρ.1 11 k = τ2.1 11 k := fun k => (f2 11 k rfl).1
    rcases hr with ⟨a1, a2, a3, a4, a5, a6⟩ | ⟨a1, P, p0, p1, p2, p3, p4, p5, p6, p7, p8, p9⟩
    · refine xIL_tr hL (g5.trans a1) (fun k => (g11 k).trans (a2 k)) (a3.trans (f1 43 33 rfl).1) (fun i hi => ?_) (a5.trans (f1 57 0 rfl).1) (fun i hi => ?_)
      · obtain ⟨b1, b2⟩ := a4 i hi
        exact ⟨b1.trans (f1 55 i rfl).1, b2.trans (f1 56 i rfl).1⟩
      · obtain ⟨b1, b2⟩ := a6 i hi
        exact ⟨b1.trans (f1 58 i rfl).1, b2.trans (f1 59 i rfl).1⟩
    · exact Or.inr ⟨a1, P, p0, p1, p2, p3, p4, g5.trans p5, fun i z hz => (g11 i).trans (p6 i z hz), p7, p8, p9⟩
