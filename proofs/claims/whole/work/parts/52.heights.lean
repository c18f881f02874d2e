/-! heights: the reference's side, and the step. -/
theorem long_sum (a : Int32) (i : Nat) (hi : i < 100) : (a.toInt64 + (nI i).toInt64).toInt = a.toInt + i := by
  have h1 := a.toInt_lt
  have h2 := a.le_toInt
  rw [Int64.toInt_add, Int32.toInt_toInt64, Int32.toInt_toInt64, nI_toInt (by omega), Int.bmod_eq_of_le (by omega) (by omega)]
theorem long_nat {S : Int64} {k : Nat} (h : S.toInt = k) (hk : k < 100) : S.toInt32 = nI k := by
  apply Int32.toInt_inj.mp
  rw [Int64.toInt_toInt32, h, nI_toInt (by omega), Int.bmod_eq_of_le (by omega) (by omega)]
theorem cell_add {c i : Nat} (h : c + i < 100) : J_X9_isCell (nI c + nI i) = decide (c + i < 36) := by
  rw [nI_add]
  show J_X9_in (nI (c + i)) 0 35 = _
  rw [X9_in, show (0 : Int32).toInt = 0 from rfl, show (35 : Int32).toInt = 35 from rfl, nI_toInt (by omega), decide_eq_true (by omega : (0 : Int) ≤ ((c + i : Nat) : Int)), Bool.true_and]
  by_cases q : c + i < 36
  · rw [decide_eq_true q, decide_eq_true (by omega)]
  · rw [decide_eq_false q, decide_eq_false (by omega)]
theorem heights_model {s l : Nat} {el : Nat → Int64} {a2 a3 : Int32} {c n m : Nat} (hs : s < 6) (hl : l ≤ 60) (hc : c < 36) (hn : n ≤ 36) (hm : m ≤ n) (hg : ∀ j, j < m → xHg el l a2.toInt c j) (hf : m < n → ¬ xHg el l a2.toInt c m) (ec : a3 / 100 = nI c) (en : xrm a3 100 = nI n) :
    ∀ (d i f : Nat) (μ : xS2), i + d = m → d < f → μ.1 71 s = nI l → (∀ k, k < 60 → μ.2 72 (60 * s + k) = el k) →
    ∃ ρ, J_X9_heights_75 f (nI s) a2 a3 (nI i) μ = some (nI m, ρ) ∧ ∀ k, ρ.1 44 k = if c + i ≤ k ∧ k < c + m then (el (a2.toInt.toNat + (k - c))).toInt32 else μ.1 44 k := by
  intro d
  induction d with
  | zero =>
    intro i f μ hi hfu h71 hel
    obtain ⟨f, rfl⟩ : ∃ z, f = z + 1 := ⟨f - 1, by omega⟩
    obtain rfl : i = m := by omega
    refine ⟨μ, ?_, fun k => by rw [if_neg (by omega)]⟩
    rw [E_X9_heights_75, en]
    by_cases q : n ≤ i
    · rw [if_pos (c_le (by omega) (by omega) q), show n = i by omega]
    · rw [if_neg (c_nle (by omega) (by omega) (by omega))]
      have hno := hf (by omega)
      have eS := long_sum a2 i (by omega)
      obtain ⟨S, hS⟩ : ∃ S, S = a2.toInt64 + (nI i).toInt64 := ⟨_, rfl⟩
      rw [← hS] at eS ⊢
      by_cases qa : a2.toInt < 0
      · have i0 : i = 0 := by
          rcases Nat.eq_zero_or_pos i with z | z
          · exact z
          · have := (hg 0 z).2.1
            omega
        rw [if_pos ((lg_cmp_lt _ _).mpr (by rw [Int64.lt_iff_toInt_lt, eS, i0, show (0 : Int64).toInt = 0 from rfl]; omega))]
      · rw [if_neg (fun z => by
          have := (lg_cmp_lt _ _).mp z
          rw [Int64.lt_iff_toInt_lt, eS, show (0 : Int64).toInt = 0 from rfl] at this
          omega), c_xin hs (by decide), xgd_t, nI_c (by omega), h71]
        by_cases q3 : (l : Int) ≤ a2.toInt + i
        · rw [if_pos ((lg_cmp_ge _ _).mpr (by rw [Int64.le_iff_toInt_le, eS, Int32.toInt_toInt64, nI_toInt (by omega)]; exact q3))]
        · rw [if_neg (fun z => by
            have := (lg_cmp_ge _ _).mp z
            rw [Int64.le_iff_toInt_le, eS, Int32.toInt_toInt64, nI_toInt (by omega)] at this
            omega), ec, cell_add (by omega)]
          by_cases q1 : c + i < 36
          · obtain ⟨A, hA, rfl, hAb⟩ := i_nat (i := a2) (l := l) (by omega) (by omega)
            rw [nI_toInt (by omega)] at eS q3 hno
            have e32 : S.toInt32 = nI (A + i) := long_nat (by rw [eS]; omega) (by omega)
            rw [decide_eq_true q1, if_neg xb_nt, e32, m60, c_xin (by omega) (by decide), xgd_t, nI_c (by omega), hel _ (by omega)]
            have : J_X9_in (el (A + i)).toInt32 0 9 = false := by
              cases hh : J_X9_in (el (A + i)).toInt32 0 9 with
              | false => rfl
              | true => exact absurd ⟨q1, by omega, by omega, by rw [Int.toNat_natCast]; exact X9_rg 0 9 hh rfl rfl⟩ hno
            rw [this, if_pos xb_ff]
          · rw [decide_eq_false q1, if_pos xb_ff]
  | succ d ih =>
    intro i f μ hi hfu h71 hel
    obtain ⟨f, rfl⟩ : ∃ z, f = z + 1 := ⟨f - 1, by omega⟩
    obtain ⟨g1, g2, g3, g4⟩ := hg i (by omega)
    have eS := long_sum a2 i (by omega)
    obtain ⟨A, hA, rfl, hAb⟩ := i_nat (i := a2) (l := l) g2 (by omega)
    rw [nI_toInt (by omega)] at g3 g4 eS
    rw [Int.toNat_natCast] at g4
    have e32 : ((nI A).toInt64 + (nI i).toInt64).toInt32 = nI (A + i) := long_nat (by rw [eS]; omega) (by omega)
    obtain ⟨ρ, t1, t2⟩ := ih (i + 1) f (yI μ 44 (c + i) (el (A + i)).toInt32) (by omega) (by omega) h71 (fun k hk => hel k hk)
    refine ⟨ρ, ?_, fun k => ?_⟩
    · rw [E_X9_heights_75, en, if_neg (c_nle (by omega) (by omega) (by omega)), if_neg (fun z => by
        have := (lg_cmp_lt _ _).mp z
        rw [Int64.lt_iff_toInt_lt, eS, show (0 : Int64).toInt = 0 from rfl] at this
        omega), c_xin hs (by decide), xgd_t, nI_c (by omega), h71, if_neg (fun z => by
        have := (lg_cmp_ge _ _).mp z
        rw [Int64.le_iff_toInt_le, eS, Int32.toInt_toInt64, nI_toInt (by omega)] at this
        omega), ec, cell_add (by omega), decide_eq_true g1, if_neg xb_nt, e32, m60, c_xin (by omega) (by decide), xgd_t, nI_c (by omega), hel _ (by omega),
        X9_in_of (a := (el (A + i)).toInt32) (lo := 0) (hi := 9) (by rw [show (0 : Int32).toInt = 0 from rfl, show (9 : Int32).toInt = 9 from rfl]; exact g4), if_neg xb_nt, nI_add, c_xin (by omega) (by decide), xgd_t, nI_c (by omega), nI_1]
      exact t1
    · rw [t2 k, nI_toInt (by omega), Int.toNat_natCast, yI_1, if_pos rfl]
      by_cases e : k = c + i
      · rw [if_neg (by omega), if_pos e, if_pos (by omega), e, show c + i - c = i by omega]
      · rw [if_neg e]
        by_cases e2 : c + i ≤ k ∧ k < c + m
        · rw [if_pos (by omega), if_pos e2]
        · rw [if_neg (by omega), if_neg e2]
