/-! heights: both go on to the first step that fails. -/
/-- the step i goes on: a row's length l, its elements, the first place, the first cell -/
def xHg (el : Nat → Int64) (l : Nat) (A : Int) (c i : Nat) : Prop := c + i < 36 ∧ 0 ≤ A ∧ A + i < l ∧ xRg (el (A.toNat + i)).toInt32 0 9
theorem hg_first (el : Nat → Int64) (l : Nat) (A : Int) (c : Nat) : ∀ (n i : Nat), ∃ m, i ≤ m ∧ m ≤ i + n ∧ (∀ j, i ≤ j → j < m → xHg el l A c j) ∧ (m < i + n → ¬ xHg el l A c m) := by
  intro n
  induction n with
  | zero => intro i; exact ⟨i, Nat.le_refl _, Nat.le_refl _, fun j h1 h2 => by omega, fun h => by omega⟩
  | succ n ih =>
    intro i
    by_cases q : xHg el l A c i
    · obtain ⟨m, h1, h2, h3, h4⟩ := ih (i + 1)
      refine ⟨m, by omega, by omega, fun j j1 j2 => ?_, fun h => h4 (by omega)⟩
      by_cases e : j = i
      · subst e; exact q
      · exact h3 j (by omega) j2
    · exact ⟨i, Nat.le_refl _, by omega, fun j h1 h2 => by omega, fun _ => q⟩
theorem place0 {i : Nat} {σ : xS2} (hi : i < 72) : J_X3_place (nI i) 0 σ = some (if i < 36 then nI i else -1) := by
  rcases place_thing (nI i) 0 σ with ⟨w, a, hw, ha, e1, e2, ep, et⟩ | ⟨ep, et⟩
  · have hw0 : w = 0 := ((nI_eq (by omega) (by omega)).mp (nI_0.trans e2)).symm
    subst hw0
    have ha' : a < 36 := ha
    have : i = a := (nI_eq (by omega) (by omega)).mp e1
    subst this
    rw [ep, if_pos ha', show xBg 0 + i = i from Nat.zero_add i]
  · rw [ep]
    by_cases q : i < 36
    · have := X9_thing_at 0 (by decide) i (by omega)
      rw [show nI 0 = (0 : Int32) from rfl, et, decide_eq_true (by exact q)] at this
      cases this
    · rw [if_neg q]
theorem heights_class {s l : Nat} {σ0 : xS2} {a2 : Int32} {c n m : Nat} (hs : s < 6) (hl : l ≤ 60) (hc : c < 36) (hn : n ≤ 36) (hm : m ≤ n) (hg : ∀ j, j < m → xHg (σ0.2 (29 + 2 * s)) l a2.toInt c j) (hf : m < n → ¬ xHg (σ0.2 (29 + 2 * s)) l a2.toInt c m) :
    ∀ (d i f : Nat) (σ : xS2), i + d = m → d < f → σ.1 (28 + 2 * s) 4 = nI l → (∀ k, σ.2 (29 + 2 * s) k = σ0.2 (29 + 2 * s) k) →
    ∃ τ, J_X8_heightsFrom_6 f (28 + 2 * s) a2 (nI c) (nI n) (nI i) (nI i) σ = some (nI m, τ) ∧ ∀ k, τ.1 2 k = if c + i ≤ k ∧ k < c + m then (σ0.2 (29 + 2 * s) (a2.toInt.toNat + (k - c))).toInt32 else σ.1 2 k := by
  intro d
  induction d with
  | zero =>
    intro i f σ hi hfu h4 hel
    obtain ⟨f, rfl⟩ : ∃ z, f = z + 1 := ⟨f - 1, by omega⟩
    obtain rfl : i = m := by omega
    refine ⟨σ, ?_, fun k => by rw [if_neg (by omega)]⟩
    rw [E_X8_heightsFrom_6]
    by_cases q : n ≤ i
    · rw [if_pos (c_le (by omega) (by omega) q)]
    · rw [if_neg (c_nle (by omega) (by omega) (by omega)), nI_add, place0 (by omega), Option.bind_some]
      have hno := hf (by omega)
      by_cases q1 : c + i < 36
      · rw [if_pos q1, if_neg (nI_pos (by omega))]
        by_cases q2 : a2 < 0
        · rw [if_pos q2]
        · rw [if_neg q2]
          have e1 : (nI l - nI i).toInt = (l : Int) - i := by rw [len_sub hl (nI_pos (by omega)), nI_toInt (by omega)]
          by_cases q3 : a2 < σ.1 (28 + 2 * s) 4 - nI i
          · rw [if_pos q3]
            rw [h4, Int32.lt_iff_toInt_lt, e1] at q3
            rw [Int32.lt_iff_toInt_lt, show (0 : Int32).toInt = 0 from rfl] at q2
            obtain ⟨A, hA, rfl, hAb⟩ := i_nat (i := a2) (l := l) (by omega) (by omega)
            rw [nI_toInt (by omega)] at q3 hno
            rw [nI_add]
            unfold J_X5_at
            rw [hasPl h4 hl, nI_toInt (by omega), show (1 : Int32).toInt = 1 from rfl, decide_eq_true (by omega), if_neg xb_nt, c_xin (by omega) (by decide), xgd_t, nI_c (by omega), Option.bind_some, show 28 + 2 * s + 1 = 29 + 2 * s by omega, hel]
            show (J_X3_mayBe (nI 0) _ σ).bind _ = _
            rw [X3_mayBe_eq (by decide), Option.bind_some, decide_eq_false, if_pos xb_ff]
            intro z
            exact hno ⟨q1, by omega, by omega, by rw [Int.toNat_natCast]; exact z⟩
          · rw [if_neg q3]
      · rw [if_neg q1, if_pos (by decide)]
  | succ d ih =>
    intro i f σ hi hfu h4 hel
    obtain ⟨f, rfl⟩ : ∃ z, f = z + 1 := ⟨f - 1, by omega⟩
    obtain ⟨g1, g2, g3, g4⟩ := hg i (by omega)
    obtain ⟨A, hA, rfl, hAb⟩ := i_nat (i := a2) (l := l) g2 (by omega)
    rw [nI_toInt (by omega)] at g3 g4
    rw [Int.toNat_natCast] at g4
    obtain ⟨τ, t1, t2⟩ := ih (i + 1) f (yI σ 2 (c + i) (σ0.2 (29 + 2 * s) (A + i)).toInt32) (by omega) (by omega) (by rw [yI_1, if_neg (by omega)]; exact h4) (fun k => hel k)
    refine ⟨τ, ?_, fun k => ?_⟩
    · rw [E_X8_heightsFrom_6, if_neg (c_nle (by omega) (by omega) (by omega)), nI_add, place0 (by omega), Option.bind_some, if_pos g1, if_neg (nI_pos (by omega)), if_neg (nI_pos (by omega)), h4, nI_sub (by omega) (by omega), if_pos (c_lt (by omega) (by omega) (by omega)), nI_add]
      unfold J_X5_at
      rw [hasPl h4 hl, nI_toInt (by omega), show (1 : Int32).toInt = 1 from rfl, decide_eq_true (by omega), if_neg xb_nt, c_xin (by omega) (by decide), xgd_t, nI_c (by omega), Option.bind_some, show 28 + 2 * s + 1 = 29 + 2 * s by omega, hel]
      show (J_X3_mayBe (nI 0) _ σ).bind _ = _
      rw [X3_mayBe_eq (by decide), Option.bind_some, decide_eq_true (show xLo 0 ≤ _ ∧ _ ≤ xHi 0 from g4), if_neg xb_nt, X3_tell (by omega), Option.bind_some, nI_1]
      exact t1
    · rw [t2 k, nI_toInt (by omega), Int.toNat_natCast, yI_1, if_pos rfl]
      by_cases e : k = c + i
      · rw [if_neg (by omega), if_pos e, if_pos (by omega), e, show c + i - c = i by omega]
      · rw [if_neg e]
        by_cases e2 : c + i ≤ k ∧ k < c + m
        · rw [if_pos (by omega), if_pos e2]
        · rw [if_neg (by omega), if_neg e2]
