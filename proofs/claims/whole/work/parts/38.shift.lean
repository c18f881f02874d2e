/-! The shelves: shift. -/
def zsS3 : List (Nat × Nat) := (73, 99) :: zsS
theorem xIv_sh3 {σ ρ : xS2} (f : xFr zsS3 σ ρ) (hI : xIv σ) (hS : xIS ρ) : xIv ρ := by
  obtain ⟨hP, hC, hT, hK, hU, hF, hL, -, hW⟩ := hI
  exact ⟨xIP_f f xFr_rf (by decide) (l2 := []) rfl hP, xIC_f f xFr_rf (by decide) (l2 := []) rfl hC, xIT_f f xFr_rf (by decide) (l2 := []) rfl hT, xIK_f f xFr_rf (by decide) (l2 := []) rfl hK, xIU_f f xFr_rf (by decide) (l2 := []) rfl hU, xIF_f f xFr_rf (by decide) (l2 := []) rfl hF, xIL_f f xFr_rf (by decide) (l2 := []) rfl hL, hS, xIW_f f xFr_rf (by decide) (l2 := []) rfl hW⟩
theorem sh_other3 {σ ρ : xS2} {s s2 : Nat} (hs : s < 6) (hs2 : s2 < 6) (h70 : ∀ k, ρ.1 70 k = σ.1 70 k) (h71 : ∀ k, ρ.1 71 k = σ.1 71 k) (ho : ∀ o k, ρ.1 o k = σ.1 o k) (he : ∀ o k, o ≠ 29 + 2 * s → o ≠ 72 → o ≠ 73 → ρ.2 o k = σ.2 o k) (h72 : ∀ k, (k < 60 * s ∨ 60 * s + 60 ≤ k) → ρ.2 72 k = σ.2 72 k) (hne : s2 ≠ s) (h : xSh1 σ s2) : xSh1 ρ s2 := by
  have e2 : ∀ k, ρ.2 (29 + 2 * s2) k = σ.2 (29 + 2 * s2) k := fun k => he _ _ (by omega) (by omega) (by omega)
  have e3 : ∀ i, i < 60 → ρ.2 72 (60 * s2 + i) = σ.2 72 (60 * s2 + i) := fun i hi => h72 _ (by omega)
  obtain ⟨g1, g2, g3, g4⟩ := h
  refine ⟨by rw [ho]; exact g1, by rw [h71, ho]; exact g2, fun i hi => by rw [e3 i hi, e2]; exact g3 i hi, ?_⟩
  simp only [ho, e2]
  exact g4
theorem len_sub {l : Nat} {i : Int32} (h60 : l ≤ 60) (hi : ¬ i < 0) : (nI l - i).toInt = (l : Int) - i.toInt := by
  rw [Int32.lt_iff_toInt_lt, show (0 : Int32).toInt = 0 from rfl] at hi
  have h3 := i.toInt_lt
  rw [Int32.toInt_sub, nI_toInt (by omega), Int.bmod_eq_of_le (by omega) (by omega)]
theorem hasPl {σ : xS2} {o l : Nat} {i m : Int32} (hn : σ.1 o 4 = nI l) (h60 : l ≤ 60) : J_X5_hasPlaces o i m σ = decide (0 ≤ i.toInt ∧ 0 ≤ m.toInt ∧ i.toInt + m.toInt ≤ l) := by
  unfold J_X5_hasPlaces
  rw [hn]
  by_cases q1 : i < 0
  · rw [if_pos q1]
    rw [Int32.lt_iff_toInt_lt, show (0 : Int32).toInt = 0 from rfl] at q1
    rw [decide_eq_false (by omega)]
  · rw [if_neg q1]
    have es := len_sub h60 q1
    rw [Int32.lt_iff_toInt_lt, show (0 : Int32).toInt = 0 from rfl] at q1
    by_cases q2 : m < 0
    · rw [if_pos q2]
      rw [Int32.lt_iff_toInt_lt, show (0 : Int32).toInt = 0 from rfl] at q2
      rw [decide_eq_false (by omega)]
    · rw [if_neg q2]
      rw [Int32.lt_iff_toInt_lt, show (0 : Int32).toInt = 0 from rfl] at q2
      by_cases q3 : nI l < i
      · rw [if_pos q3]
        rw [Int32.lt_iff_toInt_lt, nI_toInt (by omega)] at q3
        rw [decide_eq_false (by omega)]
      · rw [if_neg q3]
        by_cases q4 : nI l - i < m
        · rw [if_pos q4]
          rw [Int32.lt_iff_toInt_lt, es] at q4
          rw [decide_eq_false (by omega)]
        · rw [if_neg q4]
          rw [Int32.lt_iff_toInt_lt, es] at q4
          rw [decide_eq_true (by omega)]
theorem shift_b {t b n : Nat} (ht : t < 6) (hb : b + n ≤ 60) : ∀ (n0 j f : Nat) (σ : xS2), j + n0 = n → n0 < f → ∃ τ, J_X9_shift_150 f (nI t) (nI b) (nI n) (nI j) σ = some (nI n, τ) ∧ τ.1 = σ.1 ∧ (∀ o k, o ≠ 72 → τ.2 o k = σ.2 o k) ∧ ∀ k, τ.2 72 k = if 60 * t + b + j ≤ k ∧ k < 60 * t + b + n then σ.2 73 (k - (60 * t + b)) else σ.2 72 k := by
  intro n0
  induction n0 with
  | zero =>
    intro j f σ h hf
    obtain ⟨f, rfl⟩ : ∃ g, f = g + 1 := ⟨f - 1, by omega⟩
    refine ⟨σ, ?_, rfl, fun o k _ => rfl, fun k => by rw [if_neg (by omega)]⟩
    rw [E_X9_shift_150, if_pos (c_le (by omega) (by omega) (by omega))]
  | succ n0 ih =>
    intro j f σ h hf
    obtain ⟨f, rfl⟩ : ∃ g, f = g + 1 := ⟨f - 1, by omega⟩
    obtain ⟨τ, e, h1, h2, h3⟩ := ih (j + 1) f (yL σ 72 (60 * t + b + j) (σ.2 73 j)) (by omega) (by omega)
    refine ⟨τ, ?_, h1, fun o k ho => by rw [h2 o k ho, yL_2, if_neg ho], fun k => ?_⟩
    · rw [E_X9_shift_150, if_neg (c_nle (by omega) (by omega) (by omega)), c_xin (by omega) (by decide), xgd_t, m60, nI_add, c_xin (by omega) (by decide), xgd_t, nI_1, nI_c (by omega), nI_c (by omega)]
      exact e
    · have y1 : ∀ x, (yL σ 72 (60 * t + b + j) (σ.2 73 j)).2 73 x = σ.2 73 x := fun x => by rw [yL_2, if_neg (by decide)]
      rw [h3 k, y1, yL_2, if_pos rfl]
      by_cases q : k = 60 * t + b + j
      · rw [if_neg (by omega), if_pos q, if_pos (by omega), show k - (60 * t + b) = j by omega]
      · rw [if_neg q]
        by_cases q2 : 60 * t + b + j ≤ k ∧ k < 60 * t + b + n
        · rw [if_pos (by omega), if_pos q2]
        · rw [if_neg (by omega), if_neg q2]
theorem shift_a {s a t b n : Nat} (hs : s < 6) (ha : a + n ≤ 60) : ∀ (n0 j f : Nat) (σ : xS2), j + n0 = n → n0 < f → ∃ τ, J_X9_shift_113 f (nI s) (nI a) (nI t) (nI b) (nI n) (nI j) σ = J_X9_shift_150 xFU (nI t) (nI b) (nI n) 0 τ ∧ τ.1 = σ.1 ∧ (∀ o k, o ≠ 73 → τ.2 o k = σ.2 o k) ∧ ∀ k, τ.2 73 k = if j ≤ k ∧ k < n then σ.2 72 (60 * s + a + k) else σ.2 73 k := by
  intro n0
  induction n0 with
  | zero =>
    intro j f σ h hf
    obtain ⟨f, rfl⟩ : ∃ g, f = g + 1 := ⟨f - 1, by omega⟩
    refine ⟨σ, ?_, rfl, fun o k _ => rfl, fun k => by rw [if_neg (by omega)]⟩
    rw [E_X9_shift_113, if_pos (c_le (by omega) (by omega) (by omega))]
  | succ n0 ih =>
    intro j f σ h hf
    obtain ⟨f, rfl⟩ : ∃ g, f = g + 1 := ⟨f - 1, by omega⟩
    obtain ⟨τ, e, h1, h2, h3⟩ := ih (j + 1) f (yL σ 73 j (σ.2 72 (60 * s + a + j))) (by omega) (by omega)
    refine ⟨τ, ?_, h1, fun o k ho => by rw [h2 o k ho, yL_2, if_neg ho], fun k => ?_⟩
    · rw [E_X9_shift_113, if_neg (c_nle (by omega) (by omega) (by omega)), m60, nI_add, c_xin (by omega) (by decide), xgd_t, c_xin (by omega) (by decide), xgd_t, nI_1, nI_c (by omega), nI_c (by omega)]
      exact e
    · have y1 : ∀ x, (yL σ 73 j (σ.2 72 (60 * s + a + j))).2 72 x = σ.2 72 x := fun x => by rw [yL_2, if_neg (by decide)]
      rw [h3 k, y1, yL_2, if_pos rfl]
      by_cases q : k = j
      · rw [if_neg (by omega), if_pos q, if_pos (by omega), q]
      · rw [if_neg q]
        by_cases q2 : j ≤ k ∧ k < n
        · rw [if_pos (by omega), if_pos q2]
        · rw [if_neg (by omega), if_neg q2]
theorem neg2_eq : ∀ k, k < 5 → ∀ k2, k2 < 5 → ((-2 : Int32) - nI k = -2 - nI k2 ↔ nI k = nI k2) := by decide +kernel
theorem i_nat {i : Int32} {l : Nat} (h0 : 0 ≤ i.toInt) (h : i.toInt ≤ l) : ∃ k : Nat, k ≤ l ∧ i = nI k ∧ k < 2147483648 := by
  obtain ⟨k, h1, h2, h3⟩ := xRg_nat (x := i) (b := l) ⟨h0, h⟩
  exact ⟨k, by omega, h3, h2⟩
theorem X9_shift_sh {s t : Nat} {a2 a4 a5 : Int32} {τ : xS2} (hs : s < 6) (ht : t < 6) : J_X9_shift (nI s) a2 (nI t) a4 a5 τ =
    (if τ.1 70 s = -1 then some (-11, τ) else if τ.1 70 t = -1 then some (-11, τ) else if 0 ≤ τ.1 70 s then some (-12, τ) else if τ.1 70 s = τ.1 70 t then
      (if a5 < 0 then some (-13, τ) else if a2 < 0 then some (-13, τ) else if a4 < 0 then some (-13, τ) else if τ.1 71 s - a5 < a2 then some (-13, τ) else if a4 ≤ τ.1 71 t - a5 then J_X9_shift_113 xFU (nI s) a2 (nI t) a4 a5 0 τ else some (-13, τ))
      else some (-12, τ)) := by
  have h1 : J_X9_isShelf (nI s) = true := X9_in_of (by rw [show (0 : Int32).toInt = 0 from rfl, show (5 : Int32).toInt = 5 from rfl]; exact nI_rg (by omega) (by omega))
  have h2 : J_X9_isShelf (nI t) = true := X9_in_of (by rw [show (0 : Int32).toInt = 0 from rfl, show (5 : Int32).toInt = 5 from rfl]; exact nI_rg (by omega) (by omega))
  unfold J_X9_shift
  simp only [h1, h2, xb_t, c_xin hs (show 6 < 2147483648 by decide), c_xin ht (show 6 < 2147483648 by decide), xgd_t, nI_c (show s < 2147483648 by omega), nI_c (show t < 2147483648 by omega), if_neg xb_nt]
  rfl
theorem step_shift : xStep_shift xIv := by
  intro a1 a2 a3 a4 a5 σ hI
  have hS := hI.2.2.2.2.2.2.2.1
  unfold J_X8_shift
  rw [X8_isShelf, X8_isShelf]
  cases hsh : J_X9_isShelf a1 with
  | false => exact ⟨-1, σ, σ, rfl, by unfold J_X9_shift; rw [hsh, if_pos xb_ff], hI⟩
  | true =>
    rw [if_neg xb_nt]
    cases hsh2 : J_X9_isShelf a3 with
    | false =>
      refine ⟨-1, σ, σ, rfl, ?_, hI⟩
      unfold J_X9_shift
      rw [hsh, hsh2, if_neg xb_nt, if_pos xb_ff]
    | true =>
      rw [if_neg xb_nt]
      obtain ⟨s, hs, rfl⟩ := isShelf_nat hsh
      obtain ⟨t, ht, rfl⟩ := isShelf_nat hsh2
      rw [c_xin hs (by decide), xgd_t, c_xin ht (by decide), xgd_t, nI_c (by omega), nI_c (by omega)]
      have hM := fun τ => X9_shift_sh (a2 := a2) (a4 := a4) (a5 := a5) (τ := τ) hs ht
      simp only [hM]
      obtain ⟨l, hl, hlb, hle⟩ := xRg_nat (hS s hs).1
      obtain ⟨l2, hl2, hlb2, hle2⟩ := xRg_nat (hS t ht).1
      have h71s := (hS s hs).2.1
      have h71t := (hS t ht).2.1
      rcases sh_cases (hS s hs) with ⟨h1, h2⟩ | ⟨h1, h2, h3, b, hb, h4, h5, h6⟩ | ⟨h1, h2, h3, k, hk, h4, h5, h6⟩
      · exact ⟨-11, σ, σ, by rw [h1, if_neg xb_nt], by rw [h2, if_pos rfl], hI⟩
      · rw [h1, if_pos xb_ff]
        rcases sh_cases (hS t ht) with ⟨g1, g2⟩ | ⟨g1, g2, g3, c, hc, g4, g5, g6⟩ | ⟨g1, g2, g3, k2, hk2, g4, g5, g6⟩
        · exact ⟨-11, σ, σ, by rw [g1, if_neg xb_nt], by rw [h4, if_neg (nI_nm1 (by omega)), g2, if_pos rfl], hI⟩
        · exact ⟨-12, σ, σ, by rw [g1, if_pos xb_ff, h2, if_pos xb_ff], by rw [h4, if_neg (nI_nm1 (by omega)), g4, if_neg (nI_nm1 (by omega)), if_pos (nI_pos' (by omega))], hI⟩
        · exact ⟨-12, σ, σ, by rw [g1, if_pos xb_ff, h2, if_pos xb_ff], by rw [h4, if_neg (nI_nm1 (by omega)), g5, if_neg (neg2 k2 hk2).2.1, if_pos (nI_pos' (by omega))], hI⟩
      · rw [h1, if_pos xb_ff]
        obtain ⟨q1, q2, q3⟩ := neg2 k hk
        have q1' : ¬ 0 ≤ (-2 : Int32) - nI k := fun z => by
          rw [Int32.lt_iff_toInt_lt] at q1
          rw [Int32.le_iff_toInt_le] at z
          omega
        rcases sh_cases (hS t ht) with ⟨g1, g2⟩ | ⟨g1, g2, g3, c, hc, g4, g5, g6⟩ | ⟨g1, g2, g3, k2, hk2, g4, g5, g6⟩
        · exact ⟨-11, σ, σ, by rw [g1, if_neg xb_nt], by rw [h5, if_neg q2, g2, if_pos rfl], hI⟩
        · refine ⟨-12, σ, σ, by rw [g1, if_pos xb_ff, h2, if_neg xb_nt, g2, if_pos xb_ff], ?_, hI⟩
          rw [h5, if_neg q2, g4, if_neg (nI_nm1 (by omega)), if_neg q1', if_neg]
          intro z
          rw [z] at q1
          exact nI_pos (by omega) q1
        · rw [g1, if_pos xb_ff, h2, if_neg xb_nt, g2, if_neg xb_nt, h4, g4]
          have hN : ∀ τ : xS2, τ.1 = σ.1 → (if τ.1 70 s = -1 then some (-11, τ) else if τ.1 70 t = -1 then some (-11, τ) else if 0 ≤ τ.1 70 s then some (-12, τ) else if τ.1 70 s = τ.1 70 t then
      (if a5 < 0 then some (-13, τ) else if a2 < 0 then some (-13, τ) else if a4 < 0 then some (-13, τ) else if τ.1 71 s - a5 < a2 then some (-13, τ) else if a4 ≤ τ.1 71 t - a5 then J_X9_shift_113 xFU (nI s) a2 (nI t) a4 a5 0 τ else some (-13, τ))
      else some (-12, τ)) = if nI k = nI k2 then (if a5 < 0 then some (-13, τ) else if a2 < 0 then some (-13, τ) else if a4 < 0 then some (-13, τ) else if nI l - a5 < a2 then some (-13, τ) else if a4 ≤ nI l2 - a5 then J_X9_shift_113 xFU (nI s) a2 (nI t) a4 a5 0 τ else some (-13, τ))
      else some ((-12 : Int32), τ) := by
            intro τ hτ
            rw [hτ, h5, if_neg q2, g5, if_neg (neg2 k2 hk2).2.1, if_neg q1', h71s, h71t, hle, hle2]
            by_cases qk : nI k = nI k2
            · rw [if_pos qk, if_pos ((neg2_eq k hk k2 hk2).mpr qk)]
            · rw [if_neg qk, if_neg (fun z => qk ((neg2_eq k hk k2 hk2).mp z))]
          by_cases qk : nI k = nI k2
          · rw [if_pos qk, hasPl hle (by omega), hasPl hle2 (by omega)]
            have kk : k = k2 := (nI_eq (by omega) (by omega)).mp qk
            subst kk
            have b13 : ∀ {x : Option (Int32 × xS2)} {y : xS2 → Option (Int32 × xS2)}, x = some (-13, σ) → y σ = some (-13, σ) → ∃ r τ ρ, x = some (r, τ) ∧ y τ = some (r, ρ) ∧ xIv ρ := fun h1 h2 => ⟨-13, σ, σ, h1, h2, hI⟩
            have hN' : ∀ τ : xS2, τ.1 = σ.1 → _ := fun τ hτ => (hN τ hτ).trans (if_pos qk)
            have hcl : ∀ {x : Option (Int32 × xS2)}, ¬ ((0 ≤ a2.toInt ∧ 0 ≤ a5.toInt ∧ a2.toInt + a5.toInt ≤ l) ∧ (0 ≤ a4.toInt ∧ 0 ≤ a5.toInt ∧ a4.toInt + a5.toInt ≤ l2)) →
                (if xb (decide (0 ≤ a2.toInt ∧ 0 ≤ a5.toInt ∧ a2.toInt + a5.toInt ≤ (l : Int))) = 0 then some ((-13 : Int32), σ) else if xb (decide (0 ≤ a4.toInt ∧ 0 ≤ a5.toInt ∧ a4.toInt + a5.toInt ≤ (l2 : Int))) = 0 then some ((-13 : Int32), σ) else x) = some (-13, σ) := by
              intro x hx
              by_cases z1 : 0 ≤ a2.toInt ∧ 0 ≤ a5.toInt ∧ a2.toInt + a5.toInt ≤ (l : Int)
              · rw [decide_eq_true z1, if_neg xb_nt, decide_eq_false (fun z => hx ⟨z1, z⟩), if_pos xb_ff]
              · rw [decide_eq_false z1, if_pos xb_ff]
            by_cases w5 : a5 < 0
            · refine b13 (hcl (fun z => ?_)) ((hN' σ rfl).trans (if_pos w5))
              rw [Int32.lt_iff_toInt_lt, show (0 : Int32).toInt = 0 from rfl] at w5
              omega
            · have hN2 : ∀ τ : xS2, τ.1 = σ.1 → _ := fun τ hτ => (hN' τ hτ).trans (if_neg w5)
              by_cases w2 : a2 < 0
              · refine b13 (hcl (fun z => ?_)) ((hN2 σ rfl).trans (if_pos w2))
                rw [Int32.lt_iff_toInt_lt, show (0 : Int32).toInt = 0 from rfl] at w2
                omega
              · have hN3 : ∀ τ : xS2, τ.1 = σ.1 → _ := fun τ hτ => (hN2 τ hτ).trans (if_neg w2)
                by_cases w4 : a4 < 0
                · refine b13 (hcl (fun z => ?_)) ((hN3 σ rfl).trans (if_pos w4))
                  rw [Int32.lt_iff_toInt_lt, show (0 : Int32).toInt = 0 from rfl] at w4
                  omega
                · have hN4 : ∀ τ : xS2, τ.1 = σ.1 → _ := fun τ hτ => (hN3 τ hτ).trans (if_neg w4)
                  have e1 := len_sub (l := l) (by omega) w5
                  have e2 := len_sub (l := l2) (by omega) w5
                  by_cases w6 : nI l - a5 < a2
                  · refine b13 (hcl (fun z => ?_)) ((hN4 σ rfl).trans (if_pos w6))
                    rw [Int32.lt_iff_toInt_lt, e1] at w6
                    omega
                  · have hN5 : ∀ τ : xS2, τ.1 = σ.1 → _ := fun τ hτ => (hN4 τ hτ).trans (if_neg w6)
                    by_cases w7 : a4 ≤ nI l2 - a5
                    · have hN6 : ∀ τ : xS2, τ.1 = σ.1 → _ := fun τ hτ => (hN5 τ hτ).trans (if_pos w7)
                      clear hN hN' hN2 hN3 hN4 hN5
                      rw [Int32.lt_iff_toInt_lt, e1] at w6
                      rw [Int32.le_iff_toInt_le, e2] at w7
                      rw [Int32.lt_iff_toInt_lt, show (0 : Int32).toInt = 0 from rfl] at w2 w4 w5
                      obtain ⟨a, ha, rfl, hab⟩ := i_nat (i := a2) (l := l) (by omega) (by omega)
                      obtain ⟨c, hc, rfl, hcb⟩ := i_nat (i := a4) (l := l2) (by omega) (by omega)
                      obtain ⟨n, hn, rfl, hnb⟩ := i_nat (i := a5) (l := l) (by omega) (by omega)
                      rw [nI_toInt (by omega), nI_toInt (by omega)] at w6 w7
                      rw [nI_toInt (by omega), nI_toInt (by omega), nI_toInt (by omega), decide_eq_true (by omega), if_neg xb_nt, decide_eq_true (by omega), if_neg xb_nt]
                      have hcg : xcg (nI a) (nI c) (nI n) 60 60 = true := by
                        simp only [xcg, Bool.and_eq_true, decide_eq_true_eq]
                        rw [nI_c (by omega), nI_c (by omega), nI_c (by omega)]
                        exact ⟨nI_pos (by omega), nI_pos (by omega), nI_pos (by omega), by omega, by omega⟩
                      rw [hcg, xgd_t, nI_c (by omega), nI_c (by omega), nI_c (by omega), show 28 + 2 * s + 1 = 29 + 2 * s by omega, show 28 + 2 * t + 1 = 29 + 2 * t by omega]
                      obtain ⟨τ, hτ⟩ : ∃ τ, τ = yCL σ (29 + 2 * s) a (29 + 2 * t) c n := ⟨_, rfl⟩
                      rw [← hτ]
                      have ti : τ.1 = σ.1 := by rw [hτ]; rfl
                      have tl : ∀ o k, o ≠ 29 + 2 * t → τ.2 o k = σ.2 o k := fun o k ho => by rw [hτ]; show (if o = 29 + 2 * t then _ else _) = _; rw [if_neg ho]
                      have tt : ∀ k, τ.2 (29 + 2 * t) k = if c ≤ k ∧ k < c + n then σ.2 (29 + 2 * s) (a + (k - c)) else σ.2 (29 + 2 * t) k := fun k => by rw [hτ]; show (if 29 + 2 * t = 29 + 2 * t then _ else _) = _; rw [if_pos rfl]; rfl
                      obtain ⟨μ, m0, m1, m2, m3⟩ := shift_a (s := s) (a := a) (t := t) (b := c) (n := n) hs (by omega) n 0 xFU τ (by omega) (by show n < 2000; omega)
                      obtain ⟨ρ, r0, r1, r2, r3⟩ := shift_b (t := t) (b := c) (n := n) ht (by omega) n 0 xFU μ (by omega) (by show n < 2000; omega)
                      refine ⟨nI n, τ, ρ, rfl, (hN6 τ ti).trans (m0.trans r0), ?_⟩
                      have c1 : ρ.1 = σ.1 := by rw [r1, m1, ti]
                      have c2 : ∀ o k, o ≠ 29 + 2 * t → o ≠ 72 → o ≠ 73 → ρ.2 o k = σ.2 o k := fun o k z1 z2 z3 => by rw [r2 _ _ z2, m2 _ _ z3, tl _ _ z1]
                      have c72 : ∀ k, (k < 60 * t + c ∨ 60 * t + c + n ≤ k) → ρ.2 72 k = σ.2 72 k := fun k hk => by rw [r3, if_neg (by omega), m2 _ _ (by decide), tl _ _ (by omega)]
                      have ct : ∀ k, ρ.2 (29 + 2 * t) k = τ.2 (29 + 2 * t) k := fun k => by rw [r2 _ _ (by omega), m2 _ _ (by omega)]
                      have hsl := (hS s hs).2.2.1
                      have htl := (hS t ht).2.2.1
                      refine xIv_sh3 ?_ hI ?_
                      · intro o k h
                        refine ⟨by rw [c1], c2 o k ?_ ?_ ?_⟩
                        · rintro rfl
                          have h' : (_ || xWn zsS (29 + 2 * t) k) = false := h
                          rw [xWsh1 ht, Bool.or_true] at h'; cases h'
                        · rintro rfl; cases h
                        · rintro rfl; cases h
                      · intro s2 hs2
                        by_cases hne : s2 = t
                        · subst hne
                          obtain ⟨v1, v2, v3, v4⟩ := hS s2 ht
                          have c1' : ∀ o k, ρ.1 o k = σ.1 o k := fun o k => by rw [c1]
                          refine ⟨by rw [c1']; exact v1, by rw [c1', c1']; exact v2, fun i hi => ?_, Or.inr (Or.inr ⟨by rw [c1']; exact g3, by rw [c1', g4]; exact nI_rg (by omega) (by omega), by rw [c1', c1', g5, g4], fun hz i hi => ?_⟩)⟩
                          · rw [ct, tt]
                            by_cases qi : c ≤ i ∧ i < c + n
                            · rw [if_pos qi, r3, if_pos (by omega), m3, if_pos (by omega), tl _ _ (by omega), show 60 * s2 + i - (60 * s2 + c) = i - c by omega, show 60 * s + a + (i - c) = 60 * s + (a + (i - c)) by omega, hsl _ (by omega)]
                            · rw [if_neg qi, c72 _ (by omega), v3 i hi]
                          · have k0 : k = 0 := by
                              rw [c1', g4] at hz
                              exact (nI_eq (by omega) (by decide)).mp (hz.trans nI_0.symm)
                            rw [ct, tt]
                            by_cases qi : c ≤ i ∧ i < c + n
                            · rw [if_pos qi]; exact h6 k0 _ (by omega)
                            · rw [if_neg qi]; exact g6 k0 _ hi
                        · exact sh_other3 (s := t) (σ := σ) ht hs2 (fun k => by rw [c1]) (fun k => by rw [c1]) (fun o k => by rw [c1]) c2 (fun k hk => c72 k (by omega)) hne (hS s2 hs2)
                    · refine b13 (hcl (fun z => ?_)) ((hN5 σ rfl).trans (if_neg w7))
                      rw [Int32.le_iff_toInt_le, e2] at w7
                      omega
          · exact ⟨-12, σ, σ, by rw [if_neg qk], (hN σ rfl).trans (if_neg qk), hI⟩
