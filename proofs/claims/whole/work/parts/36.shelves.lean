/-! The shelves: keep, put, row. -/
/-- what leaves all but shelves as it was keeps the rest of the invariant -/
theorem xIv_sh {σ ρ : xS2} (f : xFr zsS σ ρ) (hI : xIv σ) (hS : xIS ρ) : xIv ρ := by
  obtain ⟨hP, hC, hT, hK, hU, hF, hL, -, hW⟩ := hI
  exact ⟨xIP_f f xFr_rf (by decide) (l2 := []) rfl hP, xIC_f f xFr_rf (by decide) (l2 := []) rfl hC, xIT_f f xFr_rf (by decide) (l2 := []) rfl hT, xIK_f f xFr_rf (by decide) (l2 := []) rfl hK, xIU_f f xFr_rf (by decide) (l2 := []) rfl hU, xIF_f f xFr_rf (by decide) (l2 := []) rfl hF, xIL_f f xFr_rf (by decide) (l2 := []) rfl hL, hS, xIW_f f xFr_rf (by decide) (l2 := []) rfl hW⟩
theorem has_isBody {σ : xS2} {b : Int32} (hW : xIW σ) : J_X7_has b σ = J_X9_isBody b σ := by
  obtain ⟨n, hn, hnb, hne⟩ := xRg_nat hW.1.2
  unfold J_X7_has J_X9_isBody
  rw [hW.1.1, hne, X9_in]
  have e1 : (nI n - 1).toInt = (n : Int) - 1 := by rw [Int32.toInt_sub, nI_toInt (by omega), show (1 : Int32).toInt = 1 from rfl, Int.bmod_eq_of_le (by omega) (by omega)]
  rw [e1, show (0 : Int32).toInt = 0 from rfl]
  by_cases q1 : b < 0
  · rw [if_pos q1]
    rw [Int32.lt_iff_toInt_lt, show (0 : Int32).toInt = 0 from rfl] at q1
    rw [decide_eq_false (by omega), Bool.false_and]
  · rw [if_neg q1]
    rw [Int32.lt_iff_toInt_lt, show (0 : Int32).toInt = 0 from rfl] at q1
    rw [decide_eq_true (by omega : (0 : Int) ≤ b.toInt), Bool.true_and]
    by_cases q2 : nI n ≤ b
    · rw [if_pos q2]
      rw [Int32.le_iff_toInt_le, nI_toInt (by omega)] at q2
      rw [decide_eq_false (by omega)]
    · rw [if_neg q2]
      rw [Int32.le_iff_toInt_le, nI_toInt (by omega)] at q2
      rw [if_neg (fun z => by rw [Int32.le_iff_toInt_le, show (50 : Int32).toInt = 50 from rfl] at z; omega), decide_eq_true (by omega)]
/-- one shelf changed: the others stand -/
theorem sh_other {σ ρ : xS2} {s s2 : Nat} (hs : s < 6) (hs2 : s2 < 6) (h70 : ∀ k, k ≠ s → ρ.1 70 k = σ.1 70 k) (h71 : ∀ k, k ≠ s → ρ.1 71 k = σ.1 71 k) (ho : ∀ o k, o ≠ 28 + 2 * s → o ≠ 70 → o ≠ 71 → ρ.1 o k = σ.1 o k) (he : ∀ o k, o ≠ 29 + 2 * s → o ≠ 72 → ρ.2 o k = σ.2 o k) (h72 : ∀ k, (k < 60 * s ∨ 60 * s + 60 ≤ k) → ρ.2 72 k = σ.2 72 k) (hne : s2 ≠ s) (h : xSh1 σ s2) : xSh1 ρ s2 := by
  have e1 : ∀ k, ρ.1 (28 + 2 * s2) k = σ.1 (28 + 2 * s2) k := fun k => ho _ _ (by omega) (by omega) (by omega)
  have e2 : ∀ k, ρ.2 (29 + 2 * s2) k = σ.2 (29 + 2 * s2) k := fun k => he _ _ (by omega) (by omega)
  have e3 : ∀ i, i < 60 → ρ.2 72 (60 * s2 + i) = σ.2 72 (60 * s2 + i) := fun i hi => h72 _ (by omega)
  have e4 : ρ.1 40 3 = σ.1 40 3 := ho _ _ (by omega) (by omega) (by omega)
  obtain ⟨g1, g2, g3, g4⟩ := h
  refine ⟨by rw [e1]; exact g1, by rw [h71 _ hne, e1]; exact g2, fun i hi => by rw [e3 i hi, e2]; exact g3 i hi, ?_⟩
  simp only [e1, h70 _ hne, e2, e4]
  exact g4
theorem step_keep : xStep_keep xIv := by
  intro a1 a2 σ hI
  have hS := hI.2.2.2.2.2.2.2.1
  have hW := hI.2.2.2.2.2.2.2.2
  unfold J_X8_keep J_X9_keep
  rw [X8_isShelf, has_isBody hW]
  cases hsh : J_X9_isShelf a1 with
  | false => exact ⟨-1, σ, σ, rfl, rfl, hI⟩
  | true =>
    rw [if_neg xb_nt]
    obtain ⟨s, hs, rfl⟩ := isShelf_nat hsh
    by_cases q : a2 = -1
    · subst q
      rw [if_pos rfl]
      unfold J_X8_keep_25 J_X5_holdNothing
      rw [if_pos rfl, c_xin hs (by decide), xgd_t, Option.bind_some, nI_c (by omega)]
      refine ⟨1, _, yI (yI σ (28 + 2 * s) 1 0) 70 s (-1), rfl, ?_, ?_⟩
      · rw [if_neg xb_nt, if_pos rfl]
        unfold J_X9_keep_22
        rw [c_xin hs (by decide), xgd_t, nI_c (by omega)]
      · refine xIv_sh (xFr_yI (xFr_yI xFr_rf (xWsh0 hs)) rfl) hI ?_
        intro s2 hs2
        by_cases hne : s2 = s
        · subst hne
          obtain ⟨g1, g2, g3, g4⟩ := hS s2 hs
          refine ⟨by simpa [yI_1, show 28 + 2 * s2 ≠ 70 by omega] using g1, by simpa [yI_1, show 28 + 2 * s2 ≠ 70 by omega, show 71 ≠ 28 + 2 * s2 by omega] using g2, g3, Or.inl ⟨by simp [yI_1, show 28 + 2 * s2 ≠ 70 by omega], by simp [yI_1]⟩⟩
        · exact sh_other (s := s) (σ := σ) hs hs2 (fun k hk => by simp [yI_1, hk, show 70 ≠ 28 + 2 * s by omega]) (fun k hk => by simp [yI_1, show 71 ≠ 28 + 2 * s by omega]) (fun o k h1 h2 h3 => by simp [yI_1, h1, h2]) (fun o k h1 h2 => rfl) (fun k hk => rfl) hne (hS s2 hs2)
    · rw [if_neg q]
      cases hb : J_X9_isBody a2 σ with
      | false =>
        refine ⟨-1, σ, σ, rfl, ?_, hI⟩
        rw [if_neg xb_nt, if_neg q, hb, if_pos xb_ff]
      | true =>
        rw [if_neg xb_nt]
        obtain ⟨n, hn, hnb, hne0⟩ := xRg_nat hW.1.2
        have hb2 := hb
        unfold J_X9_isBody at hb2
        rw [hW.1.1, hne0] at hb2
        obtain ⟨b, hbn, rfl⟩ := x_lastidx (by omega) hb2
        unfold J_X8_keep_25 J_X5_holdBody
        rw [if_neg q, c_xin hs (by decide), xgd_t, Option.bind_some, nI_c (by omega)]
        refine ⟨1, _, yI (yI (yI σ (28 + 2 * s) 1 1) (28 + 2 * s) 2 (nI b)) 70 s (nI b), rfl, ?_, ?_⟩
        · have hb3 : J_X9_isBody (nI b) (yI (yI σ (28 + 2 * s) 1 1) (28 + 2 * s) 2 (nI b)) = true := by
            rw [← hb]
            unfold J_X9_isBody
            rw [yI_1, if_neg (by omega), yI_1, if_neg (by omega)]
          rw [if_neg xb_nt, if_neg q, hb3, if_neg xb_nt]
          unfold J_X9_keep_22
          rw [c_xin hs (by decide), xgd_t, nI_c (by omega)]
        · refine xIv_sh (xFr_yI (xFr_yI (xFr_yI xFr_rf (xWsh0 hs)) (xWsh0 hs)) rfl) hI ?_
          intro s2 hs2
          by_cases hne : s2 = s
          · subst hne
            obtain ⟨g1, g2, g3, g4⟩ := hS s2 hs
            refine ⟨by simpa [yI_1, show 28 + 2 * s2 ≠ 70 by omega] using g1, by simpa [yI_1, show 28 + 2 * s2 ≠ 70 by omega, show 71 ≠ 28 + 2 * s2 by omega] using g2, g3, Or.inr (Or.inl ⟨by simp [yI_1, show 28 + 2 * s2 ≠ 70 by omega], by simp [yI_1, show 28 + 2 * s2 ≠ 70 by omega], ?_, ?_⟩)⟩
            · have e : (yI (yI (yI σ (28 + 2 * s2) 1 1) (28 + 2 * s2) 2 (nI b)) 70 s2 (nI b)).1 70 s2 = nI b := by simp [yI_1]
              rw [e]
              exact nI_rg (by omega) (by omega)
            · have e : (yI (yI (yI σ (28 + 2 * s2) 1 1) (28 + 2 * s2) 2 (nI b)) 70 s2 (nI b)).1 70 s2 = nI b := by simp [yI_1]
              have e3 : (yI (yI (yI σ (28 + 2 * s2) 1 1) (28 + 2 * s2) 2 (nI b)) 70 s2 (nI b)).1 40 3 = σ.1 40 3 := by simp [yI_1, show 40 ≠ 28 + 2 * s2 by omega]
              rw [e, e3, hne0, nI_toInt (by omega), nI_toInt (by omega)]
              omega
          · exact sh_other (s := s) (σ := σ) hs hs2 (fun k hk => by simp [yI_1, hk, show 70 ≠ 28 + 2 * s by omega]) (fun k hk => by simp [yI_1, show 71 ≠ 28 + 2 * s by omega]) (fun o k h1 h2 h3 => by simp [yI_1, h1, h2]) (fun o k h1 h2 => rfl) (fun k hk => rfl) hne (hS s2 hs2)
theorem byte_rg (v : Int64) : -128 ≤ (((v.toInt32).toInt8.toInt32).toInt64).toInt ∧ (((v.toInt32).toInt8.toInt32).toInt64).toInt ≤ 127 := by
  rw [Int32.toInt_toInt64, Int8.toInt_toInt32]
  have h1 := (v.toInt32.toInt8).toInt_lt
  have h2 := (v.toInt32.toInt8).le_toInt
  omega
/-- what a row of a kind keeps -/
def xNar (k : Nat) (v : Int64) : Int64 := if k = 0 then ((v.toInt32).toInt8.toInt32).toInt64 else if k = 1 then ((v.toInt32).toInt16.toInt32).toInt64 else if k = 2 then (v.toInt32).toInt64 else if k = 3 then v else if lg_cmp v 0 = 0 then 0 else 1
theorem X5_narrowed {σ : xS2} {o k : Nat} {v : Int64} (hk : k < 5) (h : σ.1 o 3 = nI k) : J_X5_narrowed o v σ = xNar k v := by
  unfold J_X5_narrowed xNar
  rw [h]
  rcases (show k = 0 ∨ k = 1 ∨ k = 2 ∨ k = 3 ∨ k = 4 by omega) with rfl | rfl | rfl | rfl | rfl <;> rfl
theorem step_put : xStep_put xIv := by
  intro a1 a2 a3 σ hI
  have hS := hI.2.2.2.2.2.2.2.1
  unfold J_X8_put J_X9_put
  rw [X8_isShelf]
  cases hsh : J_X9_isShelf a1 with
  | false =>
    refine ⟨-1, σ, σ, rfl, ?_, hI⟩
    unfold J_X9_whyNoPlace
    rw [hsh, if_pos xb_ff, Option.bind_some, if_neg (by decide)]
  | true =>
    obtain ⟨s, hs, rfl⟩ := isShelf_nat hsh
    obtain ⟨e, hc⟩ := sh_why (i := a2) hs (hS s hs)
    rw [if_neg xb_nt, c_xin hs (by decide), xgd_t, nI_c (by omega), xgd_t]
    rcases hc with ⟨c0, j, k, hj, ej, hp, hk, h3, h70, h1⟩ | ⟨c1, c2⟩
    · subst ej
      rw [c0, if_pos rfl]
      unfold J_X5_set
      rw [hp, if_neg xb_nt, c_xin hj (by decide), xgd_t, Option.bind_some, nI_c (by omega), X5_narrowed hk h3, show 28 + 2 * s + 1 = 29 + 2 * s by omega]
      obtain ⟨τ, hτ⟩ : ∃ τ, τ = yL σ (29 + 2 * s) j (xNar k a3) := ⟨_, rfl⟩
      rw [← hτ]
      have ewhy : J_X9_whyNoPlace (nI s) (nI j) τ = J_X9_whyNoPlace (nI s) (nI j) σ := by rw [hτ]; rfl
      have e70 : τ.1 70 s = -2 - nI k := by rw [hτ]; exact h70
      obtain ⟨q1, q2, q3⟩ := neg2 k hk
      have m95 : ∀ v, J_X9_put_95 (nI (60 * s + j)) v τ = some (1, yL τ 72 (60 * s + j) v) := by
        intro v
        unfold J_X9_put_95
        rw [c_xin (by omega) (by decide), xgd_t, nI_c (by omega)]
      refine ⟨1, τ, yL τ 72 (60 * s + j) (xNar k a3), rfl, ?_, ?_⟩
      · rw [ewhy, e, c0, Option.bind_some, if_pos (by decide), xgd_t, e70, q3, m60, m95, m95, m95, m95, m95, m95]
        unfold xNar
        rcases (show k = 0 ∨ k = 1 ∨ k = 2 ∨ k = 3 ∨ k = 4 by omega) with rfl | rfl | rfl | rfl | rfl
        · rfl
        · rfl
        · rfl
        · rfl
        · by_cases z : lg_cmp a3 0 = 0
          · simp only [z, if_true]; rfl
          · simp only [z, if_false]; rfl
      · subst hτ
        refine xIv_sh (xFr_yL (xFr_yL xFr_rf (xWsh1 hs)) rfl) hI ?_
        intro s2 hs2
        by_cases hne : s2 = s
        · subst hne
          obtain ⟨g1, g2, g3, g4⟩ := hS s2 hs
          have eel : ∀ i, i < 60 → (yL (yL σ (29 + 2 * s2) j (xNar k a3)) 72 (60 * s2 + j) (xNar k a3)).2 (29 + 2 * s2) i = if i = j then xNar k a3 else σ.2 (29 + 2 * s2) i := by
            intro i hi
            rw [yL_2, if_neg (by omega), yL_2, if_pos rfl]
          refine ⟨g1, g2, fun i hi => ?_, Or.inr (Or.inr ⟨h1, by show xRg (σ.1 (28 + 2 * s2) 3) 0 4; rw [h3]; exact nI_rg (by omega) (by omega), by show σ.1 70 s2 = -2 - σ.1 (28 + 2 * s2) 3; rw [h3, h70], fun hz i hi => ?_⟩)⟩
          · rw [eel i hi, yL_2, if_pos rfl]
            by_cases ij : i = j
            · subst ij; rw [if_pos rfl, if_pos rfl]
            · rw [if_neg (by omega), if_neg ij, yL_2, if_neg (by omega)]
              exact g3 i hi
          · have hz2 : σ.1 (28 + 2 * s2) 3 = 0 := hz
            rw [eel i hi]
            by_cases ij : i = j
            · rw [if_pos ij]
              have k0 : k = 0 := by
                rw [h3] at hz2
                exact (nI_eq (by omega) (by decide)).mp (hz2.trans nI_0.symm)
              subst k0
              exact byte_rg a3
            · rw [if_neg ij]
              rcases g4 with ⟨z1, -⟩ | ⟨z1, -⟩ | ⟨-, -, -, z4⟩
              · rw [h1] at z1; exact absurd z1 (by decide)
              · rw [h1] at z1; exact absurd z1 (by decide)
              · exact z4 hz2 i hi
        · exact sh_other (s := s) (σ := σ) hs hs2 (fun k hk => rfl) (fun k hk => rfl) (fun o k h1 h2 h3 => rfl) (fun o k z1 z2 => by rw [yL_2, if_neg z2, yL_2, if_neg z1]) (fun k hk => by rw [yL_2, if_pos rfl, if_neg (by omega), yL_2, if_neg (by omega)]) hne (hS s2 hs2)
    · rw [if_neg c1]
      refine ⟨_, σ, σ, rfl, ?_, hI⟩
      rw [e, Option.bind_some, if_neg c2]
