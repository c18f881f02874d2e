/-! The plain's places: kind and number, in both. -/
def xMo (w a : Nat) : Nat × Nat := if w = 4 then (43, 5) else if w = 5 then (43, 6) else (44 + w, a)
theorem w6 {w : Nat} (h : w < 6) : w = 0 ∨ w = 1 ∨ w = 2 ∨ w = 3 ∨ w = 4 ∨ w = 5 := by omega
theorem xBg_sep : ∀ w, w < 6 → ∀ v, v < 6 → w ≠ v → xBg w + xMy w ≤ xBg v ∨ xBg v + xMy v ≤ xBg w := by decide +kernel
theorem xBg_top : ∀ w, w < 6 → xBg w + xMy w ≤ 194 ∧ xMy w ≤ 60 := by decide +kernel
theorem xBg_inj {w a v b : Nat} (hw : w < 6) (ha : a < xMy w) (hv : v < 6) (hb : b < xMy v) (h : xBg w + a = xBg v + b) : w = v ∧ a = b := by
  by_cases e : w = v
  · subst e; exact ⟨rfl, by omega⟩
  · have := xBg_sep w hw v hv e
    omega
theorem xMo_inj {w a v b : Nat} (hw : w < 6) (ha : a < xMy w) (hv : v < 6) (hb : b < xMy v) (h1 : (xMo w a).1 = (xMo v b).1) (h2 : (xMo w a).2 = (xMo v b).2) : w = v ∧ a = b := by
  rcases w6 hw with rfl | rfl | rfl | rfl | rfl | rfl <;> rcases w6 hv with rfl | rfl | rfl | rfl | rfl | rfl <;> simp [xMo, xMy] at ha hb h1 h2 ⊢ <;> omega
theorem X9_lays_eq {w a : Nat} {v : Int32} {σ : xS2} (hw : w < 6) (ha : a < xMy w) : J_X9_lays (nI w) (nI a) v σ = some (yI σ (xMo w a).1 (xMo w a).2 v) := by
  have ha60 : a < 60 := Nat.lt_of_lt_of_le ha (xBg_top w hw).2
  unfold J_X9_lays
  rcases w6 hw with rfl | rfl | rfl | rfl | rfl | rfl
  · rw [if_pos (by decide), c_xin (n := 36) ha (by decide), xgd_t, nI_c (by omega)]; rfl
  · rw [if_neg (by decide), if_pos (by decide), c_xin (n := 36) ha (by decide), xgd_t, nI_c (by omega)]; rfl
  · rw [if_neg (by decide), if_neg (by decide), if_pos (by decide), c_xin (n := 60) ha (by decide), xgd_t, nI_c (by omega)]; rfl
  · rw [if_neg (by decide), if_neg (by decide), if_neg (by decide), if_pos (by decide), c_xin (n := 60) ha (by decide), xgd_t, nI_c (by omega)]; rfl
  · rw [if_neg (by decide), if_neg (by decide), if_neg (by decide), if_neg (by decide), if_pos (by decide)]; rfl
  · rw [if_neg (by decide), if_neg (by decide), if_neg (by decide), if_neg (by decide), if_neg (by decide)]; rfl
theorem X9_valueAt_eq {w a : Nat} {σ : xS2} (hw : w < 6) (ha : a < xMy w) : J_X9_valueAt (nI w) (nI a) σ = some (σ.1 (xMo w a).1 (xMo w a).2) := by
  have ha60 : a < 60 := Nat.lt_of_lt_of_le ha (xBg_top w hw).2
  unfold J_X9_valueAt
  rcases w6 hw with rfl | rfl | rfl | rfl | rfl | rfl
  · rw [if_pos (by decide), c_xin (n := 36) ha (by decide), xgd_t, nI_c (by omega)]; rfl
  · rw [if_neg (by decide), if_pos (by decide), c_xin (n := 36) ha (by decide), xgd_t, nI_c (by omega)]; rfl
  · rw [if_neg (by decide), if_neg (by decide), if_pos (by decide), c_xin (n := 60) ha (by decide), xgd_t, nI_c (by omega)]; rfl
  · rw [if_neg (by decide), if_neg (by decide), if_neg (by decide), if_pos (by decide), c_xin (n := 60) ha (by decide), xgd_t, nI_c (by omega)]; rfl
  · rw [if_neg (by decide), if_neg (by decide), if_neg (by decide), if_neg (by decide), if_pos (by decide)]; rfl
  · rw [if_neg (by decide), if_neg (by decide), if_neg (by decide), if_neg (by decide), if_neg (by decide)]; rfl
/-- the plain, place by place -/
theorem xIP_at {σ : xS2} (h : xIP σ) {w a : Nat} (hw : w < 6) (ha : a < xMy w) : σ.1 (xMo w a).1 (xMo w a).2 = σ.1 2 (xBg w + a) ∧ xRg (σ.1 2 (xBg w + a)) (xLo w) (xHi w) := by
  obtain ⟨h0, h1, h2, h3, ⟨h4, h4'⟩, h5, h5'⟩ := h
  rcases w6 hw with rfl | rfl | rfl | rfl | rfl | rfl
  · have := h0 a ha; rw [← Nat.zero_add a] at this; simpa [xMo, xBg, xLo, xHi] using this
  · exact h1 a ha
  · exact h2 a ha
  · exact h3 a ha
  · obtain rfl : a = 0 := by have : a < 1 := ha; omega
    exact ⟨h4, h4'⟩
  · obtain rfl : a = 0 := by have : a < 1 := ha; omega
    exact ⟨h5, h5'⟩
theorem xIP_of {σ : xS2} (h : ∀ w a, w < 6 → a < xMy w → σ.1 (xMo w a).1 (xMo w a).2 = σ.1 2 (xBg w + a) ∧ xRg (σ.1 2 (xBg w + a)) (xLo w) (xHi w)) : xIP σ := by
  refine ⟨fun c hc => ?_, fun c hc => h 1 c (by decide) hc, fun c hc => h 2 c (by decide) hc, fun c hc => h 3 c (by decide) hc, h 4 0 (by decide) (by decide), h 5 0 (by decide) (by decide)⟩
  have := h 0 c (by decide) hc
  simpa [xMo, xBg, xLo, xHi] using this
/-- one place told anew, in both -/
theorem xIP_lay {σ ρ : xS2} {w a : Nat} {v : Int32} (hP : xIP σ) (hw : w < 6) (ha : a < xMy w) (hv : xRg v (xLo w) (xHi w)) (h2 : ∀ k, ρ.1 2 k = if k = xBg w + a then v else σ.1 2 k)
    (hm : ∀ w' a', w' < 6 → a' < xMy w' → ρ.1 (xMo w' a').1 (xMo w' a').2 = if w' = w ∧ a' = a then v else σ.1 (xMo w' a').1 (xMo w' a').2) : xIP ρ := by
  apply xIP_of
  intro w' a' hw' ha'
  obtain ⟨e1, e2⟩ := xIP_at hP hw' ha'
  rw [h2, hm w' a' hw' ha']
  by_cases e : w' = w ∧ a' = a
  · obtain ⟨rfl, rfl⟩ := e
    rw [if_pos ⟨rfl, rfl⟩, if_pos rfl]
    exact ⟨rfl, hv⟩
  · have : ¬ xBg w' + a' = xBg w + a := fun z => e (xBg_inj hw' ha' hw ha z)
    rw [if_neg e, if_neg this]
    exact ⟨e1, e2⟩
theorem xMo_at {σ : xS2} {w a w' a' : Nat} {v : Int32} (hw : w < 6) (ha : a < xMy w) (hw' : w' < 6) (ha' : a' < xMy w') : (yI σ (xMo w a).1 (xMo w a).2 v).1 (xMo w' a').1 (xMo w' a').2 = if w' = w ∧ a' = a then v else σ.1 (xMo w' a').1 (xMo w' a').2 := by
  rw [yI_1]
  by_cases e : w' = w ∧ a' = a
  · obtain ⟨rfl, rfl⟩ := e
    rw [if_pos rfl, if_pos rfl, if_pos ⟨rfl, rfl⟩]
  · rw [if_neg e]
    by_cases z1 : (xMo w' a').1 = (xMo w a).1
    · rw [if_pos z1]
      by_cases z2 : (xMo w' a').2 = (xMo w a).2
      · exact absurd (xMo_inj hw' ha' hw ha z1 z2) e
      · rw [if_neg z2]
    · rw [if_neg z1]
theorem xMo_off {w a o k : Nat} (h : o < 43 ∨ 47 < o ∨ (o = 43 ∧ k ≠ 5 ∧ k ≠ 6)) (hw : w < 6) : o ≠ (xMo w a).1 ∨ k ≠ (xMo w a).2 := by
  rcases w6 hw with rfl | rfl | rfl | rfl | rfl | rfl <;> simp [xMo] <;> omega
theorem xMo_other {σ : xS2} {w a o k : Nat} {v : Int32} (hw : w < 6) (h : o < 43 ∨ 47 < o ∨ (o = 43 ∧ k ≠ 5 ∧ k ≠ 6)) : (yI σ (xMo w a).1 (xMo w a).2 v).1 o k = σ.1 o k := by
  rw [yI_1]
  rcases xMo_off (a := a) h hw with e | e
  · rw [if_neg e]
  · by_cases e2 : o = (xMo w a).1
    · rw [if_pos e2, if_neg e]
    · rw [if_neg e2]
/-- a write elsewhere leaves the reference's places -/
theorem xMo_skip {σ : xS2} {w a o k : Nat} {v : Int32} (hw : w < 6) (h : o < 43 ∨ 47 < o ∨ (o = 43 ∧ k ≠ 5 ∧ k ≠ 6)) : (yI σ o k v).1 (xMo w a).1 (xMo w a).2 = σ.1 (xMo w a).1 (xMo w a).2 := by
  rw [yI_1]
  rcases xMo_off (a := a) h hw with e | e
  · rw [if_neg (fun z => e z.symm)]
  · by_cases e2 : (xMo w a).1 = o
    · rw [if_pos e2, if_neg (fun z => e z.symm)]
    · rw [if_neg e2]
