/-! mend: the step. -/
theorem laid_eq {w a e : Nat} {v u : Int32} {μ : xS2} (hw : w < 6) (ha : a < xMy w) (he : e < 40) (h : μ.1 43 14 = nI e) : ∃ ρ, J_X9_changes_121 (nI w) (nI a) u v μ = some (v, ρ) ∧ ρ.1 43 14 = nI (e + 1) ∧ ρ.1 43 15 = μ.1 43 15 ∧ (∀ o k, o < 43 → ρ.1 o k = μ.1 o k) ∧
    (∀ w' a', w' < 6 → a' < xMy w' → ρ.1 (xMo w' a').1 (xMo w' a').2 = if w' = w ∧ a' = a then u else μ.1 (xMo w' a').1 (xMo w' a').2) ∧
    ∀ i, ρ.1 50 i = (if i = e then nI w else μ.1 50 i) ∧ ρ.1 51 i = (if i = e then nI a else μ.1 51 i) ∧ ρ.1 52 i = (if i = e then v else μ.1 52 i) ∧ ρ.1 53 i = if i = e then u else μ.1 53 i := by
  unfold J_X9_changes_121
  rw [h, c_xin he (by decide), xgd_t, xgd_t, xgd_t, xgd_t, nI_c (by omega), nI_1, X9_lays_eq hw ha, Option.bind_some]
  refine ⟨_, rfl, ?_, ?_, fun o k ho => ?_, fun w' a' hw' ha' => ?_, fun i => ⟨?_, ?_, ?_, ?_⟩⟩
  · rw [xMo_other hw (by omega)]; rfl
  · rw [xMo_other hw (by omega)]; rfl
  · rw [xMo_other hw (by omega), yI_1, if_neg (by omega), yI_1, if_neg (by omega), yI_1, if_neg (by omega), yI_1, if_neg (by omega), yI_1, if_neg (by omega)]
  · rw [xMo_at hw ha hw' ha', xMo_skip hw' (by omega), xMo_skip hw' (by omega), xMo_skip hw' (by omega), xMo_skip hw' (by omega), xMo_skip hw' (by omega)]
  · rw [xMo_other hw (by omega)]; rfl
  · rw [xMo_other hw (by omega)]; rfl
  · rw [xMo_other hw (by omega)]; rfl
  · rw [xMo_other hw (by omega)]; rfl
theorem changes_eq {w a d : Nat} {u : Int32} {τ : xS2} (hw : w < 6) (ha : a < xMy w) (hd : d ≤ 40) (h : τ.1 43 14 = nI d) (hne : ¬ τ.1 (xMo w a).1 (xMo w a).2 = u) : ∃ ρ, J_X9_changes (nI w) (nI a) u τ = some (τ.1 (xMo w a).1 (xMo w a).2, ρ) ∧ ρ.1 43 14 = nI (xNo d + 1) ∧ ρ.1 43 15 = 0 ∧ (∀ o k, o < 43 → ρ.1 o k = τ.1 o k) ∧
    (∀ w' a', w' < 6 → a' < xMy w' → ρ.1 (xMo w' a').1 (xMo w' a').2 = if w' = w ∧ a' = a then u else τ.1 (xMo w' a').1 (xMo w' a').2) ∧
    ∀ i, i ≤ xNo d → ρ.1 50 i = (if i = xNo d then nI w else τ.1 50 (i + xDr d)) ∧ ρ.1 51 i = (if i = xNo d then nI a else τ.1 51 (i + xDr d)) ∧ ρ.1 52 i = (if i = xNo d then τ.1 (xMo w a).1 (xMo w a).2 else τ.1 52 (i + xDr d)) ∧ ρ.1 53 i = if i = xNo d then u else τ.1 53 (i + xDr d) := by
  unfold J_X9_changes
  rw [X9_valueAt_eq hw ha, Option.bind_some, if_neg hne, h]
  by_cases q : d < 40
  · have z1 : xNo d = d := if_pos q
    have z2 : xDr d = 0 := if_pos q
    rw [if_neg (fun z => by have := (nI_eq (by omega) (by decide)).mp (z.trans (show (40 : Int32) = nI 40 from rfl)); omega), z1, z2]
    obtain ⟨ρ, r1, r2, r3, r4, r5, r6⟩ := laid_eq (v := τ.1 (xMo w a).1 (xMo w a).2) (u := u) (μ := yI τ 43 15 0) hw ha q h
    refine ⟨ρ, r1, r2, r3, fun o k ho => by rw [r4 o k ho, yI_1, if_neg (by omega)], fun w' a' hw' ha' => by rw [r5 w' a' hw' ha', xMo_skip hw' (by omega)], fun i _ => r6 i⟩
  · have z1 : xNo d = 39 := if_neg q
    have z2 : xDr d = 1 := if_neg q
    obtain rfl : d = 40 := by omega
    rw [if_pos (by decide), z1, z2]
    obtain ⟨μ, m1, m2, m3⟩ := moved_eq (l1 := nI w) (l2 := nI a) (l3 := u) (l4 := τ.1 (xMo w a).1 (xMo w a).2) 39 1 xFU (yI τ 43 15 0) rfl (by decide) (by decide)
    have m14 : μ.1 43 14 = nI 40 := by rw [m2 _ _ (by decide)]; exact h
    have m15 : μ.1 43 15 = 0 := by rw [m2 _ _ (by decide)]; rfl
    obtain ⟨ρ, r1, r2, r3, r4, r5, r6⟩ := laid_eq (v := τ.1 (xMo w a).1 (xMo w a).2) (u := u) (μ := yI μ 43 14 (μ.1 43 14 - 1)) (e := 39) hw ha (by decide) (by rw [m14]; rfl)
    refine ⟨ρ, m1.trans r1, r2, by rw [r3]; exact m15, fun o k ho => by rw [r4 o k ho, yI_1, if_neg (by omega), m2 _ _ (by omega), yI_1, if_neg (by omega)], fun w' a' hw' ha' => ?_, fun i hi => ?_⟩
    · rw [r5 w' a' hw' ha', xMo_skip hw' (by omega)]
      have : μ.1 (xMo w' a').1 (xMo w' a').2 = τ.1 (xMo w' a').1 (xMo w' a').2 := by
        have hh : (xMo w' a').1 < 50 := by rcases w6 hw' with rfl | rfl | rfl | rfl | rfl | rfl <;> simp [xMo]
        rw [m2 _ _ (Or.inl hh), xMo_skip hw' (by omega)]
      rw [this]
    · obtain ⟨x1, x2, x3, x4⟩ := r6 i
      have y : ∀ o, (o = 50 ∨ o = 51 ∨ o = 52 ∨ o = 53) → ¬ i = 39 → (yI μ 43 14 (μ.1 43 14 - 1)).1 o i = τ.1 o (i + 1) := fun o ho hi2 => by
        rw [yI_1, if_neg (by omega), m3 o ho, if_pos (by omega), yI_1, if_neg (by omega)]
      rw [x1, x2, x3, x4]
      by_cases q2 : i = 39
      · simp only [q2, if_true]; exact ⟨trivial, trivial, trivial, trivial⟩
      · simp only [if_neg q2, y 50 (by omega) q2, y 51 (by omega) q2, y 52 (by omega) q2, y 53 (by omega) q2]
        exact ⟨trivial, trivial, trivial, trivial⟩
theorem step_mend : xStep_mend xIv := by
  intro a1 a2 a3 σ hI
  obtain ⟨hP, hC, hT, hK, hU, hF, hL, hS, hW⟩ := id hI
  rcases place_thing a1 a2 σ with ⟨w, a, hw, ha, rfl, rfl, ep, et⟩ | ⟨ep, et⟩
  · have hb := xBg_top w hw
    have e1 : J_X8_mend (nI a) (nI w) a3 σ = if decide (xLo w ≤ a3.toInt ∧ a3.toInt ≤ xHi w) = true then (if σ.1 2 (xBg w + a) = a3 then some (σ.1 2 (xBg w + a), σ) else (J_X1_note (nI (xBg w + a)) (σ.1 2 (xBg w + a)) a3 (yI σ 2 (xBg w + a) a3)).bind fun x8 => some (σ.1 2 (xBg w + a), x8)) else some (-1, σ) := by
      unfold J_X8_mend
      rw [ep, Option.bind_some, if_neg (nI_pos (by omega)), X3_mayBe_eq hw, Option.bind_some]
      by_cases z : xLo w ≤ a3.toInt ∧ a3.toInt ≤ xHi w
      · rw [decide_eq_true z, if_neg xb_nt, if_pos rfl, X3_told (by omega), Option.bind_some, X3_tell (by omega), Option.bind_some]
      · rw [decide_eq_false z, if_pos xb_ff, if_neg (by decide)]
    by_cases z : xLo w ≤ a3.toInt ∧ a3.toInt ≤ xHi w
    · rw [decide_eq_true z, if_pos rfl] at e1
      obtain ⟨pe, pr⟩ := xIP_at hP hw ha
      by_cases q : σ.1 2 (xBg w + a) = a3
      · rw [if_pos q] at e1
        refine ⟨_, σ, σ, e1, ?_, hI⟩
        rw [X9_mend_eq hw ha, decide_eq_true z, if_pos rfl]
        unfold J_X9_changes
        rw [X9_valueAt_eq hw ha, Option.bind_some, pe, if_pos q]
      · rw [if_neg q] at e1
        obtain ⟨d, k, hdk, hk, e3, e4, e14, e15, hr⟩ := hU
        obtain ⟨τ, t1, t2, t3, t4⟩ := note_eq (σ := yI σ 2 (xBg w + a) a3) (d := d) (p := nI (xBg w + a)) (v := σ.1 2 (xBg w + a)) (u := a3) (by omega) (by rw [yI_1, if_neg (by decide)]; exact e3)
        have ft := F_X1_note t1
        rw [t1, Option.bind_some] at e1
        have tm : ∀ o k', 43 ≤ o → τ.1 o k' = σ.1 o k' := fun o k' ho => by
          have hx : xWn [(23, 3), (23, 4), (24, 99), (25, 99), (26, 99)] o k' = false := by
            simp [xWn]; omega
          rw [(ft o k' hx).1, yI_1, if_neg (by omega)]
        have tmo : ∀ w' a', w' < 6 → τ.1 (xMo w' a').1 (xMo w' a').2 = σ.1 (xMo w' a').1 (xMo w' a').2 := fun w' a' hw' => tm _ _ (by rcases w6 hw' with rfl | rfl | rfl | rfl | rfl | rfl <;> simp [xMo])
        obtain ⟨ρ, r1, r2, r3, r4, r5, r6⟩ := changes_eq (u := a3) (τ := τ) (d := d) hw ha (by omega) (by rw [tm _ _ (by omega)]; exact e14) (by rw [tmo w a hw, pe]; exact q)
        rw [tmo w a hw, pe] at r1
        have e2 : J_X9_mend (nI a) (nI w) a3 τ = some (σ.1 2 (xBg w + a), ρ) := by
          rw [X9_mend_eq hw ha, decide_eq_true z, if_pos rfl]
          exact r1
        have f1 := F_X8_mend e1
        have f2 := F_X9_mend e2
        refine ⟨_, τ, ρ, e1, e2, ?_, xIC_f f1 f2 (by decide) (by decide) hC, xIT_f f1 f2 (by decide) (by decide) hT, xIK_f f1 f2 (by decide) (by decide) hK, ?_, xIF_f f1 f2 (by decide) (by decide) hF, xIL_f f1 f2 (by decide) (by decide) hL, xIS_f f1 f2 (by decide) (by decide) hS, xIW_f f1 f2 (by decide) (by decide) hW⟩
        · refine xIP_lay (v := a3) hP hw ha z (fun k' => ?_) (fun w' a' hw' ha' => ?_)
          · rw [r4 _ _ (by decide), (ft 2 k' rfl).1]
            rfl
          · rw [r5 w' a' hw' ha', tmo w' a' hw']
        · have hno : xNo d < 40 := by unfold xNo; split <;> omega
          have hnd : ∀ i, i < xNo d → i + xDr d < k := by
            intro i hi
            unfold xNo at hi
            unfold xDr
            split at hi <;> split <;> omega
          refine ⟨xNo d + 1, xNo d + 1, Nat.le_refl _, by omega, by rw [r4 _ _ (by decide)]; exact t2, by rw [r4 _ _ (by decide)]; exact t3, r2, by rw [r3, Nat.sub_self]; rfl, fun i hi => ?_⟩
          obtain ⟨x1, x2, x3⟩ := t4 i (by omega)
          obtain ⟨y1, y2, y3, y4⟩ := r6 i (by omega)
          rw [r4 24 _ (by decide), r4 25 _ (by decide), r4 26 _ (by decide), x1, x2, x3, y1, y2, y3, y4, tmo w a hw, pe]
          by_cases qi : i = xNo d
          · simp only [if_pos qi]
            exact ⟨w, a, hw, ha, rfl, rfl, rfl, trivial, trivial, pr, z⟩
          · simp only [if_neg qi, tm _ _ (show 43 ≤ 50 by decide), tm _ _ (show 43 ≤ 51 by decide), tm _ _ (show 43 ≤ 52 by decide), tm _ _ (show 43 ≤ 53 by decide)]
            obtain ⟨w', a', g1, g2, g3, g4, g5, g6, g7, g8, g9⟩ := hr (i + xDr d) (hnd i (by omega))
            exact ⟨w', a', g1, g2, g3, g4, g5, g6, g7, g8, g9⟩
    · rw [decide_eq_false z, if_neg (by decide)] at e1
      refine ⟨-1, σ, σ, e1, ?_, hI⟩
      rw [X9_mend_eq hw ha, decide_eq_false z, if_neg (by decide)]
  · refine ⟨-1, σ, σ, ?_, ?_, hI⟩
    · unfold J_X8_mend
      rw [ep, Option.bind_some, if_pos (by decide)]
    · unfold J_X9_mend
      rw [et, if_pos xb_ff]
