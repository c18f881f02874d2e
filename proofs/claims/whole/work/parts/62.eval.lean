/-! The law worked out: one code, in class (stack 12, height 8.6) and reference (pile 61). -/
theorem cl_push {σ : xS2} {n : Nat} {v : Int32} (h : σ.1 8 6 = nI n) (hn : n < 121) : J_X2_push v σ = some (yI (yI σ 12 n v) 8 6 (nI (n + 1))) := by
  unfold J_X2_push
  rw [h, if_neg (k_nle (x := (121 : Int32)) 121 rfl (by decide) (by omega) hn), c_xin hn (by decide), xgd_t, nI_c (by omega), nI_1]
theorem cl_pop {σ : xS2} {n : Nat} (h : σ.1 8 6 = nI (n + 1)) (hn : n < 121) : J_X2_pop σ = some (σ.1 12 n, yI σ 8 6 (nI n)) := by
  unfold J_X2_pop
  rw [h, if_pos (k_lt (x := (0 : Int32)) 0 rfl (by decide) (by omega) (by omega)), nI_pred, c_xin hn (by decide), xgd_t, nI_c (by omega)]
/-- the seven names' values -/
def xEv (o t : Nat) (σ : xS2) (e : Nat → Int32) : Prop := ∃ c, c < 36 ∧ t < 60 ∧ σ.1 o 0 = nI c ∧ e 0 = σ.1 o 1 ∧ e 1 = σ.1 o 2 ∧ e 2 = nI t ∧ e 3 = σ.1 2 c ∧
  e 4 = xb (decide (σ.1 2 (36 + c) = 1) && !(σ.2 o 3).toBitVec.getLsbD c) ∧ e 5 = σ.1 2 (132 + t) ∧ e 6 = nI c
theorem xEv_fr {o t : Nat} {σ τ : xS2} {e e' : Nat → Int32} (ho : o ≠ 8) (ho2 : o ≠ 12) (h : xEv o t σ e) (f : xFr [(12, 99), (8, 6)] σ τ) (he : ∀ k, k < 7 → e' k = e k) : xEv o t τ e' := by
  obtain ⟨c, hc, ht, h0, e0, e1, e2, e3, e4, e5, e6⟩ := h
  have fo : ∀ k, τ.1 o k = σ.1 o k ∧ τ.2 o k = σ.2 o k := fun k => f o k (by simp [xWn]; omega)
  have f2 : ∀ k, τ.1 2 k = σ.1 2 k := fun k => (f 2 k rfl).1
  refine ⟨c, hc, ht, (fo 0).1.trans h0, ?_, ?_, ?_, ?_, ?_, ?_, ?_⟩
  · rw [he 0 (by decide), e0, (fo 1).1]
  · rw [he 1 (by decide), e1, (fo 2).1]
  · rw [he 2 (by decide), e2]
  · rw [he 3 (by decide), e3, f2]
  · rw [he 4 (by decide), e4, f2, (fo 3).2]
  · rw [he 5 (by decide), e5, f2]
  · rw [he 6 (by decide), e6]
theorem X0_news {o c : Nat} {σ : xS2} (hc : c < 36) (h0 : σ.1 o 0 = nI c) : J_X0_isOnNewStone o σ = some (decide (σ.1 2 (36 + c) = 1) && !(σ.2 o 3).toBitVec.getLsbD c) := by
  unfold J_X0_isOnNewStone
  rw [h0, X3_isStone hc, Option.bind_some, X0_looked hc]
  cases decide (σ.1 2 (36 + c) = 1) <;> cases (σ.2 o 3).toBitVec.getLsbD c <;> rfl
theorem nm_115 {o t : Nat} {σ : xS2} {e : Nat → Int32} (h : xEv o t σ e) : J_X2_named 115 o (nI t) σ = some (e 0) := by
  obtain ⟨c, hc, ht, h0, e0, e1, e2, e3, e4, e5, e6⟩ := h
  rw [e0]; rfl
theorem nm_117 {o t : Nat} {σ : xS2} {e : Nat → Int32} (h : xEv o t σ e) : J_X2_named 117 o (nI t) σ = some (e 1) := by
  obtain ⟨c, hc, ht, h0, e0, e1, e2, e3, e4, e5, e6⟩ := h
  rw [e1]; rfl
theorem nm_100 {o t : Nat} {σ : xS2} {e : Nat → Int32} (h : xEv o t σ e) : J_X2_named 100 o (nI t) σ = some (e 2) := by
  obtain ⟨c, hc, ht, h0, e0, e1, e2, e3, e4, e5, e6⟩ := h
  rw [e2]; rfl
theorem nm_104 {o t : Nat} {σ : xS2} {e : Nat → Int32} (h : xEv o t σ e) : J_X2_named 104 o (nI t) σ = some (e 3) := by
  obtain ⟨c, hc, ht, h0, e0, e1, e2, e3, e4, e5, e6⟩ := h
  rw [e3]
  show (J_X3_high (σ.1 o 0) σ).bind (fun x3 => some x3) = _
  rw [h0, X3_high hc, Option.bind_some]
theorem nm_111 {o t : Nat} {σ : xS2} {e : Nat → Int32} (h : xEv o t σ e) : J_X2_named 111 o (nI t) σ = some (e 4) := by
  obtain ⟨c, hc, ht, h0, e0, e1, e2, e3, e4, e5, e6⟩ := h
  rw [e4]
  show (J_X0_isOnNewStone o σ).bind (fun x5 => if (xb x5) = 0 then some (0 : Int32) else some (1 : Int32)) = _
  rw [X0_news hc h0, Option.bind_some]
  cases (decide (σ.1 2 (36 + c) = 1) && !(σ.2 o 3).toBitVec.getLsbD c) <;> rfl
theorem nm_119 {o t : Nat} {σ : xS2} {e : Nat → Int32} (h : xEv o t σ e) : J_X2_named 119 o (nI t) σ = some (e 5) := by
  obtain ⟨c, hc, ht, h0, e0, e1, e2, e3, e4, e5, e6⟩ := h
  rw [e5]
  show (J_X3_wind (nI t) σ).bind (fun x10 => some x10) = _
  rw [X3_wind ht, Option.bind_some]
theorem nm_99 {o t : Nat} {σ : xS2} {e : Nat → Int32} (h : xEv o t σ e) : J_X2_named 99 o (nI t) σ = some (e 6) := by
  obtain ⟨c, hc, ht, h0, e0, e1, e2, e3, e4, e5, e6⟩ := h
  rw [e6, ← h0]; rfl
theorem cs_name {o n : Nat} {t z v : Int32} {σ : xS2} (h : σ.1 8 6 = nI n) (hn : n < 121) (hz : z < 0) (hN : J_X2_isName (-z) = true) (hv : J_X2_named (-z) o t σ = some v) : J_X2_step z o t σ = some (yI (yI σ 12 n v) 8 6 (nI (n + 1))) := by
  unfold J_X2_step
  rw [if_pos hz, hN, if_neg xb_nt, hv, Option.bind_some, cl_push h hn, Option.bind_some]
theorem cs_two {o n : Nat} {t z v : Int32} {σ : xS2} (h : σ.1 8 6 = nI (n + 2)) (hn : n < 120) (hz : z < 0) (hN : J_X2_isName (-z) = false) (h1 : ¬ z = -126) (h2 : ¬ z = -33) (hv : J_X2_joined (-z) (σ.1 12 n) (σ.1 12 (n + 1)) = some v) :
    J_X2_step z o t σ = some (yI (yI (yI (yI σ 8 6 (nI (n + 1))) 8 6 (nI n)) 12 n v) 8 6 (nI (n + 1))) := by
  unfold J_X2_step
  rw [if_pos hz, hN, if_pos xb_f, if_neg h1, if_neg h2, cl_pop h (by omega), Option.bind_some]
  show (J_X2_pop (yI σ 8 6 (nI (n + 1)))).bind _ = _
  rw [cl_pop (σ := yI σ 8 6 (nI (n + 1))) (n := n) rfl (by omega), Option.bind_some]
  show (J_X2_joined (-z) (σ.1 12 n) (σ.1 12 (n + 1))).bind _ = _
  rw [hv, Option.bind_some]
  show (J_X2_push v (yI (yI σ 8 6 (nI (n + 1))) 8 6 (nI n))).bind _ = _
  rw [cl_push (σ := yI (yI σ 8 6 (nI (n + 1))) 8 6 (nI n)) (n := n) rfl (by omega), Option.bind_some]
theorem cs_neg {o n : Nat} {t : Int32} {σ : xS2} (h : σ.1 8 6 = nI (n + 1)) (hn : n < 120) :
    J_X2_step (-126) o t σ = some (yI (yI (yI σ 8 6 (nI n)) 12 n (-(σ.1 12 n))) 8 6 (nI (n + 1))) := by
  unfold J_X2_step
  rw [if_pos (by decide), if_pos (by decide), if_pos rfl, cl_pop h (by omega), Option.bind_some]
  show (J_X2_push (-(σ.1 12 n)) (yI σ 8 6 (nI n))).bind _ = _
  rw [cl_push (σ := yI σ 8 6 (nI n)) (n := n) rfl (by omega), Option.bind_some]
theorem cs_not {o n : Nat} {t : Int32} {σ : xS2} (h : σ.1 8 6 = nI (n + 1)) (hn : n < 120) :
    J_X2_step (-33) o t σ = some (yI (yI (yI σ 8 6 (nI n)) 12 n (xb (decide (σ.1 12 n = 0)))) 8 6 (nI (n + 1))) := by
  have hp : ∀ v, J_X2_push v (yI σ 8 6 (nI n)) = some (yI (yI (yI σ 8 6 (nI n)) 12 n v) 8 6 (nI (n + 1))) := fun v => cl_push (σ := yI σ 8 6 (nI n)) (n := n) rfl (by omega)
  unfold J_X2_step J_X2_step_73
  rw [if_pos (by decide), if_pos (by decide), if_neg (by decide), if_pos rfl, cl_pop h (by omega), Option.bind_some]
  show (if σ.1 12 n = 0 then (J_X2_push (xb true) (yI σ 8 6 (nI n))).bind _ else (J_X2_push (xb false) (yI σ 8 6 (nI n))).bind _) = _
  rw [hp, hp, Option.bind_some, Option.bind_some]
  by_cases q : σ.1 12 n = 0
  · rw [if_pos q, decide_eq_true q]
  · rw [if_neg q, decide_eq_false q]
theorem joined_some (o a b : Int32) : ∃ v, J_X2_joined o a b = some v := by
  have nz : ∀ {y : Int32}, ¬ y = 0 → xnz y = true := fun h => by simpa [xnz] using h
  unfold J_X2_joined J_X2_joined_203 J_X2_joined_211
  by_cases z : b = 0
  · simp only [if_pos z]
    repeat' split
    all_goals exact ⟨_, rfl⟩
  · simp only [if_neg z, nz z, xgd_t]
    repeat' split
    all_goals exact ⟨_, rfl⟩
-- the reference's
theorem rw_head {f E n i : Nat} {μ : xS2} (hi : i < E) (hE : E ≤ 130) : J_X9_worked_12 (f + 1) 0 (nI E) (nI n) (nI i) μ =
    if μ.1 55 i = 1 then J_X9_worked_45 (J_X9_worked_12 f) 0 (nI E) (nI n) (nI i) (μ.1 55 i) μ
    else if μ.1 55 i = 2 then J_X9_worked_45 (J_X9_worked_12 f) 0 (nI E) (nI n) (nI i) (μ.1 55 i) μ
    else if μ.1 55 i = 3 then xgd (xin (nI n - 1) 130) (if μ.1 61 (nI n - 1).toNatClampNeg = 0 then J_X9_worked_117 (J_X9_worked_12 f) 0 (nI E) (nI n) (nI i) (nI n - 1) true μ else J_X9_worked_117 (J_X9_worked_12 f) 0 (nI E) (nI n) (nI i) (nI n - 1) false μ)
    else if μ.1 55 i = 4 then xgd (xin (nI n - 1) 130) (xgd (xin (nI n - 1) 130) (J_X9_worked_182 (J_X9_worked_12 f) 0 (nI E) (nI n) (nI i) (yI μ 61 (nI n - 1).toNatClampNeg (-(μ.1 61 (nI n - 1).toNatClampNeg)))))
    else xgd (xin ((nI n + (-1)) - 1) 130) (xgd (xin (nI n + (-1)) 130) ((J_X9_twoOf (μ.1 55 i) (μ.1 61 ((nI n + (-1)) - 1).toNatClampNeg) (μ.1 61 (nI n + (-1)).toNatClampNeg)).bind fun x15 => xgd (xin ((nI n + (-1)) - 1) 130) (J_X9_worked_182 (J_X9_worked_12 f) 0 (nI E) (nI n + (-1)) (nI i) (yI μ 61 ((nI n + (-1)) - 1).toNatClampNeg x15)))) := by
  have e0 : (130 : Int32) * 0 + nI E = nI E := by rw [Int32.mul_zero, Int32.zero_add]
  rw [E_X9_worked_12, e0, if_neg (c_nle (a := E) (b := i) (by omega) (by omega) hi), c_xin (by omega) (by decide), xgd_t, nI_c (by omega)]
theorem nI_m1 {n : Nat} : nI (n + 1) + (-1) = nI n := by
  rw [← nI_pred n, Int32.sub_eq_add_neg]
theorem rw_lit {f E n i : Nat} {μ : xS2} (hi : i < E) (hE : E ≤ 130) (hn : n < 121) (h : μ.1 55 i = 1) : J_X9_worked_12 (f + 1) 0 (nI E) (nI n) (nI i) μ = J_X9_worked_12 f 0 (nI E) (nI (n + 1)) (nI (i + 1)) (yI μ 61 n (μ.1 56 i)) := by
  rw [rw_head hi hE, if_pos h, h]
  unfold J_X9_worked_45 J_X9_worked_79 J_X9_worked_182
  rw [if_pos rfl, c_xin (by omega) (by decide), xgd_t, c_xin (by omega) (by decide), xgd_t, nI_c (by omega), nI_c (by omega), nI_1, nI_1]
theorem rw_name {f E n i k : Nat} {μ : xS2} (hi : i < E) (hE : E ≤ 130) (hn : n < 121) (h : μ.1 55 i = 2) (hk : k < 7) (h2 : μ.1 56 i = nI k) : J_X9_worked_12 (f + 1) 0 (nI E) (nI n) (nI i) μ = J_X9_worked_12 f 0 (nI E) (nI (n + 1)) (nI (i + 1)) (yI μ 61 n (μ.1 60 k)) := by
  rw [rw_head hi hE, h, if_neg (by decide), if_pos rfl]
  unfold J_X9_worked_45 J_X9_worked_79 J_X9_worked_182
  rw [if_neg (by decide), c_xin (by omega) (by decide), xgd_t, nI_c (n := i) (by omega), h2, c_xin hk (by decide), xgd_t, c_xin (by omega) (by decide), xgd_t, nI_c (by omega), nI_c (by omega), nI_1, nI_1]
theorem rw_not {f E n i : Nat} {μ : xS2} (hi : i < E) (hE : E ≤ 130) (hn : n < 121) (h : μ.1 55 i = 3) : J_X9_worked_12 (f + 1) 0 (nI E) (nI (n + 1)) (nI i) μ = J_X9_worked_12 f 0 (nI E) (nI (n + 1)) (nI (i + 1)) (yI μ 61 n (xb (decide (μ.1 61 n = 0)))) := by
  rw [rw_head hi hE, h, if_neg (by decide), if_neg (by decide), if_pos rfl]
  unfold J_X9_worked_117 J_X9_worked_182
  rw [nI_pred, c_xin (by omega) (by decide), xgd_t, xgd_t, xgd_t, nI_c (by omega), nI_1]
  by_cases q : μ.1 61 n = 0
  · rw [if_pos q, decide_eq_true q]
  · rw [if_neg q, decide_eq_false q]
theorem rw_neg {f E n i : Nat} {μ : xS2} (hi : i < E) (hE : E ≤ 130) (hn : n < 121) (h : μ.1 55 i = 4) : J_X9_worked_12 (f + 1) 0 (nI E) (nI (n + 1)) (nI i) μ = J_X9_worked_12 f 0 (nI E) (nI (n + 1)) (nI (i + 1)) (yI μ 61 n (-(μ.1 61 n))) := by
  rw [rw_head hi hE, h, if_neg (by decide), if_neg (by decide), if_neg (by decide), if_pos rfl]
  unfold J_X9_worked_182
  rw [nI_pred, c_xin (by omega) (by decide), xgd_t, xgd_t, nI_c (by omega), nI_1]
theorem rw_two {f E n i : Nat} {a v : Int32} {μ : xS2} (hi : i < E) (hE : E ≤ 130) (hn : n < 120) (h : μ.1 55 i = a) (h1 : ¬ a = 1) (h2 : ¬ a = 2) (h3 : ¬ a = 3) (h4 : ¬ a = 4) (hv : J_X9_twoOf a (μ.1 61 n) (μ.1 61 (n + 1)) = some v) : J_X9_worked_12 (f + 1) 0 (nI E) (nI (n + 2)) (nI i) μ = J_X9_worked_12 f 0 (nI E) (nI (n + 1)) (nI (i + 1)) (yI μ 61 n v) := by
  rw [rw_head hi hE, h, if_neg h1, if_neg h2, if_neg h3, if_neg h4, show nI (n + 2) + (-1) = nI (n + 1) from nI_m1, nI_pred, c_xin (by omega) (by decide), xgd_t, c_xin (by omega) (by decide), xgd_t, nI_c (by omega), nI_c (by omega), hv, Option.bind_some, xgd_t]
  unfold J_X9_worked_182
  rw [nI_1]
-- both
def xRk (σ μ : xS2) (n : Nat) : Prop := σ.1 8 6 = nI n ∧ ∀ i, i < n → σ.1 12 i = μ.1 61 i
theorem xRk_up {σ μ σ' μ' : xS2} {n : Nat} {v : Int32} (h6 : σ'.1 8 6 = nI (n + 1)) (hs : ∀ i, σ'.1 12 i = if i = n then v else σ.1 12 i) (hm : ∀ i, μ'.1 61 i = if i = n then v else μ.1 61 i) (h : ∀ i, i < n → σ.1 12 i = μ.1 61 i) : xRk σ' μ' (n + 1) := by
  refine ⟨h6, fun i hi => ?_⟩
  rw [hs, hm]
  by_cases q : i = n
  · rw [if_pos q, if_pos q]
  · rw [if_neg q, if_neg q]
    exact h i (by omega)
theorem xSt_name {z : Int32} (hz : z = -115 ∨ z = -117 ∨ z = -100 ∨ z = -104 ∨ z = -111 ∨ z = -119 ∨ z = -99) {o t : Nat} {σ : xS2} {e : Nat → Int32} (h : xEv o t σ e) :
    z < 0 ∧ J_X2_isName (-z) = true ∧ ∃ k, k < 7 ∧ (xSt z).1 = 2 ∧ (xSt z).2 = nI k ∧ J_X2_named (-z) o (nI t) σ = some (e k) := by
  rcases hz with rfl | rfl | rfl | rfl | rfl | rfl | rfl
  · exact ⟨by decide, by decide, 0, by decide, by decide, by decide, nm_115 h⟩
  · exact ⟨by decide, by decide, 1, by decide, by decide, by decide, nm_117 h⟩
  · exact ⟨by decide, by decide, 2, by decide, by decide, by decide, nm_100 h⟩
  · exact ⟨by decide, by decide, 3, by decide, by decide, by decide, nm_104 h⟩
  · exact ⟨by decide, by decide, 4, by decide, by decide, by decide, nm_111 h⟩
  · exact ⟨by decide, by decide, 5, by decide, by decide, by decide, nm_119 h⟩
  · exact ⟨by decide, by decide, 6, by decide, by decide, by decide, nm_99 h⟩
theorem xSt_two {z : Int32} (hz : z = -43 ∨ z = -45 ∨ z = -42 ∨ z = -47 ∨ z = -37 ∨ z = -60 ∨ z = -61 ∨ z = -62 ∨ z = -38 ∨ z = -124) :
    z < 0 ∧ J_X2_isName (-z) = false ∧ ¬ z = -126 ∧ ¬ z = -33 ∧ (xSt z).1 = -z ∧ ¬ -z = 1 ∧ ¬ -z = 2 ∧ ¬ -z = 3 ∧ ¬ -z = 4 := by
  rcases hz with rfl | rfl | rfl | rfl | rfl | rfl | rfl | rfl | rfl | rfl <;> decide
theorem ev_step {o t n m i E : Nat} {z : Int32} {σ μ : xS2} (hz : xDp z n = some m) (hn : n < 121) (hi : i < E) (hE : E ≤ 130) (hR : xRk σ μ n) (hev : xEv o t σ (μ.1 60)) (h55 : μ.1 55 i = (xSt z).1) (h56 : μ.1 56 i = (xSt z).2) :
    ∃ σ' μ', J_X2_step z o (nI t) σ = some σ' ∧ (∀ f, J_X9_worked_12 (f + 1) 0 (nI E) (nI n) (nI i) μ = J_X9_worked_12 f 0 (nI E) (nI m) (nI (i + 1)) μ') ∧ xRk σ' μ' m ∧ m ≤ n + 1 ∧ xFr [(61, 99)] μ μ' := by
  obtain ⟨h6, hst⟩ := id hR
  unfold xDp at hz
  by_cases c0 : 0 ≤ z
  · rw [if_pos c0] at hz
    cases hz
    have s1 : xSt z = (1, z) := by unfold xSt; rw [if_pos c0]
    rw [s1] at h55 h56
    refine ⟨yI (yI σ 12 n z) 8 6 (nI (n + 1)), _, ?_, fun f => rw_lit hi hE hn h55, ?_, Nat.le_refl _, xFr_yI xFr_rf rfl⟩
    · unfold J_X2_step
      rw [if_neg (i_le_nlt c0), cl_push h6 hn, Option.bind_some]
    · refine xRk_up (v := z) rfl (fun _ => rfl) (fun j => ?_) hst
      rw [h56]; rfl
  · rw [if_neg c0] at hz
    by_cases c1 : z = -115 ∨ z = -117 ∨ z = -100 ∨ z = -104 ∨ z = -111 ∨ z = -119 ∨ z = -99
    · rw [if_pos c1] at hz
      cases hz
      obtain ⟨z0, zn, k, hk, e1, e2, e3⟩ := xSt_name c1 hev
      refine ⟨_, _, cs_name h6 hn z0 zn e3, fun f => rw_name hi hE hn (h55.trans e1) hk (h56.trans e2), ?_, Nat.le_refl _, xFr_yI xFr_rf rfl⟩
      exact xRk_up (v := μ.1 60 k) rfl (fun _ => rfl) (fun _ => rfl) hst
    · rw [if_neg c1] at hz
      by_cases c2 : z = -33 ∨ z = -126
      · rw [if_pos c2] at hz
        by_cases hn1 : 1 ≤ n
        · rw [if_pos hn1] at hz
          cases hz
          obtain ⟨n, rfl⟩ : ∃ k, n = k + 1 := ⟨n - 1, by omega⟩
          have he := hst n (by omega)
          rcases c2 with rfl | rfl
          · refine ⟨_, _, cs_not h6 (by omega), fun f => rw_not hi hE (by omega) h55, ?_, by omega, xFr_yI xFr_rf rfl⟩
            refine xRk_up (v := xb (decide (σ.1 12 n = 0))) rfl (fun _ => rfl) (fun j => ?_) (fun j hj => hst j (by omega))
            rw [he]; rfl
          · refine ⟨_, _, cs_neg h6 (by omega), fun f => rw_neg hi hE (by omega) h55, ?_, by omega, xFr_yI xFr_rf rfl⟩
            refine xRk_up (v := -(σ.1 12 n)) rfl (fun _ => rfl) (fun j => ?_) (fun j hj => hst j (by omega))
            rw [he]; rfl
        · rw [if_neg hn1] at hz; cases hz
      · rw [if_neg c2] at hz
        by_cases c3 : z = -43 ∨ z = -45 ∨ z = -42 ∨ z = -47 ∨ z = -37 ∨ z = -60 ∨ z = -61 ∨ z = -62 ∨ z = -38 ∨ z = -124
        · rw [if_pos c3] at hz
          by_cases hn2 : 2 ≤ n
          · rw [if_pos hn2] at hz
            cases hz
            obtain ⟨n, rfl⟩ : ∃ k, n = k + 2 := ⟨n - 2, by omega⟩
            obtain ⟨z0, z1, z2, z3, z4, z5, z6, z7, z8⟩ := xSt_two c3
            obtain ⟨v, hv⟩ := joined_some (-z) (σ.1 12 n) (σ.1 12 (n + 1))
            have hv2 : J_X9_twoOf (-z) (μ.1 61 n) (μ.1 61 (n + 1)) = some v := by
              rw [← two_eq, ← hst n (by omega), ← hst (n + 1) (by omega), hv]
            refine ⟨_, _, cs_two h6 (by omega) z0 z1 z2 z3 hv, fun f => rw_two hi hE (by omega) (h55.trans z4) z5 z6 z7 z8 hv2, ?_, by omega, xFr_yI xFr_rf rfl⟩
            exact xRk_up (v := v) rfl (fun _ => rfl) (fun _ => rfl) (fun j hj => hst j (by omega))
          · rw [if_neg hn2] at hz; cases hz
        · rw [if_neg c3] at hz; cases hz
