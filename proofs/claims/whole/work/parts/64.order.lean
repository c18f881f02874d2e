/-! THE ORDER by THE LAW, in class and reference: two memories. order. -/
def xMx (σ μ : xS2) : xS2 := (fun o k => if o < 43 then σ.1 o k else μ.1 o k, fun o k => if o < 43 then σ.2 o k else μ.2 o k)
def zcL : List (Nat × Nat) := [(8, 5), (11, 99)]
def zrL : List (Nat × Nat) := [(43, 33), (55, 99), (56, 99), (57, 0), (57, 99), (58, 99), (59, 99)]
theorem zL_split {o k : Nat} (h : xWn zsL o k = true) : (o < 43 ∧ xWn zcL o k = true) ∨ (¬ o < 43 ∧ xWn zrL o k = true) := by
  have e : zsL = zcL ++ zrL := rfl
  have e2 : xWn zsL o k = (xWn zcL o k || xWn zrL o k) := by
    rw [e]; unfold xWn; rw [List.any_append]
  rw [e2, Bool.or_eq_true] at h
  rcases h with h | h
  · refine Or.inl ⟨?_, h⟩
    simp [xWn, zcL] at h
    omega
  · refine Or.inr ⟨?_, h⟩
    simp [xWn, zrL] at h
    omega
theorem xMx_eq {σ μ σ' μ' : xS2} {l l2 : List (Nat × Nat)} (f1 : xFr l σ σ') (f2 : xFr l2 μ μ') (d1 : xDj zcL l = true) (d2 : xDj zrL l2 = true) (h : xIL (xMx σ μ)) : xIL (xMx σ' μ') := by
  refine xIL_eq (fun o k hk => ?_) h
  unfold xMx
  rcases zL_split hk with ⟨q, z⟩ | ⟨q, z⟩
  · simp only [if_pos q]; exact f1 o k (xDj_not d1 z)
  · simp only [if_neg q]; exact f2 o k (xDj_not d2 z)
theorem xMx_of {σ μ : xS2} {l : List (Nat × Nat)} (f : xFr l σ μ) (d : xDj zrL l = true) (h : xIL σ) : xIL (xMx σ μ) := by
  refine xIL_eq (fun o k hk => ?_) h
  unfold xMx
  rcases zL_split hk with ⟨q, z⟩ | ⟨q, z⟩
  · simp only [if_pos q]; exact ⟨trivial, trivial⟩
  · simp only [if_neg q]; exact f o k (xDj_not d z)
theorem xrm6 {x : Int32} (h : 0 ≤ x) : ∃ n, n ≤ 5 ∧ xrm x 6 = nI n := by
  obtain ⟨k, hk, rfl⟩ := nI_of (x := x) (i_le_nlt h)
  have ek : (nI k).toInt = (k : Int) := nI_toInt hk
  have e6 : (6 : Int32).toInt = 6 := by decide
  have ed : (nI k / 6).toInt = ((k / 6 : Nat) : Int) := by
    rw [Int32.toInt_div, ek, e6, show (6 : Int) = ((6 : Nat) : Int) from rfl, ← Int.ofNat_tdiv k 6, Int.bmod_eq_of_le (by omega) (by omega)]
  refine ⟨k % 6, by omega, ?_⟩
  apply Int32.toInt_inj.mp
  have em : (nI (k % 6)).toInt = ((k % 6 : Nat) : Int) := nI_toInt (by omega)
  unfold xrm
  rw [Int32.toInt_sub, Int32.toInt_mul, ed, e6, ek, em, Int.bmod_eq_of_le (n := ((k / 6 : Nat) : Int) * 6) (by omega) (by omega), Int.bmod_eq_of_le (by omega) (by omega)]
  omega
theorem X9_order_29 {c t : Nat} {μ : xS2} (hc : c < 36) (h8 : μ.1 43 8 = nI c) : J_X9_orderOf (nI t) μ = J_X9_orderOf_29 (nI t) (decide (μ.1 45 c = 1) && !(μ.2 43 11).toBitVec.getLsbD c) μ := by
  unfold J_X9_orderOf J_X9_orderOf_28
  rw [h8, c_xin hc (by decide), xgd_t, nI_c (by omega), X9_looked hc]
  by_cases q : μ.1 45 c = 1
  · rw [if_pos q, decide_eq_true q]
    cases (μ.2 43 11).toBitVec.getLsbD c <;> rfl
  · rw [if_neg q, decide_eq_false q]; rfl
theorem order_eq {o t : Nat} {σ μ : xS2} (ho : o ≠ 8) (ho2 : o ≠ 12) (hL : xIL (xMx σ μ)) (hp : xPl σ μ) (h : xCt o σ μ) (ht : t < 60) : ∃ n σ' μ', n ≤ 5 ∧ J_X2_orderFor o (nI t) σ = some (nI n, σ') ∧ J_X9_orderOf (nI t) μ = some (nI n, μ') := by
  obtain ⟨c, s, d, hc, hs, hd, h0, h1, h2, m8, m9, m10, hl⟩ := h
  have hst : μ.1 45 c = σ.1 2 (36 + c) := (hp 1 c (by decide) hc).1
  have h44 : μ.1 44 c = σ.1 2 c := by
    have := (hp 0 c (by decide) hc).1
    rw [show xBg 0 = 0 from rfl, Nat.zero_add] at this
    exact this
  have hw : μ.1 47 t = σ.1 2 (132 + t) := (wind_at hp ht).1
  rcases hL with ⟨l1, l2⟩ | ⟨l2, P, hP0, hPq, hPl, hcl, hsl, l1, h11, h55, h57, hen⟩
  · have l1 : σ.1 8 5 = 0 := l1
    have l2 : μ.1 43 33 = 0 := l2
    have k1 : J_X2_orderFor o (nI t) σ = if (decide (σ.1 2 (36 + c) = 1) && !(σ.2 o 3).toBitVec.getLsbD c) = true then some (5, σ) else some (0, σ) := by
      unfold J_X2_orderFor
      rw [if_pos l1, X0_news hc h0, Option.bind_some]
      cases (decide (σ.1 2 (36 + c) = 1) && !(σ.2 o 3).toBitVec.getLsbD c) <;> rfl
    have k2 : J_X9_orderOf (nI t) μ = if (decide (σ.1 2 (36 + c) = 1) && !(σ.2 o 3).toBitVec.getLsbD c) = true then some (5, μ) else some (0, μ) := by
      rw [X9_order_29 hc m8, hst, ← hl]
      unfold J_X9_orderOf_29
      rw [if_pos l2]
      cases (decide (σ.1 2 (36 + c) = 1) && !(σ.2 o 3).toBitVec.getLsbD c) <;> rfl
    by_cases q : (decide (σ.1 2 (36 + c) = 1) && !(σ.2 o 3).toBitVec.getLsbD c) = true
    · rw [if_pos q] at k1 k2
      exact ⟨5, σ, μ, by decide, k1, k2⟩
    · rw [if_neg q] at k1 k2
      exact ⟨0, σ, μ, by decide, k1, k2⟩
  · have l1 : σ.1 8 5 = nI (xCd P).length := l1
    have l2 : μ.1 43 33 = 1 := l2
    have hlen : 0 < (xCd P).length := by
      cases P with
      | nil => exact absurd rfl hP0
      | cons q r =>
        obtain ⟨a, b⟩ := q
        cases a with
        | none => show 0 < (b ++ (-59 : Int32) :: xCd r).length; rw [List.length_append, List.length_cons]; omega
        | some a => show 0 < (a ++ (-63 : Int32) :: (b ++ (-59 : Int32) :: xCd r)).length; rw [List.length_append, List.length_cons]; omega
    obtain ⟨μ0, hμ0⟩ : ∃ μ0, μ0 = yI (yI (yI (yI (yI (yI (yI μ 60 0 (nI s)) 60 1 (nI d)) 60 2 (nI t)) 60 3 (σ.1 2 c)) 60 4 (xb (decide (σ.1 2 (36 + c) = 1) && !(σ.2 o 3).toBitVec.getLsbD c))) 60 5 (σ.1 2 (132 + t))) 60 6 (nI c) := ⟨_, rfl⟩
    have fr0 : xFr [(60, 99)] μ μ0 := by
      rw [hμ0]
      exact xFr_yI (xFr_yI (xFr_yI (xFr_yI (xFr_yI (xFr_yI (xFr_yI xFr_rf rfl) rfl) rfl) rfl) rfl) rfl) rfl
    have hev : xEv o t (yI σ 8 6 (nI 0)) (μ0.1 60) := by
      refine ⟨c, hc, ht, ?_, ?_, ?_, ?_, ?_, ?_, ?_, ?_⟩
      · rw [yI_1, if_neg ho]; exact h0
      · rw [yI_1, if_neg ho, h1, hμ0]; rfl
      · rw [yI_1, if_neg ho, h2, hμ0]; rfl
      · rw [hμ0]; rfl
      · rw [hμ0]; rfl
      · rw [hμ0]; rfl
      · rw [hμ0]; rfl
      · rw [hμ0]; rfl
    obtain ⟨v, σ', μ', e1, e2⟩ := ev_lines (o := o) (t := t) (c := (xCd P).length) (T := P.length) ho ho2 hcl hPl P 0 0 0 xFU xFU (yI σ 8 6 (nI 0)) μ0 hPq (by show _ < 2000; omega) (by show _ < 2000; omega) (by omega) (by omega) (by omega) l1 rfl ((fr0 57 0 rfl).1.trans h57) hev
      (fun k z hk => by
        have := h11 k z hk
        rw [Nat.zero_add]
        exact this)
      (fun k z hk => by
        have := h55 k z hk
        rw [Nat.zero_add, (fr0 55 _ rfl).1, (fr0 56 _ rfl).1]
        exact this)
      (fun k q hk => by
        have := hen k q hk
        rw [Nat.zero_add, (fr0 58 _ rfl).1, (fr0 59 _ rfl).1]
        exact this)
    have k1 : J_X2_orderFor o (nI t) σ = if 0 ≤ v then some (xrm v 6, σ') else some (0, σ') := by
      unfold J_X2_orderFor J_X2_workOut
      rw [if_neg (fun z => nI_ne0 hlen (by omega) (l1.symm.trans z))]
      show (J_X2_workOut_11 xFU o (nI t) false (nI 0) (yI σ 8 6 (nI 0))).bind _ = _
      rw [e1, Option.bind_some]
    have k2 : J_X9_orderOf (nI t) μ = if 0 ≤ v then some (xrm v 6, μ') else some (0, μ') := by
      rw [X9_order_29 hc m8, hst, ← hl]
      have k29 : ∀ b : Bool, J_X9_orderOf_29 (nI t) b μ = J_X9_orderOf_103 (nI t) 4 b (yI (yI (yI (yI μ 60 0 (nI s)) 60 1 (nI d)) 60 2 (nI t)) 60 3 (σ.1 2 c)) := fun b => by
        unfold J_X9_orderOf_29
        rw [if_neg (fun z => absurd (l2.symm.trans z) (by decide)), m8, m9, m10, c_xin hc (by decide), xgd_t, nI_c (by omega), h44]
        cases b <;> rfl
      rw [k29]
      unfold J_X9_orderOf_103
      rw [show xin (4 : Int32) 7 = true from by decide, xgd_t, c_xin ht (by decide), xgd_t, nI_c (by omega)]
      show (J_X9_gives 0 (yI (yI (yI _ 60 4 _) 60 5 (μ.1 47 t)) 60 6 (μ.1 43 8))).bind _ = _
      rw [hw, m8, ← hμ0]
      show (J_X9_gives_7 xFU 0 (nI 0) (nI 0) μ0).bind _ = _
      rw [e2, Option.bind_some]
    by_cases q : 0 ≤ v
    · rw [if_pos q] at k1 k2
      obtain ⟨n, hn, en⟩ := xrm6 q
      rw [en] at k1 k2
      exact ⟨n, σ', μ', hn, k1, k2⟩
    · rw [if_neg q] at k1 k2
      exact ⟨0, σ', μ', by decide, k1, k2⟩
theorem step_order : xStep_order xIv := by
  intro σ hI
  obtain ⟨hP, hC, hT, hK, hU, hF, hL, hS, hW⟩ := id hI
  obtain ⟨t, ht, et⟩ := xRg_at (l := 60) hT.1.2
  by_cases z : t < 60
  · obtain ⟨n, σ1, -, hn, d1, -⟩ := order_eq (o := 3) (t := t) (by decide) (by decide) (xMx_of (l := []) xFr_rf (by decide) hL) (xPl_of hP) (xCt_3 hC) z
    have k1 : J_X8_order σ = some (nI n, σ1) := by
      unfold J_X8_order
      rw [et, if_pos (r_lt (x := (60 : Int32)) 60 rfl (by decide) (by omega) z), d1, Option.bind_some]
    have f1 := F_X8_order k1
    have hp1 : xPl σ σ1 := fun w a hw ha => by
      rw [(f1 _ _ (by rcases w6 hw with rfl | rfl | rfl | rfl | rfl | rfl <;> rfl)).1]
      exact xPl_of hP w a hw ha
    have hc1 : xCt 3 σ σ1 := by
      obtain ⟨c, s, d, hc, hs, hd, h0, h1, h2, m8, m9, m10, hl⟩ := xCt_3 hC
      exact ⟨c, s, d, hc, hs, hd, h0, h1, h2, ((f1 43 8 rfl).1).trans m8, ((f1 43 9 rfl).1).trans m9, ((f1 43 10 rfl).1).trans m10, hl.trans ((f1 43 11 rfl).2).symm⟩
    obtain ⟨n2, σ2, μ1, hn2, d1', d2⟩ := order_eq (o := 3) (t := t) (by decide) (by decide) (xMx_of f1 (by decide) hL) hp1 hc1 z
    have en : nI n2 = nI n := (xso2 (d1'.symm.trans d1)).1
    rw [en] at d2
    have k2 : J_X9_order σ1 = some (nI n, μ1) := by
      unfold J_X9_order
      rw [(f1 43 7 rfl).1, hT.1.1, et, if_neg (fun zz => by have := (nI_eq (by omega) (by decide)).mp (zz.trans (show (60 : Int32) = nI 60 from rfl)); omega), d2, Option.bind_some]
    have f2 := F_X9_order k2
    exact ⟨nI n, σ1, μ1, k1, k2, xIP_f f1 f2 (by decide) (by decide) hP, xIC_f f1 f2 (by decide) (by decide) hC, xIT_f f1 f2 (by decide) (by decide) hT, xIK_f f1 f2 (by decide) (by decide) hK, xIU_f f1 f2 (by decide) (by decide) hU, xIF_f f1 f2 (by decide) (by decide) hF, xIL_f f1 f2 (by decide) (by decide) hL, xIS_f f1 f2 (by decide) (by decide) hS, xIW_f f1 f2 (by decide) (by decide) hW⟩
  · obtain rfl : t = 60 := by omega
    refine ⟨-5, σ, σ, ?_, ?_, hI⟩
    · unfold J_X8_order
      rw [et, if_neg (by decide)]
    · unfold J_X9_order
      rw [hT.1.1, et, if_pos (by decide)]
