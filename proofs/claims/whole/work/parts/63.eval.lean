/-! The law worked out: lists of codes, lines. -/
theorem ap_l {α : Type} {l r : List α} {k : Nat} {z : α} (h : l[k]? = some z) : (l ++ r)[k]? = some z := by
  rw [List.getElem?_append_left (List.getElem?_eq_some_iff.mp h).1]
  exact h
theorem ap_r {α : Type} {l r : List α} {k : Nat} {z : α} (h : r[k]? = some z) : (l ++ r)[l.length + k]? = some z := by
  rw [List.getElem?_append_right (by omega), Nat.add_sub_cancel_left]
  exact h
theorem cons_s {α : Type} {l : List α} {k : Nat} {z v : α} (h : l[k]? = some v) : (z :: l)[k + 1]? = some v := by rw [List.getElem?_cons_succ]; exact h
theorem xDp_ne {z : Int32} {n m : Nat} (h : xDp z n = some m) : ¬ z = -59 ∧ ¬ z = -63 := by
  refine ⟨fun e => ?_, fun e => ?_⟩ <;>
  · subst e
    unfold xDp at h
    rw [if_neg (by decide), if_neg (by decide), if_neg (by decide), if_neg (by decide)] at h
    cases h
theorem xDps_c {z : Int32} {r : List Int32} {n m : Nat} (h : xDps (z :: r) n = some m) : ∃ k, xDp z n = some k ∧ xDps r k = some m := Option.bind_eq_some_iff.mp h
theorem wo_step {f o t i c : Nat} {z : Int32} {σ σ' : xS2} (h5 : σ.1 8 5 = nI c) (hc : c ≤ 121) (hi : i < c) (h11 : σ.1 11 i = z) (h1 : ¬ z = -59) (h2 : ¬ z = -63) (hs : J_X2_step z o (nI t) σ = some σ') :
    J_X2_workOut_11 (f + 1) o (nI t) false (nI i) σ = J_X2_workOut_11 f o (nI t) false (nI (i + 1)) σ' := by
  rw [E_X2_workOut_11, h5, if_neg (c_nle (a := c) (b := i) (by omega) (by omega) hi), c_xin (by omega) (by decide), xgd_t, nI_c (by omega), h11, if_neg h1, if_pos xb_f, if_neg h2, hs, Option.bind_some]
  unfold J_X2_workOut_90
  rw [nI_1]
theorem wo_skip {f o t i c : Nat} {z : Int32} {σ : xS2} (h5 : σ.1 8 5 = nI c) (hc : c ≤ 121) (hi : i < c) (h11 : σ.1 11 i = z) (h1 : ¬ z = -59) :
    J_X2_workOut_11 (f + 1) o (nI t) true (nI i) σ = J_X2_workOut_11 f o (nI t) true (nI (i + 1)) σ := by
  rw [E_X2_workOut_11, h5, if_neg (c_nle (a := c) (b := i) (by omega) (by omega) hi), c_xin (by omega) (by decide), xgd_t, nI_c (by omega), h11, if_neg h1, if_neg xb_nt]
  unfold J_X2_workOut_90
  rw [nI_1]
theorem wo_end {f o t i c : Nat} {σ : xS2} (h5 : σ.1 8 5 = nI c) (hc : c ≤ 121) (hi : i < c) (h11 : σ.1 11 i = -59) (h6 : σ.1 8 6 = nI 1) :
    J_X2_workOut_11 (f + 1) o (nI t) false (nI i) σ = some (σ.1 12 0, yI σ 8 6 (nI 0)) := by
  rw [E_X2_workOut_11, h5, if_neg (c_nle (a := c) (b := i) (by omega) (by omega) hi), c_xin (by omega) (by decide), xgd_t, nI_c (by omega), h11, if_pos rfl, if_pos xb_f, cl_pop (n := 0) h6 (by decide), Option.bind_some]
theorem wo_over {f o t i c : Nat} {σ : xS2} (h5 : σ.1 8 5 = nI c) (hc : c ≤ 121) (hi : i < c) (h11 : σ.1 11 i = -59) :
    J_X2_workOut_11 (f + 1) o (nI t) true (nI i) σ = J_X2_workOut_11 f o (nI t) false (nI (i + 1)) σ := by
  rw [E_X2_workOut_11, h5, if_neg (c_nle (a := c) (b := i) (by omega) (by omega) hi), c_xin (by omega) (by decide), xgd_t, nI_c (by omega), h11, if_pos rfl, if_neg xb_nt]
  unfold J_X2_workOut_90
  rw [nI_1]
theorem wo_test {f o t i c : Nat} {σ : xS2} (h5 : σ.1 8 5 = nI c) (hc : c ≤ 121) (hi : i < c) (h11 : σ.1 11 i = -63) (h6 : σ.1 8 6 = nI 1) :
    J_X2_workOut_11 (f + 1) o (nI t) false (nI i) σ = if σ.1 12 0 = 0 then J_X2_workOut_11 f o (nI t) true (nI (i + 1)) (yI σ 8 6 (nI 0)) else J_X2_workOut_11 f o (nI t) false (nI (i + 1)) (yI σ 8 6 (nI 0)) := by
  rw [E_X2_workOut_11, h5, if_neg (c_nle (a := c) (b := i) (by omega) (by omega) hi), c_xin (by omega) (by decide), xgd_t, nI_c (by omega), h11, if_neg (by decide), if_pos xb_f, if_pos rfl, cl_pop (n := 0) h6 (by decide), Option.bind_some]
  unfold J_X2_workOut_76 J_X2_workOut_90
  rw [nI_1]
theorem wo_skips {o t c : Nat} {σ : xS2} (h5 : σ.1 8 5 = nI c) (hc : c ≤ 121) : ∀ (l : List Int32) (n m i f : Nat), xDps l n = some m → i + l.length ≤ c → (∀ k z, l[k]? = some z → σ.1 11 (i + k) = z) →
    J_X2_workOut_11 (f + l.length) o (nI t) true (nI i) σ = J_X2_workOut_11 f o (nI t) true (nI (i + l.length)) σ := by
  intro l
  induction l with
  | nil => intro n m i f _ _ _; rfl
  | cons z r ih =>
    intro n m i f hd hi h
    obtain ⟨k, hz, hr⟩ := xDps_c hd
    rw [List.length_cons] at hi
    have e := ih k m (i + 1) f hr (by omega) (fun k z hk => by
      have := h (k + 1) z hk
      rw [← this, Nat.add_assoc, Nat.add_comm 1 k])
    rw [List.length_cons, ← Nat.add_assoc, wo_skip h5 hc (by omega) (show σ.1 11 i = z from h 0 z rfl) (xDp_ne hz).1, e, Nat.add_assoc, Nat.add_comm 1]
theorem ev_list {o t c E : Nat} (ho : o ≠ 8) (ho2 : o ≠ 12) (hc : c ≤ 121) (hE : E ≤ 130) : ∀ (l : List Int32) (n m i j : Nat) (σ μ : xS2), xDps l n = some m → n + l.length ≤ 121 → i + l.length ≤ c → j + l.length ≤ E → σ.1 8 5 = nI c → xRk σ μ n → xEv o t σ (μ.1 60) →
    (∀ k z, l[k]? = some z → σ.1 11 (i + k) = z) → (∀ k z, l[k]? = some z → μ.1 55 (j + k) = (xSt z).1 ∧ μ.1 56 (j + k) = (xSt z).2) →
    ∃ σ' μ', (∀ f, J_X2_workOut_11 (f + l.length) o (nI t) false (nI i) σ = J_X2_workOut_11 f o (nI t) false (nI (i + l.length)) σ') ∧ (∀ f, J_X9_worked_12 (f + l.length) 0 (nI E) (nI n) (nI j) μ = J_X9_worked_12 f 0 (nI E) (nI m) (nI (j + l.length)) μ') ∧
      xRk σ' μ' m ∧ xFr [(12, 99), (8, 6)] σ σ' ∧ xFr [(61, 99)] μ μ' := by
  intro l
  induction l with
  | nil =>
    intro n m i j σ μ hd _ _ _ _ hR _ _ _
    obtain rfl : n = m := Option.some.inj hd
    exact ⟨σ, μ, fun _ => rfl, fun _ => rfl, hR, xFr_rf, xFr_rf⟩
  | cons z r ih =>
    intro n m i j σ μ hd hn hi hj h5 hR hev h11 h55
    obtain ⟨k, hz, hr⟩ := xDps_c hd
    rw [List.length_cons] at hn hi hj
    obtain ⟨σ1, μ1, e1, e2, hR1, hk, fm⟩ := ev_step hz (by omega) (show j < E by omega) hE hR hev (h55 0 z rfl).1 (h55 0 z rfl).2
    have fs := F_X2_step e1
    obtain ⟨σ2, μ2, e3, e4, hR2, fs2, fm2⟩ := ih k m (i + 1) (j + 1) σ1 μ1 hr (by omega) (by omega) (by omega) ((fs 8 5 rfl).1.trans h5) hR1 (xEv_fr ho ho2 hev fs (fun q _ => (fm 60 q rfl).1))
      (fun q z hq => by
        have := h11 (q + 1) z hq
        rw [(fs 11 _ rfl).1, ← this, Nat.add_assoc, Nat.add_comm 1 q])
      (fun q z hq => by
        have := h55 (q + 1) z hq
        rw [(fm 55 _ rfl).1, (fm 56 _ rfl).1, Nat.add_assoc, Nat.add_comm 1 q]
        exact this)
    refine ⟨σ2, μ2, fun f => ?_, fun f => ?_, hR2, xFr_tq fs fs2, xFr_tq fm fm2⟩
    · rw [List.length_cons, ← Nat.add_assoc, wo_step h5 hc (by omega) (show σ.1 11 i = z from h11 0 z rfl) (xDp_ne hz).1 (xDp_ne hz).2 e1, e3, Nat.add_assoc, Nat.add_comm 1]
    · rw [List.length_cons, ← Nat.add_assoc, e2, e4, Nat.add_assoc, Nat.add_comm 1]
/-- an expression, from an empty stack: class up to the code behind it, the reference's worked() -/
theorem ev_one {o t c i j E : Nat} {l : List Int32} {σ μ : xS2} (ho : o ≠ 8) (ho2 : o ≠ 12) (hc : c ≤ 121) (hl : xOne l) (hi : i + l.length ≤ c) (hj : E = j + l.length) (hE : E ≤ 121) (h5 : σ.1 8 5 = nI c) (h6 : σ.1 8 6 = nI 0) (hev : xEv o t σ (μ.1 60))
    (h11 : ∀ k z, l[k]? = some z → σ.1 11 (i + k) = z) (h55 : ∀ k z, l[k]? = some z → μ.1 55 (j + k) = (xSt z).1 ∧ μ.1 56 (j + k) = (xSt z).2) :
    ∃ σ' μ', (∀ f, J_X2_workOut_11 (f + l.length) o (nI t) false (nI i) σ = J_X2_workOut_11 f o (nI t) false (nI (i + l.length)) σ') ∧ J_X9_worked 0 (nI j) (nI E) μ = some (σ'.1 12 0, μ') ∧ σ'.1 8 6 = nI 1 ∧ xFr [(12, 99), (8, 6)] σ σ' ∧ xFr [(61, 99)] μ μ' := by
  obtain ⟨σ', μ', e1, e2, hR, f1, f2⟩ := ev_list (E := E) ho ho2 hc (by omega) l 0 1 i j σ μ (hl.2 0) (by omega) hi (by omega) h5 ⟨h6, fun i hi => absurd hi (Nat.not_lt_zero i)⟩ hev h11 h55
  refine ⟨σ', μ', e1, ?_, hR.1, f1, f2⟩
  obtain ⟨f, hf⟩ : ∃ f, xFU = f + 1 + l.length := ⟨1999 - l.length, by show 2000 = _; omega⟩
  unfold J_X9_worked
  have e0 : (130 : Int32) * 0 + nI j = nI j := by rw [Int32.mul_zero, Int32.zero_add]
  have e00 : (130 : Int32) * 0 + nI E = nI E := by rw [Int32.mul_zero, Int32.zero_add]
  rw [e0, hf]
  show J_X9_worked_12 (f + 1 + l.length) 0 (nI E) (nI 0) (nI j) μ = _
  rw [e2, ← hj, E_X9_worked_12, e00, if_pos (c_le (by omega) (by omega) (Nat.le_refl E)), hR.2 0 (by decide)]
theorem gv_head {G first l T s e : Nat} {μ : xS2} (hl : l < T) (hT : T ≤ 61) (h57 : μ.1 57 0 = nI T) (h58 : μ.1 58 l = nI s) (h59 : μ.1 59 l = nI e) : J_X9_gives_7 (G + 1) 0 (nI first) (nI l) μ =
    if nI s = nI first then (J_X9_worked 0 (nI s) (nI e) μ).bind (fun x7 => some (x7.1, x7.2)) else (J_X9_worked 0 (nI first) (nI s) μ).bind fun x9 => if x9.1 = 0 then J_X9_gives_7 G 0 (x9.2.1 59 l) (nI (l + 1)) x9.2 else J_X9_gives_47 0 (nI l) x9.2 := by
  have e0 : (61 : Int32) * 0 + nI T = nI T := by rw [Int32.mul_zero, Int32.zero_add]
  have hT57 : μ.1 57 (0 : Int32).toNatClampNeg = nI T := h57
  rw [E_X9_gives_7, show xin (0 : Int32) 2 = true from by decide, xgd_t, hT57, e0, if_neg (c_nle (a := T) (b := l) (by omega) (by omega) hl), c_xin (by omega) (by decide), xgd_t, xgd_t, nI_c (by omega), h58]
  unfold J_X9_gives_47
  rw [c_xin (by omega) (by decide), xgd_t, xgd_t, nI_c (by omega), h58, h59]
  simp only [xgd_t, nI_1]
theorem gv_47 {l s e : Nat} {μ : xS2} (hl : l < 61) (h58 : μ.1 58 l = nI s) (h59 : μ.1 59 l = nI e) : J_X9_gives_47 0 (nI l) μ = (J_X9_worked 0 (nI s) (nI e) μ).bind (fun x7 => some (x7.1, x7.2)) := by
  unfold J_X9_gives_47
  rw [c_xin (by omega) (by decide), xgd_t, xgd_t, nI_c (by omega), h58, h59]
theorem ev_lines {o t c T : Nat} (ho : o ≠ 8) (ho2 : o ≠ 12) (hc : c ≤ 121) (hT : T ≤ 61) : ∀ (P : List xLn) (i first l F G : Nat) (σ μ : xS2), (∀ q ∈ P, (∀ t, q.1 = some t → xOne t) ∧ xOne q.2) → (xCd P).length < F → P.length < G → c = i + (xCd P).length → T = l + P.length → first + (xSp P).length ≤ 121 →
    σ.1 8 5 = nI c → σ.1 8 6 = nI 0 → μ.1 57 0 = nI T → xEv o t σ (μ.1 60) → (∀ k z, (xCd P)[k]? = some z → σ.1 11 (i + k) = z) → (∀ k z, (xSp P)[k]? = some z → μ.1 55 (first + k) = (xSt z).1 ∧ μ.1 56 (first + k) = (xSt z).2) →
    (∀ k q, (xEnds first P)[k]? = some q → μ.1 58 (l + k) = nI q.1 ∧ μ.1 59 (l + k) = nI q.2) →
    ∃ v σ' μ', J_X2_workOut_11 F o (nI t) false (nI i) σ = some (v, σ') ∧ J_X9_gives_7 G 0 (nI first) (nI l) μ = some (v, μ') := by
  intro P
  induction P with
  | nil =>
    intro i first l F G σ μ _ hF hG hci hTl _ h5 h6 h57 _ _ _ _
    obtain ⟨F, rfl⟩ : ∃ k, F = k + 1 := ⟨F - 1, by omega⟩
    obtain ⟨G, rfl⟩ : ∃ k, G = k + 1 := ⟨G - 1, by omega⟩
    refine ⟨0, σ, μ, ?_, ?_⟩
    · rw [E_X2_workOut_11, h5, hci]
      exact if_pos (c_le (by omega) (by show i + 0 < _; omega) (Nat.le_refl i))
    · have e0 : (61 : Int32) * 0 + nI T = nI T := by rw [Int32.mul_zero, Int32.zero_add]
      have hT57 : μ.1 57 (0 : Int32).toNatClampNeg = nI T := h57
      rw [E_X9_gives_7, show xin (0 : Int32) 2 = true from by decide, xgd_t, hT57, e0, if_pos (c_le (by omega) (by omega) (by show T ≤ l; rw [hTl]; exact Nat.le_refl l))]
  | cons q r ih =>
    intro i first l F G σ μ hq hF hG hci hTl hsp h5 h6 h57 hev h11 h55 hen
    obtain ⟨tt, b⟩ := q
    have hq0 : (∀ t, tt = some t → xOne t) ∧ xOne b := hq (tt, b) (List.mem_cons_self ..)
    obtain ⟨ht, hb⟩ := hq0
    rw [List.length_cons] at hG hTl
    cases tt with
    | none =>
      have hcd : xCd ((none, b) :: r) = b ++ (-59 : Int32) :: xCd r := rfl
      have hsp1 : xSp ((none, b) :: r) = b ++ xSp r := rfl
      rw [hcd, List.length_append, List.length_cons] at hF hci
      rw [hsp1, List.length_append] at hsp
      have h58 : μ.1 58 l = nI first := (hen 0 (first + 0, first + 0 + b.length) rfl).1
      have h59 : μ.1 59 l = nI (first + b.length) := (hen 0 (first + 0, first + 0 + b.length) rfl).2
      obtain ⟨σ1, μ1, e1, e2, e6, f1, f2⟩ := ev_one (E := first + b.length) (i := i) (j := first) ho ho2 hc hb (by omega) rfl (by omega) h5 h6 hev (fun k z hk => h11 k z (ap_l hk)) (fun k z hk => h55 k z (ap_l hk))
      obtain ⟨F, rfl⟩ : ∃ k, F = k + 1 + b.length := ⟨F - 1 - b.length, by omega⟩
      obtain ⟨G, rfl⟩ : ∃ k, G = k + 1 := ⟨G - 1, by omega⟩
      refine ⟨σ1.1 12 0, yI σ1 8 6 (nI 0), μ1, ?_, ?_⟩
      · have m11 : σ.1 11 (i + b.length) = -59 := h11 (b.length + 0) (-59) (by rw [hcd]; exact ap_r rfl)
        rw [e1, wo_end (c := c) ((f1 8 5 rfl).1.trans h5) hc (by omega) ((f1 11 _ rfl).1.trans m11) e6]
      · rw [gv_head (s := first) (e := first + b.length) (by omega) hT h57 h58 h59, if_pos rfl, e2, Option.bind_some]
    | some tt =>
      have htt := ht tt rfl
      have hcd : xCd ((some tt, b) :: r) = tt ++ (-63 : Int32) :: (b ++ (-59 : Int32) :: xCd r) := rfl
      have hsp1 : xSp ((some tt, b) :: r) = tt ++ b ++ xSp r := rfl
      have htl : 0 < tt.length := List.length_pos_iff.mpr htt.1
      rw [hcd, List.length_append, List.length_cons, List.length_append, List.length_cons] at hF hci
      rw [hsp1, List.length_append, List.length_append] at hsp
      have h58 : μ.1 58 l = nI (first + tt.length) := (hen 0 (first + tt.length, first + tt.length + b.length) rfl).1
      have h59 : μ.1 59 l = nI (first + tt.length + b.length) := (hen 0 (first + tt.length, first + tt.length + b.length) rfl).2
      obtain ⟨σ1, μ1, e1, e2, e6, f1, f2⟩ := ev_one (E := first + tt.length) (i := i) (j := first) ho ho2 hc htt (by omega) rfl (by omega) h5 h6 hev (fun k z hk => h11 k z (ap_l hk)) (fun k z hk => h55 k z (by rw [hsp1]; exact ap_l (ap_l hk)))
      obtain ⟨F, rfl⟩ : ∃ k, F = k + 1 + tt.length := ⟨F - 1 - tt.length, by omega⟩
      obtain ⟨G, rfl⟩ : ∃ k, G = k + 1 := ⟨G - 1, by omega⟩
      have m11 : σ1.1 11 (i + tt.length) = -63 := (f1 11 _ rfl).1.trans (h11 (tt.length + 0) (-63) (by rw [hcd]; exact ap_r rfl))
      have k1 : J_X2_workOut_11 (F + 1 + tt.length) o (nI t) false (nI i) σ = if σ1.1 12 0 = 0 then J_X2_workOut_11 F o (nI t) true (nI (i + tt.length + 1)) (yI σ1 8 6 (nI 0)) else J_X2_workOut_11 F o (nI t) false (nI (i + tt.length + 1)) (yI σ1 8 6 (nI 0)) := by
        rw [e1, wo_test (c := c) ((f1 8 5 rfl).1.trans h5) hc (by omega) m11 e6]
      have ne : ¬ nI (first + tt.length) = nI first := c_ne (by omega) (by omega) (by omega)
      have f1' : xFr [(12, 99), (8, 6)] σ (yI σ1 8 6 (nI 0)) := xFr_yI f1 rfl
      have hb11 : ∀ k z, b[k]? = some z → (yI σ1 8 6 (nI 0)).1 11 (i + tt.length + 1 + k) = z := fun k z hk => by
        have := h11 (tt.length + (k + 1)) z (by rw [hcd]; exact ap_r (cons_s (ap_l hk)))
        rw [(f1' 11 _ rfl).1, show i + tt.length + 1 + k = i + (tt.length + (k + 1)) by omega]
        exact this
      have h59c : (yI σ1 8 6 (nI 0)).1 11 (i + tt.length + 1 + b.length) = -59 := by
        have := h11 (tt.length + (b.length + 0 + 1)) (-59) (by rw [hcd]; exact ap_r (cons_s (ap_r (k := 0) rfl)))
        rw [(f1' 11 _ rfl).1, show i + tt.length + 1 + b.length = i + (tt.length + (b.length + 0 + 1)) by omega]
        exact this
      rw [gv_head (s := first + tt.length) (e := first + tt.length + b.length) (by omega) hT h57 h58 h59, if_neg ne, e2, Option.bind_some]
      show ∃ v σ' μ', _ = _ ∧ (if σ1.1 12 0 = 0 then _ else _) = _
      have hev1 : xEv o t (yI σ1 8 6 (nI 0)) (μ1.1 60) := xEv_fr ho ho2 hev f1' (fun q _ => (f2 60 q rfl).1)
      have h51 : (yI σ1 8 6 (nI 0)).1 8 5 = nI c := (f1' 8 5 rfl).1.trans h5
      by_cases z : σ1.1 12 0 = 0
      · rw [if_pos z] at k1 ⊢
        rw [show μ1.1 59 l = nI (first + tt.length + b.length) from (f2 59 l rfl).1.trans h59]
        obtain ⟨F, rfl⟩ : ∃ k, F = k + 1 + b.length := ⟨F - 1 - b.length, by omega⟩
        have k2 : J_X2_workOut_11 (F + 1 + b.length) o (nI t) true (nI (i + tt.length + 1)) (yI σ1 8 6 (nI 0)) = J_X2_workOut_11 F o (nI t) false (nI (i + tt.length + 1 + b.length + 1)) (yI σ1 8 6 (nI 0)) := by
          rw [wo_skips h51 hc b 0 1 (i + tt.length + 1) (F + 1) (hb.2 0) (by omega) hb11, wo_over (c := c) h51 hc (by omega) h59c]
        obtain ⟨v, σ', μ', r1, r2⟩ := ih (i + tt.length + 1 + b.length + 1) (first + tt.length + b.length) (l + 1) F G (yI σ1 8 6 (nI 0)) μ1 (fun q hqr => hq q (List.mem_cons_of_mem _ hqr)) (by omega) (by omega) (by omega) (by omega) (by omega) h51 rfl ((f2 57 0 rfl).1.trans h57) hev1
          (fun k z hk => by
            have := h11 (tt.length + (b.length + (k + 1) + 1)) z (by rw [hcd]; exact ap_r (cons_s (ap_r (cons_s hk))))
            rw [(f1' 11 _ rfl).1, show i + tt.length + 1 + b.length + 1 + k = i + (tt.length + (b.length + (k + 1) + 1)) by omega]
            exact this)
          (fun k z hk => by
            have := h55 (tt.length + b.length + k) z (by rw [hsp1]; rw [← List.length_append]; exact ap_r hk)
            rw [(f2 55 _ rfl).1, (f2 56 _ rfl).1, show first + tt.length + b.length + k = first + (tt.length + b.length + k) by omega]
            exact this)
          (fun k q hk => by
            have := hen (k + 1) q hk
            rw [(f2 58 _ rfl).1, (f2 59 _ rfl).1, show l + 1 + k = l + (k + 1) by omega]
            exact this)
        exact ⟨v, σ', μ', k1.trans (k2.trans r1), r2⟩
      · rw [if_neg z] at k1 ⊢
        obtain ⟨σ2, μ2, e3, e4, e5, f3, f4⟩ := ev_one (E := first + tt.length + b.length) (i := i + tt.length + 1) (j := first + tt.length) (σ := yI σ1 8 6 (nI 0)) (μ := μ1) ho ho2 hc hb (by omega) rfl (by omega) h51 rfl hev1 hb11
          (fun k z hk => by
            have := h55 (tt.length + k) z (by rw [hsp1]; exact ap_l (ap_r hk))
            rw [(f2 55 _ rfl).1, (f2 56 _ rfl).1, Nat.add_assoc]
            exact this)
        obtain ⟨F, rfl⟩ : ∃ k, F = k + 1 + b.length := ⟨F - 1 - b.length, by omega⟩
        refine ⟨σ2.1 12 0, yI σ2 8 6 (nI 0), μ2, ?_, ?_⟩
        · rw [k1, e3, wo_end (c := c) ((f3 8 5 rfl).1.trans h51) hc (by omega) ((f3 11 _ rfl).1.trans h59c) e5]
        · rw [gv_47 (s := first + tt.length) (e := first + tt.length + b.length) (by omega) ((f2 58 _ rfl).1.trans h58) ((f2 59 _ rfl).1.trans h59), e4, Option.bind_some]
