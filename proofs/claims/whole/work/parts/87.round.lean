/-! round: the reference's tables; the step. -/
theorem col_107 {m s c : Nat} {st d : Nat → Nat} {a1 : Int32} {k89 : Int32 → Int32 → Int32 → xS2 → Option (Int32 × xS2)} (hm : m ≤ 5) (hst : ∀ a, a < m → st a < 36) (hs : s < m) (hc : c < 36) : ∀ (q a f : Nat) (μ : xS2), a + q = m → q < f → (∀ j, j < m → μ.1 65 j = nI (st j)) → μ.1 43 8 = nI c → xLf 62 d μ →
    ∃ μ', J_X9_round_107 k89 f a1 (nI m) (nI s) (nI a) μ = k89 a1 (nI m) (nI (s + 1)) μ' ∧ (∀ b, a ≤ b → b < m → μ'.1 66 (b * 5 + s) = nI (d (st b))) ∧ μ'.1 66 (25 + s) = nI (d c) ∧ (∀ x, (∀ b, a ≤ b → b < m → x ≠ b * 5 + s) → x ≠ 25 + s → μ'.1 66 x = μ.1 66 x) ∧ xFr [(66, 99)] μ μ' := by
  intro q
  induction q with
  | zero =>
    intro a f μ ha hf h65 h8 hd
    obtain ⟨f, rfl⟩ : ∃ z, f = z + 1 := ⟨f - 1, by omega⟩
    obtain rfl : a = m := by omega
    have e25 : (25 : Int32) + nI s = nI (25 + s) := nI_add 25 s
    refine ⟨yI μ 66 (25 + s) (nI (d c)), ?_, fun b h1 h2 => by omega, ?_, fun x _ hx => ?_, xFr_yI xFr_rf rfl⟩
    · rw [E_X9_round_107, if_pos (c_le (by omega) (by omega) (Nat.le_refl _)), h8, c_xin hc (by decide), xgd_t, e25, c_xin (by omega) (by decide), xgd_t, nI_c (by omega), nI_c (by omega), hd c hc, nI_1]
    · show (if 25 + s = 25 + s then _ else _) = _
      rw [if_pos rfl]
    · show (if x = 25 + s then _ else μ.1 66 x) = _
      rw [if_neg hx]
  | succ q ih =>
    intro a f μ ha hf h65 h8 hd
    obtain ⟨f, rfl⟩ : ∃ z, f = z + 1 := ⟨f - 1, by omega⟩
    have ham : a < m := by omega
    have hsa := hst a ham
    have e5 : (5 : Int32) * nI a + nI s = nI (a * 5 + s) := by rw [Int32.mul_comm, show (5 : Int32) = nI 5 from rfl, nI_mul, nI_add]
    obtain ⟨μ', r1, r2, r3, r4, r5⟩ := ih (a + 1) f (yI μ 66 (a * 5 + s) (nI (d (st a)))) (by omega) (by omega) h65 h8 hd
    refine ⟨μ', ?_, fun b h1 h2 => ?_, r3, fun x hx hx2 => ?_, xFr_tq (xFr_yI xFr_rf rfl) r5⟩
    · rw [E_X9_round_107, if_neg (c_nle (by omega) (by omega) ham), c_xin (by omega) (by decide), xgd_t, nI_c (n := a) (by omega), h65 a ham, c_xin hsa (by decide), xgd_t, e5, c_xin (by omega) (by decide), xgd_t, nI_c (n := a * 5 + s) (by omega), nI_c (by omega), hd _ hsa, nI_1]
      exact r1
    · by_cases e : b = a
      · subst e
        rw [r4 (b * 5 + s) (fun y h3 h4 => by omega) (by omega)]
        show (if b * 5 + s = b * 5 + s then _ else _) = _
        rw [if_pos rfl]
      · exact r2 b (by omega) h2
    · rw [r4 x (fun b h1 h2 => hx b (by omega) h2) hx2]
      show (if x = a * 5 + s then _ else μ.1 66 x) = _
      rw [if_neg (hx a (Nat.le_refl _) ham)]
theorem xPrr_fr {μ ρ : xS2} {pr : Nat → Nat → Nat} {l : List (Nat × Nat)} (h : xPrr μ pr) (f : xFr l μ ρ) (d : xDj zrP l = true) : xPrr ρ pr :=
  ⟨h.1, fun a b ha hb => by rw [(f 43 5 (xDj_not d rfl)).1, (f 44 a (xDj_not d rfl)).1, (f 44 b (xDj_not d rfl)).1]; exact h.2 a b ha hb⟩
theorem row_89 {m c : Nat} {st : Nat → Nat} {a1 : Int32} {pr : Nat → Nat → Nat} {D : Nat → Nat → Nat} {N : Nat → Nat} (hA : xAd pr D N) (hm : m ≤ 5) (hst : ∀ a, a < m → st a < 36) (hc : c < 36) : ∀ (q s f : Nat) (μ : xS2), s + q = m → q < f → xPrr μ pr → (∀ j, j < m → μ.1 65 j = nI (st j)) → μ.1 43 8 = nI c →
    (∀ t, t < s → (∀ b, b < m → μ.1 66 (b * 5 + t) = nI (D (st t) (st b))) ∧ μ.1 66 (25 + t) = nI (D (st t) c)) →
    ∃ μ', J_X9_round_89 f a1 (nI m) (nI s) μ = J_X9_round_168 xFU a1 (nI m) 0 μ' ∧ (∀ t, t < m → (∀ b, b < m → μ'.1 66 (b * 5 + t) = nI (D (st t) (st b))) ∧ μ'.1 66 (25 + t) = nI (D (st t) c)) ∧ xFr [(62, 99), (66, 99)] μ μ' := by
  intro q
  induction q with
  | zero =>
    intro s f μ hs hf hp h65 h8 h
    obtain ⟨f, rfl⟩ : ∃ z, f = z + 1 := ⟨f - 1, by omega⟩
    obtain rfl : s = m := by omega
    exact ⟨μ, by rw [E_X9_round_89, if_pos (c_le (by omega) (by omega) (Nat.le_refl _))], h, xFr_rf⟩
  | succ q ih =>
    intro s f μ hs hf hp h65 h8 h
    obtain ⟨f, rfl⟩ : ∃ z, f = z + 1 := ⟨f - 1, by omega⟩
    have hsm : s < m := by omega
    have hss := hst s hsm
    obtain ⟨d1, b1⟩ := hA.1 _ hss
    obtain ⟨μ1, e1, l1, f1⟩ := far_dist hss hp d1 b1
    obtain ⟨μ2, r1, r2, r3, r4, r5⟩ := col_107 (k89 := J_X9_round_89 f) (a1 := a1) (d := D (st s)) hm hst hsm hc m 0 xFU μ1 (by omega) (by show m < 2000; omega) (fun j hj => (f1 65 j rfl).1.trans (h65 j hj)) ((f1 43 8 rfl).1.trans h8) l1
    have f12 : xFr [(62, 99), (66, 99)] μ μ2 := xFr_tr (xFr_wk f1 (by decide)) r5 (by decide)
    have k1 : J_X9_round_89 (f + 1) a1 (nI m) (nI s) μ = J_X9_round_89 f a1 (nI m) (nI (s + 1)) μ2 := by
      rw [E_X9_round_89, if_neg (c_nle (by omega) (by omega) hsm), c_xin (by omega) (by decide), xgd_t, nI_c (by omega), h65 s hsm, e1, Option.bind_some]
      exact r1
    rw [k1]
    obtain ⟨μ', t1, t2, t3⟩ := ih (s + 1) f μ2 (by omega) (by omega) (xPrr_fr hp f12 (by decide)) (fun j hj => (f12 65 j rfl).1.trans (h65 j hj)) ((f12 43 8 rfl).1.trans h8) (fun t ht => by
      by_cases e : t = s
      · subst e
        exact ⟨fun b hb => r2 b (Nat.zero_le _) hb, r3⟩
      · have g66 : ∀ x, (∀ b, b < m → x ≠ b * 5 + s) → x ≠ 25 + s → μ2.1 66 x = μ.1 66 x := fun x hx hx2 => (r4 x (fun b _ hb => hx b hb) hx2).trans (f1 66 x rfl).1
        obtain ⟨q1, q2⟩ := h t (by omega)
        refine ⟨fun b hb => ?_, ?_⟩
        · rw [g66 (b * 5 + t) (fun y hy => by omega) (by omega)]; exact q1 b hb
        · rw [g66 (25 + t) (fun y hy => by omega) (by omega)]; exact q2)
    exact ⟨μ', t1, t2, xFr_tq f12 t3⟩
theorem row_168 {m : Nat} {st : Nat → Nat} {a1 : Int32} {pr : Nat → Nat → Nat} {D : Nat → Nat → Nat} {N : Nat → Nat} (hA : xAd pr D N) (hm : m ≤ 5) (hst : ∀ a, a < m → st a < 36) : ∀ (q s f : Nat) (μ : xS2), s + q = m → q < f → xPrr μ pr → (∀ j, j < m → μ.1 65 j = nI (st j)) → (∀ t, t < s → μ.1 67 t = nI (N (st t))) →
    ∃ μ', J_X9_round_168 f a1 (nI m) (nI s) μ = (J_X9_goRound (nI m) (0 : Int32) (-1 : Int32) (0 : Int32) (-1 : Int32) (yI (yI μ' 43 44 (nI 1000000)) 43 45 (nI 36))).bind (fun x7 => if a1 = 0 then some ((x7.1 43 44), x7) else some ((x7.1 43 45), x7)) ∧ (∀ t, t < m → μ'.1 67 t = nI (N (st t))) ∧ xFr [(62, 99), (67, 99)] μ μ' := by
  intro q
  induction q with
  | zero =>
    intro s f μ hs hf hp h65 h
    obtain ⟨f, rfl⟩ : ∃ z, f = z + 1 := ⟨f - 1, by omega⟩
    obtain rfl : s = m := by omega
    refine ⟨μ, ?_, h, xFr_rf⟩
    rw [E_X9_round_168, if_pos (c_le (by omega) (by omega) (Nat.le_refl _))]
    rfl
  | succ q ih =>
    intro s f μ hs hf hp h65 h
    obtain ⟨f, rfl⟩ : ∃ z, f = z + 1 := ⟨f - 1, by omega⟩
    have hsm : s < m := by omega
    obtain ⟨μ1, e1, f1⟩ := to_north hA (hst s hsm) hp
    have f12 : xFr [(62, 99), (67, 99)] μ (yI μ1 67 s (nI (N (st s)))) := xFr_yI (xFr_wk f1 (by decide)) rfl
    have k1 : J_X9_round_168 (f + 1) a1 (nI m) (nI s) μ = J_X9_round_168 f a1 (nI m) (nI (s + 1)) (yI μ1 67 s (nI (N (st s)))) := by
      rw [E_X9_round_168, if_neg (c_nle (by omega) (by omega) hsm), c_xin (by omega) (by decide), xgd_t, nI_c (by omega), h65 s hsm, e1, Option.bind_some, xgd_t, nI_1]
    rw [k1]
    obtain ⟨μ', t1, t2, t3⟩ := ih (s + 1) f (yI μ1 67 s (nI (N (st s)))) (by omega) (by omega) (xPrr_fr hp f12 (by decide)) (fun j hj => (f12 65 j rfl).1.trans (h65 j hj)) (fun t ht => by
      show (if t = s then _ else μ1.1 67 t) = _
      by_cases e : t = s
      · rw [if_pos e, e]
      · rw [if_neg e, (f1 67 t rfl).1]; exact h t (by omega))
    exact ⟨μ', t1, t2, xFr_tq f12 t3⟩
def xRoK (a1 : Int32) (x3 : Bool × xS2) : Option (Int32 × xS2) := if (xb x3.1) = 0 then some ((-5 : Int32), x3.2) else if a1 = 0 then some ((x3.2.1 13 6), x3.2) else if 0 ≤ (x3.2.1 13 7) then some ((x3.2.1 13 7), x3.2) else some ((-2 : Int32), x3.2)
theorem round_two {a1 : Int32} {pr : Nat → Nat → Nat} {D : Nat → Nat → Nat} {N : Nat → Nat} {σ μ : xS2} (hps : xPrs σ pr) (hA : xAd pr D N) (hp : xPl σ μ) (hct : xCt 3 σ μ) : ∃ r σ' μ', (J_X6_planRound 3 σ).bind (xRoK a1) = some (r, σ') ∧ J_X9_round_15 xFU a1 0 0 μ = some (r, μ') := by
  obtain ⟨c, s, d, hc, hs, hd, h0, h1, h2, m8, m9, m10, hl⟩ := hct
  have h := stones_loop (a1 := a1) 36 0 xFU xFU 0 (fun _ => 0) (yI σ 13 5 0) μ (by omega) (by show 36 < 2000; omega) (by show 36 < 2000; omega) (tw_P (l := [(13, 5)]) (l2 := []) (xFr_yI xFr_rf rfl) xFr_rf (by decide) (by decide) hp) hl ⟨by omega, rfl, fun j hj => absurd hj (Nat.not_lt_zero j), fun a b h1 h2 => absurd h2 (Nat.not_lt_zero b)⟩
  unfold J_X6_planRound
  have eL : J_X6_listStones 3 σ = J_X6_listStones_7 xFU 3 (nI 0) (yI σ 13 5 0) := rfl
  rw [eL]
  rcases h with ⟨σ1, μ1, e1, e2⟩ | ⟨m, st, σ1, μ1, e1, e2, ⟨q1, q2, q3, q4⟩, f1, f2⟩
  · have e2' : J_X9_round_15 xFU a1 0 0 μ = some (-5, μ1) := e2
    rw [e1, e2', Option.bind_some, if_pos xb_f, Option.bind_some]
    exact ⟨-5, _, _, rfl, rfl⟩
  · have e2' : J_X9_round_15 xFU a1 0 0 μ = (if nI m = 0 then (if a1 = 0 then (J_X9_toNorth (μ1.1 43 8) μ1).bind (fun x21 => some (x21.1, x21.2)) else some ((-2 : Int32), μ1)) else J_X9_round_89 xFU a1 (nI m) (0 : Int32) μ1) := e2
    have fs : xFr [(13, 5), (15, 99)] σ σ1 := xFr_tq (xFr_yI xFr_rf rfl) f1
    have hst : ∀ a, a < m → st a < 36 := fun a ha => (q3 a ha).1
    have hp1 : xPrs σ1 pr := xPrs_fr hps (fun k => (fs 2 k rfl).1)
    have hpr : xPrr μ1 pr := xPrr_of hp1 (tw_P fs f2 (by decide) (by decide) hp)
    have h8 : μ1.1 43 8 = nI c := (f2 43 8 rfl).1.trans m8
    obtain ⟨σ2, e3, h3⟩ := plan_eq (σ := σ1) hA q1 hst hc hp1 q2 (fun a ha => (q3 a ha).2.1) ((fs 3 0 rfl).1.trans h0)
    rw [e1, e2', Option.bind_some, if_neg xb_nt, e3, Option.bind_some]
    unfold xRoK
    rw [if_neg xb_nt]
    rcases h3 with ⟨rfl, g6, g7⟩ | ⟨k, hk, g6, g7⟩
    · obtain ⟨μ2, n1, -⟩ := to_north hA hc hpr
      rw [if_pos (show nI 0 = 0 from rfl), h8, n1, Option.bind_some]
      by_cases z : a1 = 0
      · rw [if_pos z, if_pos z]
        exact ⟨_, _, _, rfl, by rw [g6]⟩
      · rw [if_neg z, if_neg z]
        rw [show (σ2.1 13 7) = -1 from g7, if_neg (by decide)]
        exact ⟨_, _, _, rfl, rfl⟩
    · have hm0 : 0 < m := by have := hk.1; omega
      have hb : xBn m st (fun a b => D (st b) (st a)) (fun s => D (st s) c) N := ⟨by omega, fun a b ha hb => (hA.1 _ (hst b hb)).2 _ (hst a ha), fun a ha => (hA.1 _ (hst a ha)).2 _ hc, hA.2.2⟩
      obtain ⟨μ2, r1, r2, r3⟩ := row_89 (a1 := a1) hA q1 hst hc m 0 xFU μ1 (by omega) (by show m < 2000; omega) hpr (fun j hj => (q3 j hj).2.2) h8 (fun t ht => absurd ht (Nat.not_lt_zero t))
      obtain ⟨μ3, t1, t2, t3⟩ := row_168 (a1 := a1) hA q1 hst m 0 xFU μ2 (by omega) (by show m < 2000; omega) (xPrr_fr hpr r3 (by decide)) (fun j hj => (r3 65 j rfl).1.trans (q3 j hj).2.2) (fun t ht => absurd ht (Nat.not_lt_zero t))
      obtain ⟨k2, μ4, u1, u2, u3, u4⟩ := go_top (μ := yI (yI μ3 43 44 (nI 1000000)) 43 45 (nI 36)) hb hst hm0 (fun a b h1 h2 => q4 a b h1 h2)
        ⟨fun j hj => ⟨hst j hj, by show μ3.1 65 j = _; rw [(t3 65 j rfl).1, (r3 65 j rfl).1]; exact (q3 j hj).2.2⟩, fun a b ha hb => (by show μ3.1 66 (a * 5 + b) = _; rw [(t3 66 _ rfl).1]; exact (r2 b hb).1 a ha), fun a ha => (by show μ3.1 66 (25 + a) = _; rw [(t3 66 _ rfl).1]; exact (r2 a ha).2), fun a ha => t2 a ha⟩ rfl rfl
      obtain rfl := best_one hk u2
      have r1' : J_X9_round_89 xFU a1 (nI m) 0 μ1 = J_X9_round_168 xFU a1 (nI m) 0 μ2 := r1
      have t1' : J_X9_round_168 xFU a1 (nI m) 0 μ2 = (J_X9_goRound (nI m) (0 : Int32) (-1 : Int32) (0 : Int32) (-1 : Int32) (yI (yI μ3 43 44 (nI 1000000)) 43 45 (nI 36))).bind (fun x7 => if a1 = 0 then some ((x7.1 43 44), x7) else some ((x7.1 43 45), x7)) := t1
      rw [if_neg (nI_ne0 hm0 (by omega)), r1', t1', u1, Option.bind_some]
      by_cases z : a1 = 0
      · rw [if_pos z, if_pos z]
        exact ⟨_, _, _, rfl, by rw [u3, g6]⟩
      · rw [if_neg z, if_neg z]
        have hk36 := hst k hk.1
        rw [show σ2.1 13 7 = nI (st k) from g7, if_pos (nI_pos' (by omega))]
        exact ⟨_, _, _, rfl, by rw [u4]⟩
theorem step_round : xStep_round xIv := by
  intro a1 σ hI
  obtain ⟨hP, hC, hT, hK, hU, hF, hL, hS, hW⟩ := id hI
  cases h3 : J_X9_in a1 0 1 with
  | false => exact ⟨-1, σ, σ, by unfold J_X8_round; rw [X8_oneOf2, h3, if_pos xb_f], by unfold J_X9_round; rw [h3, if_pos xb_f], hI⟩
  | true =>
    obtain ⟨pr, hps⟩ := xPrs_of hP
    obtain ⟨D, N, hA⟩ := xAd_of hps
    obtain ⟨r, τ, -, e1, -⟩ := round_two (a1 := a1) hps hA (xPl_of hP) (xCt_3 hC)
    have k1 : J_X8_round a1 σ = some (r, τ) := by
      unfold J_X8_round
      rw [X8_oneOf2, h3, if_neg xb_nt]
      exact e1
    have f1 := F_X8_round k1
    obtain ⟨r2, τ2, ρ, e2, e3⟩ := round_two (a1 := a1) (σ := σ) (μ := τ) hps hA (tw_P (xFr_rf (l := [])) f1 (by decide) (by decide) (xPl_of hP)) (tw_C (xFr_rf (l := [])) f1 (by decide) (by decide) (xCt_3 hC))
    obtain ⟨rfl, rfl⟩ := xso2 (e2.symm.trans e1)
    have k2 : J_X9_round a1 τ2 = some (r2, ρ) := by
      unfold J_X9_round
      rw [h3, if_neg xb_nt]
      exact e3
    have f2 := F_X9_round k2
    exact ⟨r2, τ2, ρ, k1, k2, xIP_f f1 f2 (by decide) (by decide) hP, xIC_f f1 f2 (by decide) (by decide) hC, xIT_f f1 f2 (by decide) (by decide) hT, xIK_f f1 f2 (by decide) (by decide) hK, xIU_f f1 f2 (by decide) (by decide) hU, xIF_f f1 f2 (by decide) (by decide) hF, xIL_f f1 f2 (by decide) (by decide) hL, xIS_f f1 f2 (by decide) (by decide) hS, xIW_f f1 f2 (by decide) (by decide) hW⟩
