/-! round: the reference's orders. -/
def xUp (L F v f : Nat) : Nat × Nat := if L < v ∨ (v = L ∧ F < f) then (L, F) else (v, f)
theorem up_up {L F v w f : Nat} : xUp (xUp L F v f).1 (xUp L F v f).2 w f = xUp L F (min v w) f := by
  by_cases h1 : L < v ∨ (v = L ∧ F < f)
  · have e : xUp L F v f = (L, F) := if_pos h1
    rw [e]
    show xUp L F w f = _
    by_cases h2 : L < w ∨ (w = L ∧ F < f)
    · have e1 : xUp L F w f = (L, F) := if_pos h2
      have e2 : xUp L F (min v w) f = (L, F) := if_pos (by omega)
      rw [e1, e2]
    · rw [show min v w = w by omega]
  · have e : xUp L F v f = (v, f) := if_neg h1
    rw [e]
    show xUp v f w f = _
    by_cases h3 : v < w
    · have e1 : xUp v f w f = (v, f) := if_pos (Or.inl h3)
      rw [e1, show min v w = v by omega, e]
    · have e1 : xUp v f w f = (w, f) := if_neg (by omega)
      have e2 : xUp L F (min v w) f = (min v w, f) := if_neg (by omega)
      rw [e1, e2, show min v w = w by omega]
theorem up_bd {L F v f : Nat} (hF : F ≤ 36) (hf : f ≤ 36) : (xUp L F v f).1 ≤ L ∧ (xUp L F v f).2 ≤ 36 := by
  unfold xUp
  split
  · exact ⟨Nat.le_refl _, hF⟩
  · exact ⟨by show v ≤ L; omega, hf⟩
def xRr (m : Nat) (st : Nat → Nat) (B : Nat → Nat → Nat) (C dN : Nat → Nat) (μ : xS2) : Prop := (∀ j, j < m → st j < 36 ∧ μ.1 65 j = nI (st j)) ∧ (∀ a b, a < m → b < m → μ.1 66 (a * 5 + b) = nI (B a b)) ∧ (∀ a, a < m → μ.1 66 (25 + a) = nI (C a)) ∧ ∀ a, a < m → μ.1 67 a = nI (dN (st a))
theorem xRr_fr {m : Nat} {st : Nat → Nat} {B : Nat → Nat → Nat} {C dN : Nat → Nat} {μ ρ : xS2} (h : xRr m st B C dN μ) (f : xFr [(43, 44), (43, 45)] μ ρ) : xRr m st B C dN ρ :=
  ⟨fun j hj => ⟨(h.1 j hj).1, (f 65 j rfl).1.trans (h.1 j hj).2⟩, fun a b ha hb => (f 66 _ rfl).1.trans (h.2.1 a b ha hb), fun a ha => (f 66 _ rfl).1.trans (h.2.2.1 a ha), fun a ha => (f 67 a rfl).1.trans (h.2.2.2 a ha)⟩
theorem all_sub {m : Nat} (hm : m < 6) : nI (2 ^ m) - 1 = nI (2 ^ m - 1) := nI_sub1 (Nat.two_pow_pos m)
theorem sI {x : Option xS2} : (x.bind fun x => some x) = x := by cases x <;> rfl
theorem bud {sum B w e : Nat} (h : sum + 260 * (w + 1) ≤ 100000) (hB : B ≤ 260) (h1 : 0 < e) (h2 : e ≤ w) : sum + B + 260 * (w - e + 1) ≤ 100000 := by
  have h3 : 260 * (w - e + 1) ≤ 260 * w := Nat.mul_le_mul_left 260 (by omega)
  have h5 : sum + (260 * w + 260) ≤ 100000 := h
  refine Nat.le_trans (Nat.add_le_add (Nat.add_le_add_left hB sum) h3) ?_
  rw [Nat.add_assoc, Nat.add_comm 260 (260 * w)]
  exact h5
theorem go_eq {m : Nat} {st : Nat → Nat} {B : Nat → Nat → Nat} {C dN : Nat → Nat} (hb : xBn m st B C dN) (hst : ∀ a, a < m → st a < 36) : ∀ (W w n used i sum f L F : Nat) (μ : xS2), w < W → used + w = 2 ^ m - 1 → w < n → i < m → sum + 260 * (w + 1) ≤ 100000 → L ≤ 1000000 → F ≤ 36 → f ≤ 36 → xRr m st B C dN μ → μ.1 43 44 = nI L → μ.1 43 45 = nI F →
    ∃ μ', (G_X9_goRound n) (nI m) (nI used) (nI i) (nI sum) (nI f) μ = some μ' ∧ μ'.1 43 44 = nI (xUp L F (sum + xT B (fun j => dN (st j)) m w i) f).1 ∧ μ'.1 43 45 = nI (xUp L F (sum + xT B (fun j => dN (st j)) m w i) f).2 ∧ xFr [(43, 44), (43, 45)] μ μ' := by
  have hm6 := hb.1
  have h32 := pw32 m hm6
  have hpm := Nat.two_pow_pos m
  have hN : ∀ a, a < m → dN (st a) ≤ 260 := fun a ha => hb.2.2.2 _ (hst a ha)
  intro W
  induction W with
  | zero => intro w n used i sum f L F μ h; omega
  | succ W ih =>
    intro w n used i sum f L F μ hW hu hn hi hsum hL hF hf hr h44 h45
    obtain ⟨n, rfl⟩ : ∃ z, n = z + 1 := ⟨n - 1, by omega⟩
    show ∃ μ', J_X9_goRound_b (G_X9_goRound n) (nI m) (nI used) (nI i) (nI sum) (nI f) μ = some μ' ∧ _
    unfold J_X9_goRound_b
    rw [bt_pw m hm6, all_sub hm6]
    by_cases z : w = 0
    · subst z
      have hN1 := hN i hi
      rw [if_pos (by rw [show used = 2 ^ m - 1 by omega]), c_xin (by omega) (by decide), xgd_t, nI_c (by omega), hr.2.2.2 i hi, h44, h45, nI_add, xT_0]
      unfold J_X9_goRound_48
      by_cases y1 : L < sum + dN (st i)
      · have e : xUp L F (sum + dN (st i)) f = (L, F) := if_pos (Or.inl y1)
        rw [if_pos (c_lt (by omega) (by omega) y1), e]
        exact ⟨μ, rfl, h44, h45, xFr_rf⟩
      · rw [if_neg (c_nlt (by omega) (by omega) (by omega))]
        by_cases y2 : sum + dN (st i) = L
        · rw [if_pos (by rw [y2])]
          by_cases y3 : f ≤ F
          · have e : xUp L F (sum + dN (st i)) f = (sum + dN (st i), f) := if_neg (by omega)
            rw [if_pos (c_le (by omega) (by omega) y3), e]
            exact ⟨_, rfl, rfl, rfl, xFr_yI (xFr_yI xFr_rf rfl) rfl⟩
          · have e : xUp L F (sum + dN (st i)) f = (L, F) := if_pos (Or.inr ⟨y2, by omega⟩)
            rw [if_neg (c_nle (by omega) (by omega) (by omega)), e]
            exact ⟨μ, rfl, h44, h45, xFr_rf⟩
        · have e : xUp L F (sum + dN (st i)) f = (sum + dN (st i), f) := if_neg (by omega)
          rw [if_neg (c_ne (by omega) (by omega) y2), e]
          exact ⟨_, rfl, rfl, rfl, xFr_yI (xFr_yI xFr_rf rfl) rfl⟩
    · rw [if_neg (c_ne (by omega) (by omega) (by omega))]
      have hw2 : w < 2 ^ m := by omega
      have hwe : w = 2 ^ m - 1 - used := by omega
      -- the loop over the stones
      have loop : ∀ (q s g l2 F2 : Nat) (ρ : xS2), s + q = m → q < g → xRr m st B C dN ρ → ρ.1 43 44 = nI l2 → ρ.1 43 45 = nI F2 → l2 ≤ 1000000 → F2 ≤ 36 →
          (((l2 = L ∧ F2 = F) ∧ ∀ j, j < s → bt w j = false) ∨ ∃ v, (l2, F2) = xUp L F v f ∧ (∀ j, j < s → bt w j = true → v ≤ sum + B i j + xT B (fun j => dN (st j)) m (w - 2 ^ j) j) ∧ ∃ j, j < s ∧ bt w j = true ∧ v = sum + B i j + xT B (fun j => dN (st j)) m (w - 2 ^ j) j) →
          ∃ μ', J_X9_goRound_64 (G_X9_goRound n) g (nI m) (nI used) (nI i) (nI sum) (nI f) (nI s) ρ = some μ' ∧ μ'.1 43 44 = nI (xUp L F (sum + xT B (fun j => dN (st j)) m w i) f).1 ∧ μ'.1 43 45 = nI (xUp L F (sum + xT B (fun j => dN (st j)) m w i) f).2 ∧ xFr [(43, 44), (43, 45)] ρ μ' := by
        intro q
        induction q with
        | zero =>
          intro s g l2 F2 ρ hs hg hr2 h44 h45 hl2 hF2 h
          obtain ⟨g, rfl⟩ : ∃ z, g = z + 1 := ⟨g - 1, by omega⟩
          obtain rfl : s = m := by omega
          obtain ⟨j, hj, hbj, ej⟩ := xT_at (B := B) (N := fun j => dN (st j)) (i := i) hm6 hb.2.1 hN z hw2 hi
          rw [E_X9_goRound_64, if_pos (c_le (by omega) (by omega) (Nat.le_refl _))]
          rcases h with ⟨-, h⟩ | ⟨v, e, h1, k, hk, hbk, ek⟩
          · rw [h j hj] at hbj; cases hbj
          · have a1 := h1 j hj hbj
            have a2 := xT_le (B := B) (N := fun j => dN (st j)) (i := i) z hk hbk
            have ev : v = sum + xT B (fun j => dN (st j)) s w i := by omega
            rw [← ev, ← e]
            exact ⟨ρ, rfl, h44, h45, xFr_rf⟩
        | succ q ihq =>
          intro s g l2 F2 ρ hs hg hr2 h44 h45 hl2 hF2 h
          obtain ⟨g, rfl⟩ : ∃ z, g = z + 1 := ⟨g - 1, by omega⟩
          have hsm : s < m := by omega
          have hco : bt w s = !bt used s := by rw [hwe]; exact bt_co m hm6 used (by omega) s hsm
          have hu32 := bt_u used (by omega) s (by omega)
          rw [E_X9_goRound_64, if_neg (c_nle (by omega) (by omega) hsm)]
          cases y : bt used s with
          | true =>
            rw [y] at hco hu32
            rw [if_neg (by simpa using hu32)]
            unfold J_X9_goRound_131
            rw [nI_1]
            refine ihq (s + 1) g l2 F2 ρ (by omega) (by omega) hr2 h44 h45 hl2 hF2 ?_
            rcases h with ⟨h1, h2⟩ | ⟨v, e, h1, k, hk, hbk, ek⟩
            · refine Or.inl ⟨h1, fun j hj => ?_⟩
              by_cases e : j = s
              · rw [e]; exact hco
              · exact h2 j (by omega)
            · refine Or.inr ⟨v, e, fun j hj hbj => ?_, k, by omega, hbk, ek⟩
              by_cases e2 : j = s
              · rw [e2, hco] at hbj; cases hbj
              · exact h1 j (by omega) hbj
          | false =>
            rw [y] at hco hu32
            have hco' : bt w s = true := hco
            have hle := bt_le w (by omega) s (by omega) hco'
            have hps := Nat.two_pow_pos s
            have hB1 := hb.2.1 i s hi hsm
            have hTb := xT_bd hm6 hb.2.1 (N := fun j => dN (st j)) hN (w - 2 ^ s + 1) (w - 2 ^ s) s (by omega) (by omega) hsm
            have e5 : (5 : Int32) * nI i + nI s = nI (i * 5 + s) := by rw [Int32.mul_comm, show (5 : Int32) = nI 5 from rfl, nI_mul, nI_add]
            rw [if_pos (by simpa using hu32), if_pos (nI_pos' (by omega))]
            unfold J_X9_goRound_105 J_X9_goRound_128 J_X9_goRound_131
            rw [e5, c_xin (by omega) (by decide), xgd_t, if_pos (nI_pos' (by omega)), nI_c (by omega), hr2.2.1 i s hi hsm, nI_add, bt_or used (by omega) s (by omega) y, nI_1]
            have g1 : w - 2 ^ s < W := by omega
            have g2 : used + 2 ^ s + (w - 2 ^ s) = 2 ^ m - 1 := by omega
            have g3 : w - 2 ^ s < n := by omega
            have g4 : sum + B i s + 260 * (w - 2 ^ s + 1) ≤ 100000 := bud hsum hB1 hps hle
            obtain ⟨ρ2, r1, r2, r3, r4⟩ := ih (w - 2 ^ s) n (used + 2 ^ s) s (sum + B i s) f l2 F2 ρ g1 g2 g3 hsm g4 hl2 hF2 hf hr2 h44 h45
            rw [r1, Option.bind_some]
            obtain ⟨b1, b2⟩ := up_bd (L := l2) (F := F2) (v := sum + B i s + xT B (fun j => dN (st j)) m (w - 2 ^ s) s) (f := f) hF2 hf
            obtain ⟨μ', t1, t2, t3, t4⟩ := ihq (s + 1) g _ _ ρ2 (by omega) (by omega) (xRr_fr hr2 r4) r2 r3 (by omega) b2 (Or.inr (by
              rcases h with ⟨⟨rfl, rfl⟩, h2⟩ | ⟨v, e, h1, k, hk, hbk, ek⟩
              · refine ⟨sum + B i s + xT B (fun j => dN (st j)) m (w - 2 ^ s) s, rfl, fun j hj hbj => ?_, s, by omega, hco', rfl⟩
                by_cases e2 : j = s
                · rw [e2]; exact Nat.le_refl _
                · rw [h2 j (by omega)] at hbj; cases hbj
              · refine ⟨min v (sum + B i s + xT B (fun j => dN (st j)) m (w - 2 ^ s) s), ?_, fun j hj hbj => ?_, ?_⟩
                · rw [← up_up, ← e]
                · by_cases e2 : j = s
                  · rw [e2]; exact Nat.min_le_right _ _
                  · exact Nat.le_trans (Nat.min_le_left _ _) (h1 j (by omega) hbj)
                · by_cases q1 : v ≤ sum + B i s + xT B (fun j => dN (st j)) m (w - 2 ^ s) s
                  · exact ⟨k, by omega, hbk, by rw [Nat.min_eq_left q1]; exact ek⟩
                  · exact ⟨s, by omega, hco', by rw [Nat.min_eq_right (by omega)]⟩))
            exact ⟨μ', t1, t2, t3, xFr_tq r4 t4⟩
      exact loop m 0 xFU L F μ (by omega) (by show m < 2000; omega) hr h44 h45 hL hF (Or.inl ⟨⟨rfl, rfl⟩, fun j hj => absurd hj (Nat.not_lt_zero j)⟩)
theorem bt_0 : ∀ j, j < 5 → bt 0 j = false ∧ decide ((nI 0 >>> (nI j &&& 31)) &&& (1 : Int32) = 0) = true ∧ (nI 0 ||| ((1 : Int32) <<< (nI j &&& 31))) = nI (2 ^ j) := by decide +kernel
/-- the orders of all stones -/
theorem go_top {m : Nat} {st : Nat → Nat} {B : Nat → Nat → Nat} {C dN : Nat → Nat} {μ : xS2} (hb : xBn m st B C dN) (hst : ∀ a, a < m → st a < 36) (hm : 0 < m) (hasc : ∀ a b, a < b → b < m → st a < st b) (hr : xRr m st B C dN μ) (h44 : μ.1 43 44 = nI 1000000) (h45 : μ.1 43 45 = nI 36) :
    ∃ k μ', J_X9_goRound (nI m) 0 (-1) 0 (-1) μ = some μ' ∧ xBest (xWh m st B C dN) m k ∧ μ'.1 43 44 = nI (xWh m st B C dN k) ∧ μ'.1 43 45 = nI (st k) := by
  have hm6 := hb.1
  have h32 := pw32 m hm6
  have hpm := Nat.two_pow_pos m
  have h1m : 1 < 2 ^ m := by
    have := Nat.pow_le_pow_right (show 0 < 2 by decide) hm
    omega
  have loop : ∀ (q s g l2 F2 : Nat) (ρ : xS2), s + q = m → q < g → xRr m st B C dN ρ → ρ.1 43 44 = nI l2 → ρ.1 43 45 = nI F2 → ((s = 0 ∧ l2 = 1000000 ∧ F2 = 36) ∨ ∃ k, xBest (xWh m st B C dN) s k ∧ l2 = xWh m st B C dN k ∧ F2 = st k) →
      ∃ k μ', J_X9_goRound_64 (G_X9_goRound 99) g (nI m) (nI 0) (-1) (nI 0) (-1) (nI s) ρ = some μ' ∧ xBest (xWh m st B C dN) m k ∧ μ'.1 43 44 = nI (xWh m st B C dN k) ∧ μ'.1 43 45 = nI (st k) := by
    intro q
    induction q with
    | zero =>
      intro s g l2 F2 ρ hs hg hr2 g44 g45 h
      obtain ⟨g, rfl⟩ : ∃ z, g = z + 1 := ⟨g - 1, by omega⟩
      obtain rfl : s = m := by omega
      rw [E_X9_goRound_64, if_pos (c_le (by omega) (by omega) (Nat.le_refl _))]
      rcases h with ⟨h, -⟩ | ⟨k, hk, rfl, rfl⟩
      · omega
      · exact ⟨k, ρ, rfl, hk, g44, g45⟩
    | succ q ihq =>
      intro s g l2 F2 ρ hs hg hr2 g44 g45 h
      obtain ⟨g, rfl⟩ : ∃ z, g = z + 1 := ⟨g - 1, by omega⟩
      have hsm : s < m := by omega
      obtain ⟨b0, b1, b2⟩ := bt_0 s (by omega)
      have hps := Nat.two_pow_pos s
      have hle := bt_le (2 ^ m - 1) (by omega) s (by omega) (all_bt m hm6 s hsm).1
      have e5 : (5 : Int32) * 5 + nI s = nI (25 + s) := nI_add 25 s
      have hC := hb.2.2.1 s hsm
      have hst36 := hst s hsm
      have hl2 : l2 ≤ 1000000 ∧ F2 ≤ 36 := by
        rcases h with ⟨-, rfl, rfl⟩ | ⟨k, hk, rfl, rfl⟩
        · omega
        · have := wh_bd hb hst (show k < m by have := hk.1; omega)
          have := hst k (by have := hk.1; omega)
          omega
      have hwb := wh_bd hb hst hsm
      rw [E_X9_goRound_64, if_neg (c_nle (by omega) (by omega) hsm), if_pos (by simpa using b1), if_neg (show ¬ (0 : Int32) ≤ -1 by decide)]
      unfold J_X9_goRound_105 J_X9_goRound_128 J_X9_goRound_131
      rw [e5, c_xin (by omega) (by decide), xgd_t, if_neg (show ¬ (0 : Int32) ≤ -1 by decide), c_xin (by omega) (by decide), xgd_t, nI_c (n := 25 + s) (by omega), nI_c (n := s) (by omega), hr2.2.2.1 s hsm, (hr2.1 s hsm).2, nI_add, b2, nI_1]
      obtain ⟨ρ2, r1, r2, r3, r4⟩ := go_eq hb hst 32 (2 ^ m - 1 - 2 ^ s) 99 (2 ^ s) s (0 + C s) (st s) l2 F2 ρ (by omega) (by omega) (by omega) hsm (by omega) hl2.1 hl2.2 (by omega) hr2 g44 g45
      have ew : 0 + C s + xT B (fun j => dN (st j)) m (2 ^ m - 1 - 2 ^ s) s = xWh m st B C dN s := by unfold xWh; omega
      rw [ew] at r2 r3
      rw [r1, Option.bind_some]
      refine ihq (s + 1) g _ _ ρ2 (by omega) (by omega) (xRr_fr hr2 r4) r2 r3 (Or.inr ?_)
      rcases h with ⟨rfl, rfl, rfl⟩ | ⟨k, hk, rfl, rfl⟩
      · have e : xUp 1000000 36 (xWh m st B C dN 0) (st 0) = (xWh m st B C dN 0, st 0) := if_neg (by omega)
        exact ⟨0, best_0, by rw [e], by rw [e]⟩
      · obtain ⟨n1, n2⟩ := best_next hk
        have hks := hasc k s hk.1 hsm
        by_cases z : xWh m st B C dN k ≤ xWh m st B C dN s
        · have e : xUp (xWh m st B C dN k) (st k) (xWh m st B C dN s) (st s) = (xWh m st B C dN k, st k) := if_pos (by omega)
          exact ⟨k, n1 z, by rw [e], by rw [e]⟩
        · have e : xUp (xWh m st B C dN k) (st k) (xWh m st B C dN s) (st s) = (xWh m st B C dN s, st s) := if_neg (by omega)
          exact ⟨s, n2 (by omega), by rw [e], by rw [e]⟩
  obtain ⟨k, μ', e1, e2, e3, e4⟩ := loop m 0 xFU 1000000 36 μ (by omega) (by show m < 2000; omega) hr h44 h45 (Or.inl ⟨rfl, rfl, rfl⟩)
  refine ⟨k, μ', ?_, e2, e3, e4⟩
  show J_X9_goRound_b (G_X9_goRound 99) (nI m) (nI 0) (-1) (nI 0) (-1) μ = _
  unfold J_X9_goRound_b
  rw [bt_pw m hm6, all_sub hm6, if_neg (c_ne (by omega) (by omega) (by omega))]
  exact e1
