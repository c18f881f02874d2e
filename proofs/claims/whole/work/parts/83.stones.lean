/-! round: the stones, in both; the north. -/
theorem looked_eq {σ μ : xS2} {c : Nat} (hc : c < 36) (hl : σ.2 3 3 = μ.2 43 11) : J_X0_hasLookedAt 3 (nI c) σ = (σ.2 3 3).toBitVec.getLsbD c ∧ J_X9_isLooked (nI c) μ = (σ.2 3 3).toBitVec.getLsbD c := ⟨X0_looked hc, by rw [X9_looked hc, ← hl]⟩
/-- k stones told of the cells ahead of c -/
def xSl (k : Nat) (st : Nat → Nat) (c : Nat) (σ μ : xS2) : Prop := k ≤ 5 ∧ σ.1 13 5 = nI k ∧ (∀ j, j < k → st j < c ∧ σ.1 15 j = nI (st j) ∧ μ.1 65 j = nI (st j)) ∧ ∀ a b, a < b → b < k → st a < st b
def xStO (a1 : Int32) (σ μ : xS2) (x : Option (Bool × xS2)) (y : Option (Int32 × xS2)) : Prop := (∃ σ' μ', x = some (false, σ') ∧ y = some (-5, μ')) ∨
  ∃ k' st' σ' μ', x = some (true, σ') ∧ y = (if nI k' = 0 then (if a1 = 0 then (J_X9_toNorth (μ'.1 43 8) μ').bind (fun x21 => some (x21.1, x21.2)) else some ((-2 : Int32), μ')) else J_X9_round_89 xFU a1 (nI k') (0 : Int32) μ') ∧
      xSl k' st' 36 σ' μ' ∧ xFr [(13, 5), (15, 99)] σ σ' ∧ xFr [(65, 99)] μ μ'
theorem stones_loop {a1 : Int32} : ∀ (m c f g k : Nat) (st : Nat → Nat) (σ μ : xS2), c + m = 36 → m < f → m < g → xPl σ μ → σ.2 3 3 = μ.2 43 11 → xSl k st c σ μ → xStO a1 σ μ (J_X6_listStones_7 f 3 (nI c) σ) (J_X9_round_15 g a1 (nI k) (nI c) μ) := by
  intro m
  induction m with
  | zero =>
    intro c f g k st σ μ hc hf hg hp hl hs
    obtain ⟨f, rfl⟩ : ∃ z, f = z + 1 := ⟨f - 1, by omega⟩
    obtain ⟨g, rfl⟩ : ∃ z, g = z + 1 := ⟨g - 1, by omega⟩
    obtain rfl : c = 36 := by omega
    refine Or.inr ⟨k, st, σ, μ, by rw [E_X6_listStones_7, if_pos (by decide)], ?_, hs, xFr_rf, xFr_rf⟩
    rw [E_X9_round_15, if_pos (by decide)]
  | succ m ih =>
    intro c f g k st σ μ hc hf hg hp hl hs
    obtain ⟨f, rfl⟩ : ∃ z, f = z + 1 := ⟨f - 1, by omega⟩
    obtain ⟨g, rfl⟩ : ∃ z, g = z + 1 := ⟨g - 1, by omega⟩
    have hc36 : c < 36 := by omega
    obtain ⟨s1, s2, s3, s4⟩ := id hs
    obtain ⟨w1, w2⟩ := hp 1 c (by decide) hc36
    have w1 : μ.1 45 c = σ.1 2 (36 + c) := w1
    obtain ⟨x, hx, ex⟩ := xRg_at (l := 1) w2
    have ex : σ.1 2 (36 + c) = nI x := ex
    obtain ⟨l1, l2⟩ := looked_eq hc36 hl
    have n36 : ¬ (36 : Int32) ≤ nI c := k_nle (x := (36 : Int32)) 36 rfl (by decide) (by omega) hc36
    have kc : J_X6_listStones_7 (f + 1) 3 (nI c) σ = if xb (decide (nI x = 1)) = 0 then J_X6_listStones_7 f 3 (nI (c + 1)) σ else if xb ((σ.2 3 3).toBitVec.getLsbD c) = 0 then (if nI k < 5 then xgd (xin (nI k) 5) (J_X6_listStones_7 f 3 (nI (c + 1)) (yI (yI σ 15 k (nI c)) 13 5 (nI (k + 1)))) else some (false, σ)) else J_X6_listStones_7 f 3 (nI (c + 1)) σ := by
      rw [E_X6_listStones_7, if_neg n36, X3_isStone hc36, ex, Option.bind_some, l1, s2, nI_c (by omega)]
      unfold J_X6_listStones_62
      rw [nI_1, nI_1]
    have km : J_X9_round_15 (g + 1) a1 (nI k) (nI c) μ = if nI x = 0 then J_X9_round_15 g a1 (nI k) (nI (c + 1)) μ else if xb ((σ.2 3 3).toBitVec.getLsbD c) = 0 then (if nI k = 5 then some (-5, μ) else xgd (xin (nI k) 5) (J_X9_round_15 g a1 (nI (k + 1)) (nI (c + 1)) (yI μ 65 k (nI c)))) else J_X9_round_15 g a1 (nI k) (nI (c + 1)) μ := by
      rw [E_X9_round_15, if_neg n36, c_xin hc36 (by decide), xgd_t, nI_c (n := c) (by omega), w1, ex, l2, nI_c (by omega)]
      unfold J_X9_round_59
      rw [nI_1, nI_1]
    have skip : J_X6_listStones_7 (f + 1) 3 (nI c) σ = J_X6_listStones_7 f 3 (nI (c + 1)) σ → J_X9_round_15 (g + 1) a1 (nI k) (nI c) μ = J_X9_round_15 g a1 (nI k) (nI (c + 1)) μ → xStO a1 σ μ (J_X6_listStones_7 (f + 1) 3 (nI c) σ) (J_X9_round_15 (g + 1) a1 (nI k) (nI c) μ) := by
      intro e1 e2
      have := ih (c + 1) f g k st σ μ (by omega) (by omega) (by omega) hp hl ⟨s1, s2, fun j hj => ⟨by have := (s3 j hj).1; omega, (s3 j hj).2⟩, s4⟩
      rw [← e1, ← e2] at this
      exact this
    rcases (show x = 0 ∨ x = 1 by omega) with rfl | rfl
    · rw [if_pos (by decide)] at kc km
      exact skip kc km
    · rw [if_neg (by decide)] at kc km
      by_cases z : xb ((σ.2 3 3).toBitVec.getLsbD c) = 0
      · rw [if_pos z] at kc km
        by_cases y : k = 5
        · subst y
          rw [if_neg (by decide)] at kc
          rw [if_pos (by decide)] at km
          exact Or.inl ⟨σ, μ, kc, km⟩
        · rw [if_pos (show nI k < (5 : Int32) from k_lt (x := nI k) k rfl (by omega) (b := 5) (by decide) (by omega)), c_xin (by omega) (by decide), xgd_t] at kc
          rw [if_neg (show ¬ nI k = (5 : Int32) from c_ne (b := 5) (by omega) (by decide) y), c_xin (by omega) (by decide), xgd_t] at km
          have fS : xFr [(13, 5), (15, 99)] σ (yI (yI σ 15 k (nI c)) 13 5 (nI (k + 1))) := xFr_yI (xFr_yI xFr_rf rfl) rfl
          have fM : xFr [(65, 99)] μ (yI μ 65 k (nI c)) := xFr_yI xFr_rf rfl
          rw [kc, km]
          rcases ih (c + 1) f g (k + 1) (fun j => if j = k then c else st j) (yI (yI σ 15 k (nI c)) 13 5 (nI (k + 1))) (yI μ 65 k (nI c)) (by omega) (by omega) (by omega) (tw_P fS fM (by decide) (by decide) hp) hl ⟨by omega, rfl, fun j hj => (by
            show (if j = k then c else st j) < c + 1 ∧ (if j = k then nI c else σ.1 15 j) = nI (if j = k then c else st j) ∧ (if j = k then nI c else μ.1 65 j) = nI (if j = k then c else st j)
            by_cases e : j = k
            · rw [if_pos e, if_pos e, if_pos e]; exact ⟨by omega, rfl, rfl⟩
            · rw [if_neg e, if_neg e, if_neg e]
              have := s3 j (by omega)
              exact ⟨by omega, this.2⟩), fun a b hab hb => (by
            show (if a = k then c else st a) < (if b = k then c else st b)
            rw [if_neg (show ¬ a = k by omega)]
            by_cases e : b = k
            · rw [if_pos e]; exact (s3 a (by omega)).1
            · rw [if_neg e]; exact s4 a b hab (by omega))⟩ with h | ⟨k', st', σ', μ', r1, r2, r3, r4, r5⟩
          · exact Or.inl h
          · exact Or.inr ⟨k', st', σ', μ', r1, r2, r3, xFr_tq fS r4, xFr_tq fM r5⟩
      · rw [if_neg z] at kc km
        exact skip kc km
-- the north
theorem spread_to {g : Int32} {G : Nat → Prop} {pr : Nat → Nat → Nat} {d : Nat → Nat} {σ : xS2} {e : Nat} (he : e < 36) (hGe : G e) (hG : ∀ c, c < 36 → ((if g = -1 then decide (c < 6) else decide (nI c = g)) = true ↔ G c)) (hp : xPrs σ pr) (hd : xDist G pr d) : ∃ σ', J_X6_spreadTo g σ = some σ' ∧ xLf 14 d σ' ∧ xFr [(14, 99)] σ σ' := by
  obtain ⟨L, σ', e1, l1, d1, -, f1⟩ := spread_dist he hGe hG hp
  exact ⟨σ', e1, fun c hc => by rw [l1 c hc, dist_eq hp.1 d1 hd hc], f1⟩
/-- all distances of a plain -/
def xAd (pr : Nat → Nat → Nat) (D : Nat → Nat → Nat) (N : Nat → Nat) : Prop := (∀ g, g < 36 → xDist (fun c => c = g) pr (D g) ∧ ∀ c, c < 36 → D g c ≤ 260) ∧ xDist (fun c => c < 6) pr N ∧ ∀ c, c < 36 → N c ≤ 260
theorem goal_north : ∀ c, c < 36 → ((if (-1 : Int32) = -1 then decide (c < 6) else decide (nI c = -1)) = true ↔ c < 6) := by
  intro c hc
  rw [if_pos rfl, decide_eq_true_eq]
theorem xAd_of {σ : xS2} {pr : Nat → Nat → Nat} (hp : xPrs σ pr) : ∃ D N, xAd pr D N := by
  have h : ∀ g, ∃ L : Nat → Nat, g < 36 → xDist (fun c => c = g) pr L ∧ ∀ c, c < 36 → L c ≤ 260 := by
    intro g
    by_cases hg : g < 36
    · obtain ⟨L, σ', -, -, d1, b1, -⟩ := spread_dist (g := nI g) (G := fun c => c = g) hg rfl (goal_one hg) hp
      exact ⟨L, fun _ => ⟨d1, b1⟩⟩
    · exact ⟨fun _ => 0, fun z => absurd z hg⟩
  obtain ⟨N, σ', -, -, d2, b2, -⟩ := spread_dist (g := -1) (G := fun c => c < 6) (e := 0) (by decide) (by decide) goal_north hp
  exact ⟨fun g => Classical.choose (h g), N, fun g hg => Classical.choose_spec (h g) hg, d2, b2⟩
theorem north_le {pr : Nat → Nat → Nat} {D : Nat → Nat → Nat} {N : Nat → Nat} (hp : xPp pr) (h : xAd pr D N) {g c : Nat} (hg : g < 6) (hc : c < 36) : N c ≤ D g c :=
  dist_le hp (fun c hc e => h.2.1.1 c hc (by rw [e]; exact hg)) h.2.1.2.1 (h.1 g (by omega)).1 c hc
theorem north_at {pr : Nat → Nat → Nat} {D : Nat → Nat → Nat} {N : Nat → Nat} (hp : xPp pr) (h : xAd pr D N) : ∀ n c, c < 36 → N c < n → ∃ g, g < 6 ∧ N c = D g c := by
  intro n
  induction n with
  | zero => intro c hc hn; omega
  | succ n ih =>
    intro c hc hn
    by_cases q : c < 6
    · exact ⟨c, q, by rw [h.2.1.1 c hc q, (h.1 c hc).1.1 c hc rfl]⟩
    · obtain ⟨k, k0, k5, kb, ke⟩ := h.2.1.2.2 c hc q
      have hw := hp c (xNb c k) hc kb
      obtain ⟨g, hg, eg⟩ := ih (xNb c k) kb (by omega)
      have := (h.1 g (by omega)).1.2.1 c hc k k0 k5 kb
      have := north_le hp h hg hc
      exact ⟨g, hg, by omega⟩
theorem north_loop {pr : Nat → Nat → Nat} {D : Nat → Nat → Nat} {N : Nat → Nat} {c : Nat} (h : xAd pr D N) (hc : c < 36) : ∀ (m j f v : Nat) (μ : xS2), j + m = 6 → m < f → xPrr μ pr → (v = 1000000 ∨ ∃ g, g < 6 ∧ v = D g c) → (∀ g, g < j → v ≤ D g c) →
    ∃ v' μ', J_X9_toNorth_6 f (nI c) (nI v) (nI j) μ = some (nI v', μ') ∧ (v' = 1000000 ∨ ∃ g, g < 6 ∧ v' = D g c) ∧ (∀ g, g < 6 → v' ≤ D g c) ∧ xFr [(62, 99)] μ μ' := by
  intro m
  induction m with
  | zero =>
    intro j f v μ hj hf hp h1 h2
    obtain ⟨f, rfl⟩ : ∃ z, f = z + 1 := ⟨f - 1, by omega⟩
    obtain rfl : j = 6 := by omega
    exact ⟨v, μ, by rw [E_X9_toNorth_6, if_pos (by decide)], h1, h2, xFr_rf⟩
  | succ m ih =>
    intro j f v μ hj hf hp h1 h2
    obtain ⟨f, rfl⟩ : ∃ z, f = z + 1 := ⟨f - 1, by omega⟩
    obtain ⟨d1, b1⟩ := h.1 j (by omega)
    obtain ⟨μ1, e1, l1, f1⟩ := far_dist (show j < 36 by omega) hp d1 b1
    have hp1 : xPrr μ1 pr := ⟨hp.1, fun a b ha hb => by rw [(f1 43 5 rfl).1, (f1 44 a rfl).1, (f1 44 b rfl).1]; exact hp.2 a b ha hb⟩
    have hv : v ≤ 1000000 := by
      rcases h1 with h1 | ⟨g, hg, h1⟩
      · omega
      · have := (h.1 g (by omega)).2 c hc; omega
    have := b1 c hc
    rw [E_X9_toNorth_6, if_neg (k_nle (x := (6 : Int32)) 6 rfl (by decide) (by omega) (by omega)), e1, Option.bind_some, c_xin hc (by decide), xgd_t, xgd_t, nI_c (by omega), l1 c hc]
    unfold J_X9_toNorth_34
    rw [nI_1]
    by_cases z : v ≤ D j c
    · rw [if_pos (c_le (by omega) (by omega) z)]
      obtain ⟨v', μ', r1, r2, r3, r4⟩ := ih (j + 1) f v μ1 (by omega) (by omega) hp1 h1 (fun g hg => by
        by_cases e : g = j
        · rw [e]; exact z
        · exact h2 g (by omega))
      exact ⟨v', μ', r1, r2, r3, xFr_tq f1 r4⟩
    · rw [if_neg (c_nle (by omega) (by omega) (by omega))]
      obtain ⟨v', μ', r1, r2, r3, r4⟩ := ih (j + 1) f (D j c) μ1 (by omega) (by omega) hp1 (Or.inr ⟨j, by omega, rfl⟩) (fun g hg => by
        by_cases e : g = j
        · rw [e]; omega
        · have := h2 g (by omega); omega)
      exact ⟨v', μ', r1, r2, r3, xFr_tq f1 r4⟩
theorem to_north {pr : Nat → Nat → Nat} {D : Nat → Nat → Nat} {N : Nat → Nat} {c : Nat} {μ : xS2} (h : xAd pr D N) (hc : c < 36) (hp : xPrr μ pr) : ∃ μ', J_X9_toNorth (nI c) μ = some (nI (N c), μ') ∧ xFr [(62, 99)] μ μ' := by
  obtain ⟨v, μ', e1, e2, e3, f1⟩ := north_loop h hc 6 0 xFU 1000000 μ (by omega) (by show 6 < 2000; omega) hp (Or.inl rfl) (fun g hg => absurd hg (Nat.not_lt_zero g))
  obtain ⟨g, hg, eg⟩ := north_at hp.1 h (N c + 1) c hc (by omega)
  have a1 := e3 g hg
  have a2 := h.2.2 c hc
  have ev : v = N c := by
    rcases e2 with e2 | ⟨g2, hg2, e2⟩
    · omega
    · have := north_le hp.1 h hg2 hc; omega
  rw [ev] at e1
  exact ⟨μ', e1, f1⟩
