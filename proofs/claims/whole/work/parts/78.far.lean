/-! The cheapest ways in the reference: sums that fall. -/
def xPrr (μ : xS2) (pr : Nat → Nat → Nat) : Prop := xPp pr ∧ ∀ a b, a < 36 → b < 36 → xPrice (μ.1 43 5) (μ.1 44 a) (μ.1 44 b) = nI (pr a b)
theorem xPrr_of {σ μ : xS2} {pr : Nat → Nat → Nat} (h : xPrs σ pr) (hp : xPl σ μ) : xPrr μ pr := by
  refine ⟨h.1, fun a b ha hb => ?_⟩
  have h44 : ∀ k, k < 36 → μ.1 44 k = σ.1 2 k := fun k hk => by
    have := (hp 0 k (by decide) hk).1
    rw [show xBg 0 = 0 from rfl, Nat.zero_add] at this
    exact this
  have h5 : μ.1 43 5 = σ.1 2 192 := (hp 4 0 (by decide) (by decide)).1
  rw [h44 a ha, h44 b hb, h5]
  exact h.2 a b ha hb
def xRnd (d : Nat → Nat) (pr : Nat → Nat → Nat) (F0 : Nat → Nat) (c w : Nat) (flag : Bool) (F : Nat → Nat) : Prop := (∀ a, a < 36 → F a ≤ F0 a ∧ d a ≤ F a) ∧ (flag = true → ∃ a, a < 36 ∧ F a < F0 a) ∧ (flag = false → ∀ a, a < 36 → F a = F0 a) ∧
  ∀ a, a < 36 → ∀ k, 0 < k → k < 5 → (a < c ∨ (a = c ∧ k < w)) → xNb a k < 36 → F0 (xNb a k) ≠ 1000000 → F a ≤ F0 (xNb a k) + pr a (xNb a k)
theorem way_loop {d : Nat → Nat} {pr : Nat → Nat → Nat} {F0 : Nat → Nat} {c : Nat} {k34 : Bool → xS2 → Option xS2} {k42 : Bool → Int32 → xS2 → Option xS2} (hc : c < 36) (h0 : ∀ a, a < 36 → F0 a ≤ 1000000) (hd : ∀ c, c < 36 → ∀ k, 0 < k → k < 5 → xNb c k < 36 → d c ≤ d (xNb c k) + pr c (xNb c k)) :
    ∀ (m w f : Nat) (flag : Bool) (F : Nat → Nat) (μ : xS2), w + m = 5 → 0 < w → m < f → xPrr μ pr → xLf 62 F μ → xRnd d pr F0 c w flag F → ∃ flag' F' μ', J_X9_findFar_51 k34 k42 f flag (nI c) (nI w) μ = k42 flag' (nI (c + 1)) μ' ∧ xPrr μ' pr ∧ xLf 62 F' μ' ∧ xRnd d pr F0 (c + 1) 0 flag' F' := by
  intro m
  induction m with
  | zero =>
    intro w f flag F μ hw hw0 hf hp hF hr
    obtain ⟨f, rfl⟩ : ∃ z, f = z + 1 := ⟨f - 1, by omega⟩
    obtain rfl : w = 5 := by omega
    refine ⟨flag, F, μ, by rw [E_X9_findFar_51, if_pos (by decide), nI_1], hp, hF, hr.1, hr.2.1, hr.2.2.1, fun a ha k k0 k5 hk kb kF => hr.2.2.2 a ha k k0 k5 ?_ kb kF⟩
    omega
  | succ m ih =>
    intro w f flag F μ hw hw0 hf hp hF hr
    obtain ⟨f, rfl⟩ : ∃ z, f = z + 1 := ⟨f - 1, by omega⟩
    rw [E_X9_findFar_51, if_neg (k_nlt (x := (4 : Int32)) 4 rfl (by decide) (by omega) (by omega)), X9_nb c hc w (by omega) hw0]
    unfold J_X9_findFar_133 xNbI
    rw [nI_1]
    obtain ⟨r1, r2, r3, r4⟩ := id hr
    have hFb : ∀ a, a < 36 → F a ≤ 1000000 := fun a ha => Nat.le_trans (r1 a ha).1 (h0 a ha)
    by_cases q : xNb c w < 36
    · have hpp := hp.1 c (xNb c w) hc q
      have b1 := hFb _ q
      have b2 := hFb c hc
      have hcost : J_X9_costOf (nI c) (nI w) μ = some (nI (pr c (xNb c w))) := by rw [X9_costOf hc (by omega) hw0 q, hp.2 c _ hc q]
      rw [if_pos q, if_neg (nI_pos (by omega)), c_xin q (by decide), xgd_t, nI_c (by omega), hF _ q]
      have skip : ((F0 (xNb c w) ≠ 1000000 → F c ≤ F0 (xNb c w) + pr c (xNb c w))) → ∃ flag' F' μ', J_X9_findFar_51 k34 k42 f flag (nI c) (nI (w + 1)) μ = k42 flag' (nI (c + 1)) μ' ∧ xPrr μ' pr ∧ xLf 62 F' μ' ∧ xRnd d pr F0 (c + 1) 0 flag' F' := by
        intro hn
        refine ih (w + 1) f flag F μ (by omega) (by omega) (by omega) hp hF ⟨r1, r2, r3, fun a ha k k0 k5 hk kb kF => ?_⟩
        by_cases e : a = c ∧ k = w
        · obtain ⟨rfl, rfl⟩ := e
          exact hn kF
        · exact r4 a ha k k0 k5 (by omega) kb kF
      by_cases z : F (xNb c w) = 1000000
      · rw [if_pos (show nI (F (xNb c w)) = (1000000 : Int32) by rw [z]; rfl)]
        refine skip (fun hn => ?_)
        have := (r1 _ q).1
        have := h0 _ q
        omega
      · rw [if_neg (show ¬ nI (F (xNb c w)) = (1000000 : Int32) from c_ne (b := 1000000) (by omega) (by decide) z), xgd_t, hcost, Option.bind_some, c_xin hc (by decide), xgd_t, xgd_t, nI_c (by omega), Option.bind_some, xgd_t, nI_add, hF c hc]
        by_cases y : F (xNb c w) + pr c (xNb c w) < F c
        · rw [if_pos (c_lt (by omega) (by omega) y)]
          refine ih (w + 1) f true (fun a => if a = c then F (xNb c w) + pr c (xNb c w) else F a) _ (by omega) (by omega) (by omega) ⟨hp.1, fun a b ha hb => hp.2 a b ha hb⟩ (fun a ha => ?_) ⟨fun a ha => ?_, fun _ => ⟨c, hc, ?_⟩, fun z => (by cases z), fun a ha k k0 k5 hk kb kF => ?_⟩
          · show (if a = c then _ else μ.1 62 a) = nI (if a = c then _ else F a)
            by_cases e : a = c
            · rw [if_pos e, if_pos e]
            · rw [if_neg e, if_neg e]; exact hF a ha
          · show (if a = c then F (xNb c w) + pr c (xNb c w) else F a) ≤ F0 a ∧ d a ≤ (if a = c then F (xNb c w) + pr c (xNb c w) else F a)
            by_cases e : a = c
            · rw [if_pos e, e]
              have := hd c hc w hw0 (by omega) q
              have := (r1 _ q).2
              have := (r1 c hc).1
              omega
            · rw [if_neg e]; exact r1 a ha
          · show (if c = c then F (xNb c w) + pr c (xNb c w) else F c) < F0 c
            rw [if_pos rfl]
            have := (r1 c hc).1
            omega
          · show (if a = c then F (xNb c w) + pr c (xNb c w) else F a) ≤ _
            by_cases e : a = c
            · subst e
              rw [if_pos rfl]
              by_cases e2 : k = w
              · subst e2
                have := (r1 _ kb).1
                omega
              · have := r4 a ha k k0 k5 (by omega) kb kF
                omega
            · rw [if_neg e]
              exact r4 a ha k k0 k5 (by omega) kb kF
        · rw [if_neg (c_nlt (by omega) (by omega) (by omega))]
          refine skip (fun _ => ?_)
          have := (r1 _ q).1
          omega
    · rw [if_neg q, if_pos (by decide)]
      refine ih (w + 1) f flag F μ (by omega) (by omega) (by omega) hp hF ⟨r1, r2, r3, fun a ha k k0 k5 hk kb kF => ?_⟩
      refine r4 a ha k k0 k5 ?_ kb kF
      by_cases e : a = c ∧ k = w
      · obtain ⟨rfl, rfl⟩ := e
        exact absurd kb q
      · omega
theorem cell_loop {d : Nat → Nat} {pr : Nat → Nat → Nat} {F0 : Nat → Nat} {k34 : Bool → xS2 → Option xS2} (h0 : ∀ a, a < 36 → F0 a ≤ 1000000) (hd : ∀ c, c < 36 → ∀ k, 0 < k → k < 5 → xNb c k < 36 → d c ≤ d (xNb c k) + pr c (xNb c k)) :
    ∀ (m c f : Nat) (flag : Bool) (F : Nat → Nat) (μ : xS2), c + m = 36 → m < f → xPrr μ pr → xLf 62 F μ → xRnd d pr F0 c 0 flag F → ∃ flag' F' μ', J_X9_findFar_42 k34 f flag (nI c) μ = k34 flag' μ' ∧ xPrr μ' pr ∧ xLf 62 F' μ' ∧ xRnd d pr F0 36 0 flag' F' := by
  intro m
  induction m with
  | zero =>
    intro c f flag F μ hc hf hp hF hr
    obtain ⟨f, rfl⟩ : ∃ z, f = z + 1 := ⟨f - 1, by omega⟩
    obtain rfl : c = 36 := by omega
    exact ⟨flag, F, μ, by rw [E_X9_findFar_42, if_pos (by decide)], hp, hF, hr⟩
  | succ m ih =>
    intro c f flag F μ hc hf hp hF hr
    obtain ⟨f, rfl⟩ : ∃ z, f = z + 1 := ⟨f - 1, by omega⟩
    rw [E_X9_findFar_42, if_neg (k_nle (x := (36 : Int32)) 36 rfl (by decide) (by omega) (by omega))]
    obtain ⟨flag1, F1, μ1, e1, p1, l1, q1⟩ := way_loop (k34 := k34) (k42 := J_X9_findFar_42 k34 f) (show c < 36 by omega) h0 hd 4 1 xFU flag F μ (by omega) (by omega) (by show 4 < 2000; omega) hp hF ⟨hr.1, hr.2.1, hr.2.2.1, fun a ha k k0 k5 hk kb kF => hr.2.2.2 a ha k k0 k5 (by omega) kb kF⟩
    have e1' : J_X9_findFar_51 k34 (J_X9_findFar_42 k34 f) xFU flag (nI c) 1 μ = J_X9_findFar_42 k34 f flag1 (nI (c + 1)) μ1 := e1
    rw [e1']
    exact ih (c + 1) f flag1 F1 μ1 (by omega) (by omega) p1 l1 q1
theorem far_loop {G : Nat → Prop} {d : Nat → Nat} {pr : Nat → Nat → Nat} (hd : xDist G pr d) (hb : ∀ c, c < 36 → d c ≤ 260) : ∀ (m i f : Nat) (F : Nat → Nat) (μ : xS2), i + m = 262 → m + 1 < f → xPrr μ pr → xLf 62 F μ → (∀ a, a < 36 → F a ≤ 1000000 ∧ d a ≤ F a) → (∀ a, a < 36 → G a → F a = 0) → (∀ a, a < 36 → d a < i → F a = d a) →
    ∃ μ', J_X9_findFar_34 f true μ = some μ' ∧ xLf 62 d μ' := by
  intro m
  induction m with
  | zero =>
    intro i f F μ hi hf hp hF h1 h2 h3
    obtain ⟨f, rfl⟩ : ∃ z, f = z + 2 := ⟨f - 2, by omega⟩
    obtain ⟨flag', F', μ', e1, p1, l1, q1, q2, q3, q4⟩ := cell_loop (d := d) (F0 := F) (k34 := J_X9_findFar_34 (f + 1)) (fun a ha => (h1 a ha).1) hd.2.1 36 0 xFU false F μ (by omega) (by show 36 < 2000; omega) hp hF ⟨fun a ha => ⟨Nat.le_refl _, (h1 a ha).2⟩, fun z => (by cases z), fun _ a ha => rfl, fun a ha k k0 k5 hk kb kF => by omega⟩
    have e1' : J_X9_findFar_42 (J_X9_findFar_34 (f + 1)) xFU false 0 μ = J_X9_findFar_34 (f + 1) flag' μ' := e1
    rw [E_X9_findFar_34, if_neg xb_nt, e1']
    cases flag' with
    | true =>
      obtain ⟨a, ha, hlt⟩ := q2 rfl
      have := h3 a ha (by have := hb a ha; omega)
      have := (q1 a ha).2
      omega
    | false =>
      refine ⟨μ', by rw [E_X9_findFar_34, if_pos xb_f], fun c hc => ?_⟩
      rw [l1 c hc, q3 rfl c hc, h3 c hc (by have := hb c hc; omega)]
  | succ m ih =>
    intro i f F μ hi hf hp hF h1 h2 h3
    obtain ⟨f, rfl⟩ : ∃ z, f = z + 2 := ⟨f - 2, by omega⟩
    obtain ⟨flag', F', μ', e1, p1, l1, q1, q2, q3, q4⟩ := cell_loop (d := d) (F0 := F) (k34 := J_X9_findFar_34 (f + 1)) (fun a ha => (h1 a ha).1) hd.2.1 36 0 xFU false F μ (by omega) (by show 36 < 2000; omega) hp hF ⟨fun a ha => ⟨Nat.le_refl _, (h1 a ha).2⟩, fun z => (by cases z), fun _ a ha => rfl, fun a ha k k0 k5 hk kb kF => by omega⟩
    have e1' : J_X9_findFar_42 (J_X9_findFar_34 (f + 1)) xFU false 0 μ = J_X9_findFar_34 (f + 1) flag' μ' := e1
    rw [E_X9_findFar_34, if_neg xb_nt, e1']
    cases flag' with
    | true =>
      refine ih (i + 1) (f + 1) F' μ' (by omega) (by omega) p1 l1 (fun a ha => ⟨Nat.le_trans (q1 a ha).1 (h1 a ha).1, (q1 a ha).2⟩) (fun a ha g => ?_) (fun a ha hlt => ?_)
      · have := (q1 a ha).1
        rw [h2 a ha g] at this
        omega
      · by_cases g : G a
        · have := (q1 a ha).1
          rw [h2 a ha g] at this
          rw [hd.1 a ha g]
          omega
        · obtain ⟨k, k0, k5, kb, ke⟩ := hd.2.2 a ha g
          have hw := hp.1 a (xNb a k) ha kb
          have e2 := h3 (xNb a k) kb (by omega)
          have := q4 a ha k k0 k5 (by omega) kb (by rw [e2]; have := hb _ kb; omega)
          have := (q1 a ha).2
          omega
    | false =>
      have hF' : ∀ a, a < 36 → F' a = F a := q3 rfl
      have le := dist_le hp.1 (L := F') (fun c hc g => by rw [hF' c hc]; exact h2 c hc g) (fun c hc k k0 k5 kb => by
        by_cases z : F (xNb c k) = 1000000
        · rw [hF' _ kb, z]
          have := (q1 c hc).1
          have := (h1 c hc).1
          omega
        · rw [hF' _ kb]
          exact q4 c hc k k0 k5 (by omega) kb z) hd
      refine ⟨μ', by rw [E_X9_findFar_34, if_pos xb_f], fun c hc => ?_⟩
      have := le c hc
      have := (q1 c hc).2
      rw [l1 c hc, show F' c = d c by omega]
theorem finit_loop {g : Nat} (hg : g < 36) : ∀ (m j f : Nat) (μ : xS2), j + m = 36 → m < f → (∀ c, c < j → μ.1 62 c = nI (if c = g then 0 else 1000000)) →
    ∃ μ', J_X9_findFar_2 f (nI g) (nI j) μ = J_X9_findFar_34 xFU true μ' ∧ (∀ c, c < 36 → μ'.1 62 c = nI (if c = g then 0 else 1000000)) ∧ xFr [(62, 99)] μ μ' := by
  intro m
  induction m with
  | zero =>
    intro j f μ hj hf h
    obtain ⟨f, rfl⟩ : ∃ z, f = z + 1 := ⟨f - 1, by omega⟩
    obtain rfl : j = 36 := by omega
    exact ⟨μ, by rw [E_X9_findFar_2, if_pos (by decide)], h, xFr_rf⟩
  | succ m ih =>
    intro j f μ hj hf h
    obtain ⟨f, rfl⟩ : ∃ z, f = z + 1 := ⟨f - 1, by omega⟩
    have hj36 : j < 36 := by omega
    have key : J_X9_findFar_2 (f + 1) (nI g) (nI j) μ = J_X9_findFar_2 f (nI g) (nI (j + 1)) (yI μ 62 j (nI (if j = g then 0 else 1000000))) := by
      rw [E_X9_findFar_2, if_neg (k_nle (x := (36 : Int32)) 36 rfl (by decide) (by omega) hj36)]
      unfold J_X9_findFar_25
      rw [c_xin hj36 (by decide), nI_c (by omega), nI_1]
      simp only [xgd_t]
      by_cases z : j = g
      · rw [if_pos (by rw [z]), if_pos z]; rfl
      · rw [if_neg (c_ne (by omega) (by omega) z), if_neg z]; rfl
    obtain ⟨μ', e1, e2, e3⟩ := ih (j + 1) f (yI μ 62 j (nI (if j = g then 0 else 1000000))) (by omega) (by omega) (fun c hc => by
      show (if c = j then _ else μ.1 62 c) = _
      by_cases e : c = j
      · rw [if_pos e, e]
      · rw [if_neg e]; exact h c (by omega))
    exact ⟨μ', key.trans e1, e2, xFr_tq (xFr_yI xFr_rf rfl) e3⟩
/-- the reference's ways to a cell -/
theorem far_dist {g : Nat} {d : Nat → Nat} {pr : Nat → Nat → Nat} {μ : xS2} (hg : g < 36) (hp : xPrr μ pr) (hd : xDist (fun c => c = g) pr d) (hb : ∀ c, c < 36 → d c ≤ 260) : ∃ μ', J_X9_findFar (nI g) μ = some μ' ∧ xLf 62 d μ' ∧ xFr [(62, 99)] μ μ' := by
  obtain ⟨μ1, e1, h1, f1⟩ := finit_loop hg 36 0 xFU μ (by omega) (by show 36 < 2000; omega) (fun c hc => absurd hc (Nat.not_lt_zero c))
  obtain ⟨μ2, e2, h2⟩ := far_loop hd hb 262 0 xFU (fun c => if c = g then 0 else 1000000) μ1 (by omega) (by show 263 < 2000; omega) ⟨hp.1, fun a b ha hb => by rw [(f1 43 5 rfl).1, (f1 44 a rfl).1, (f1 44 b rfl).1]; exact hp.2 a b ha hb⟩ h1 (fun a ha => by
    show (if a = g then 0 else 1000000) ≤ 1000000 ∧ d a ≤ (if a = g then 0 else 1000000)
    by_cases e : a = g
    · rw [if_pos e, hd.1 a ha e]; omega
    · rw [if_neg e]; have := hb a ha; omega) (fun a ha e => by show (if a = g then 0 else 1000000) = 0; rw [if_pos e]) (fun a ha h => by omega)
  have e3 : J_X9_findFar (nI g) μ = some μ2 := e1.trans e2
  exact ⟨μ2, e3, h2, F_X9_findFar e3⟩
