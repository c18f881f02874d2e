/-! cheapest. -/
theorem cost_from {L : Nat → Nat} {σ : xS2} {c : Nat} (hL : xLf 14 L σ) (hc : c < 36) : J_X6_costFrom (nI c) σ = some (nI (L c)) := by
  have e : J_X3_isCell (nI c) = true := by
    rw [X3_isCell]
    exact X9_in_of (nI_rg (by rw [show (35 : Int32).toInt = 35 from rfl]; omega) (by omega))
  unfold J_X6_costFrom
  rw [e, if_neg xb_nt, c_xin hc (by decide), xgd_t, nI_c (by omega), hL c hc]
def xGw (pr : Nat → Nat → Nat) (L : Nat → Nat) (c k : Nat) : Prop := xNb c k < 36 ∧ L c = L (xNb c k) + pr c (xNb c k)
theorem first_one {pr : Nat → Nat → Nat} {L : Nat → Nat} {c w f : Nat} {σ : xS2} (hL : xLf 14 L σ) (hp : xPrs σ pr) (hb : ∀ c, c < 36 → L c ≤ 260) (hc : c < 36) (hw0 : 0 < w) (hw : w < 5) :
    (xGw pr L c w → J_X6_firstFrom_2 (f + 1) (nI c) (nI w) σ = some (nI (xNb c w))) ∧ (¬ xGw pr L c w → J_X6_firstFrom_2 (f + 1) (nI c) (nI w) σ = J_X6_firstFrom_2 f (nI c) (nI (w + 1)) σ) := by
  rw [E_X6_firstFrom_2, if_neg (k_nlt (x := (4 : Int32)) 4 rfl (by decide) (by omega) (by omega)), X3_nb c hc w hw hw0]
  unfold J_X6_firstFrom_44 xNbI
  rw [nI_1]
  by_cases q : xNb c w < 36
  · have h1 := hp.1 c (xNb c w) hc q
    have h2 := hb c hc
    have h3 := hb _ q
    rw [if_pos q, if_neg (nI_pos (by omega)), X3_price hc q, Option.bind_some, hp.2 c _ hc q, cost_from hL q, cost_from hL hc, Option.bind_some, Option.bind_some, nI_add]
    by_cases z : pr c (xNb c w) + L (xNb c w) = L c
    · rw [if_pos (by rw [z])]
      exact ⟨fun _ => rfl, fun n => absurd ⟨q, by omega⟩ n⟩
    · rw [if_neg (c_ne (by omega) (by omega) z)]
      exact ⟨fun n => absurd n.2.symm (fun y => z (by omega)), fun _ => rfl⟩
  · rw [if_neg q, if_pos (by decide)]
    exact ⟨fun n => absurd n.1 q, fun _ => rfl⟩
theorem cheap_one {pr : Nat → Nat → Nat} {L : Nat → Nat} {c w f : Nat} {μ : xS2} (hL : xLf 62 L μ) (hp : xPrr μ pr) (hb : ∀ c, c < 36 → L c ≤ 260) (hc : c < 36) (hw0 : 0 < w) (hw : w < 5) :
    (xGw pr L c w → J_X9_cheapest_73 (f + 1) (nI c) (nI w) μ = some (nI (xNb c w), μ)) ∧ (¬ xGw pr L c w → J_X9_cheapest_73 (f + 1) (nI c) (nI w) μ = J_X9_cheapest_73 f (nI c) (nI (w + 1)) μ) := by
  rw [E_X9_cheapest_73, X9_nb c hc w hw hw0]
  unfold J_X9_cheapest_110 xNbI
  rw [nI_1]
  by_cases q : xNb c w < 36
  · have h1 := hp.1 c (xNb c w) hc q
    have h2 := hb c hc
    have h3 := hb _ q
    rw [if_pos q, if_neg (nI_pos (by omega)), c_xin q (by decide), xgd_t, X9_costOf hc hw hw0 q, hp.2 c _ hc q, Option.bind_some, c_xin hc (by decide), xgd_t, nI_c (by omega), nI_c (by omega), hL _ q, hL c hc, nI_add]
    by_cases z : L (xNb c w) + pr c (xNb c w) = L c
    · rw [if_pos (by rw [z])]
      exact ⟨fun _ => rfl, fun n => absurd ⟨q, by omega⟩ n⟩
    · rw [if_neg (c_ne (by omega) (by omega) z)]
      exact ⟨fun n => absurd n.2.symm (fun y => z (by omega)), fun _ => rfl⟩
  · rw [if_neg q, if_pos (by decide)]
    exact ⟨fun n => absurd n.1 q, fun _ => rfl⟩
theorem first_none {pr : Nat → Nat → Nat} {L : Nat → Nat} {c : Nat} {σ : xS2} (hL : xLf 14 L σ) (hp : xPrs σ pr) (hb : ∀ c, c < 36 → L c ≤ 260) (hc : c < 36) : ∀ (m w f : Nat), w + m = 5 → 0 < w → m < f → (∀ k, w ≤ k → k < 5 → ¬ xGw pr L c k) → J_X6_firstFrom_2 f (nI c) (nI w) σ = some (-1) := by
  intro m
  induction m with
  | zero =>
    intro w f hw hw0 hf _
    obtain ⟨f, rfl⟩ : ∃ z, f = z + 1 := ⟨f - 1, by omega⟩
    obtain rfl : w = 5 := by omega
    rw [E_X6_firstFrom_2, if_pos (by decide)]
  | succ m ih =>
    intro w f hw hw0 hf h
    obtain ⟨f, rfl⟩ : ∃ z, f = z + 1 := ⟨f - 1, by omega⟩
    rw [(first_one hL hp hb hc hw0 (by omega)).2 (h w (Nat.le_refl _) (by omega))]
    exact ih (w + 1) f (by omega) (by omega) (by omega) (fun k hk hk5 => h k (by omega) hk5)
theorem first_both {pr : Nat → Nat → Nat} {L : Nat → Nat} {c : Nat} {σ μ : xS2} (hL : xLf 14 L σ) (hp : xPrs σ pr) (hM : xLf 62 L μ) (hp2 : xPrr μ pr) (hb : ∀ c, c < 36 → L c ≤ 260) (hc : c < 36) : ∀ (m w f g : Nat), w + m = 5 → 0 < w → m < f → m < g → (∃ k, w ≤ k ∧ k < 5 ∧ xGw pr L c k) →
    ∃ b, b < 36 ∧ J_X6_firstFrom_2 f (nI c) (nI w) σ = some (nI b) ∧ J_X9_cheapest_73 g (nI c) (nI w) μ = some (nI b, μ) := by
  intro m
  induction m with
  | zero =>
    intro w f g hw hw0 hf hg ⟨k, h1, h2, h3⟩
    omega
  | succ m ih =>
    intro w f g hw hw0 hf hg ⟨k, h1, h2, h3⟩
    obtain ⟨f, rfl⟩ : ∃ z, f = z + 1 := ⟨f - 1, by omega⟩
    obtain ⟨g, rfl⟩ : ∃ z, g = z + 1 := ⟨g - 1, by omega⟩
    by_cases q : xGw pr L c w
    · exact ⟨xNb c w, q.1, (first_one hL hp hb hc hw0 (by omega)).1 q, (cheap_one hM hp2 hb hc hw0 (by omega)).1 q⟩
    · rw [(first_one hL hp hb hc hw0 (by omega)).2 q, (cheap_one hM hp2 hb hc hw0 (by omega)).2 q]
      refine ih (w + 1) f g (by omega) (by omega) (by omega) (by omega) ⟨k, ?_, h2, h3⟩
      by_cases e : k = w
      · rw [e] at h3; exact absurd h3 q
      · omega
theorem isCell_nat {x : Int32} (h : J_X9_isCell x = true) : ∃ c : Nat, c < 36 ∧ x = nI c := by
  obtain ⟨c, hc, e⟩ := xRg_at (l := 35) (X9_rg 0 35 h rfl rfl)
  exact ⟨c, by omega, e⟩
theorem goal_one {g : Nat} (hg : g < 36) : ∀ c, c < 36 → ((if nI g = -1 then decide (c < 6) else decide (nI c = nI g)) = true ↔ c = g) := by
  intro c hc
  rw [if_neg (nI_nm1 (by omega)), decide_eq_true_eq]
  exact nI_eq (by omega) (by omega)
theorem step_cheapest : xStep_cheapest xIv := by
  intro a1 a2 σ hI
  obtain ⟨hP, hC, hT, hK, hU, hF, hL, hS, hW⟩ := id hI
  by_cases q1 : a1 < 0
  · exact ⟨-1, σ, σ, by unfold J_X8_cheapest; rw [if_pos q1], by unfold J_X9_cheapest; rw [if_pos q1], hI⟩
  · cases h1 : J_X9_isCell (a1 / 100) with
    | false => exact ⟨-1, σ, σ, by unfold J_X8_cheapest; rw [if_neg q1, X3_isCell, h1, if_pos xb_f], by unfold J_X9_cheapest; rw [if_neg q1, h1, if_pos xb_f], hI⟩
    | true =>
      cases h2 : J_X9_isCell (xrm a1 100) with
      | false => exact ⟨-1, σ, σ, by unfold J_X8_cheapest; rw [if_neg q1, X3_isCell, h1, if_neg xb_nt, X3_isCell, h2, if_pos xb_f], by unfold J_X9_cheapest; rw [if_neg q1, h1, if_neg xb_nt, h2, if_pos xb_f], hI⟩
      | true =>
        cases h3 : J_X9_in a2 0 1 with
        | false => exact ⟨-1, σ, σ, by unfold J_X8_cheapest; rw [if_neg q1, X3_isCell, h1, if_neg xb_nt, X3_isCell, h2, if_neg xb_nt, X8_oneOf2, h3, if_pos xb_f], by unfold J_X9_cheapest; rw [if_neg q1, h1, if_neg xb_nt, h2, if_neg xb_nt, h3, if_pos xb_f], hI⟩
        | true =>
          obtain ⟨c, hc, ec⟩ := isCell_nat h1
          obtain ⟨g, hg, eg⟩ := isCell_nat h2
          obtain ⟨pr, hp⟩ := xPrs_of hP
          obtain ⟨L, σ1, e1, l1, d1, b1, f1⟩ := spread_dist (g := nI g) (G := fun c => c = g) hg rfl (goal_one hg) hp
          have hp1 : xPrs σ1 pr := xPrs_fr hp (fun k => (f1 2 k rfl).1)
          have hpl : xPl σ σ1 := tw_P (xFr_rf (l := [])) f1 (by decide) (by decide) (xPl_of hP)
          obtain ⟨μ1, e2, l2, f2⟩ := far_dist (μ := σ1) hg (xPrr_of hp hpl) d1 b1
          have hp2 : xPrr μ1 pr := xPrr_of hp (tw_P (xFr_rf (l := [])) f2 (by decide) (by decide) hpl)
          have k8 : J_X8_cheapest a1 a2 σ = if a2 = 0 then some (nI (L c), σ1) else (J_X6_firstFrom (nI c) σ1).bind fun x10 => if 0 ≤ x10 then some (x10, σ1) else some (-2, σ1) := by
            unfold J_X8_cheapest
            rw [if_neg q1, X3_isCell, h1, if_neg xb_nt, X3_isCell, h2, if_neg xb_nt, X8_oneOf2, h3, if_neg xb_nt, ec, eg, e1, Option.bind_some, cost_from l1 hc, Option.bind_some]
          have k9 : J_X9_cheapest a1 a2 σ1 = if a2 = 0 then some (nI (L c), μ1) else if nI c = nI g then some (-2, μ1) else J_X9_cheapest_73 xFU (nI c) 1 μ1 := by
            unfold J_X9_cheapest
            rw [if_neg q1, h1, if_neg xb_nt, h2, if_neg xb_nt, h3, if_neg xb_nt, ec, eg, e2, Option.bind_some, c_xin hc (by decide), xgd_t, nI_c (by omega), l2 c hc]
          have fin : ∀ r, J_X8_cheapest a1 a2 σ = some (r, σ1) → J_X9_cheapest a1 a2 σ1 = some (r, μ1) → ∃ (r : Int32) (τ : xS2) (ρ : xS2), J_X8_cheapest a1 a2 σ = some (r, τ) ∧ J_X9_cheapest a1 a2 τ = some (r, ρ) ∧ xIv ρ := fun r k1 k2 =>
            ⟨r, σ1, μ1, k1, k2, xIP_f f1 f2 (by decide) (by decide) hP, xIC_f f1 f2 (by decide) (by decide) hC, xIT_f f1 f2 (by decide) (by decide) hT, xIK_f f1 f2 (by decide) (by decide) hK, xIU_f f1 f2 (by decide) (by decide) hU, xIF_f f1 f2 (by decide) (by decide) hF, xIL_f f1 f2 (by decide) (by decide) hL, xIS_f f1 f2 (by decide) (by decide) hS, xIW_f f1 f2 (by decide) (by decide) hW⟩
          by_cases z : a2 = 0
          · rw [if_pos z] at k8 k9
            exact fin _ k8 k9
          · rw [if_neg z] at k8 k9
            by_cases y : c = g
            · rw [if_pos (by rw [y])] at k9
              refine fin (-2) ?_ k9
              rw [k8]
              show (J_X6_firstFrom_2 xFU (nI c) (nI 1) σ1).bind _ = _
              rw [first_none l1 hp1 b1 hc 4 1 xFU (by omega) (by omega) (by show 4 < 2000; omega) (fun k hk hk5 hw => by
                have := hw.2
                rw [d1.1 c hc y] at this
                have := (hp.1 c _ hc hw.1).1
                omega), Option.bind_some, if_neg (by decide)]
            · rw [if_neg (c_ne (by omega) (by omega) y)] at k9
              obtain ⟨k, k0, k5, kb, ke⟩ := d1.2.2 c hc y
              obtain ⟨b, hb, r1, r2⟩ := first_both l1 hp1 l2 hp2 b1 hc 4 1 xFU xFU (by omega) (by omega) (by show 4 < 2000; omega) (by show 4 < 2000; omega) ⟨k, by omega, k5, kb, ke⟩
              refine fin (nI b) ?_ (k9.trans r2)
              rw [k8]
              show (J_X6_firstFrom_2 xFU (nI c) (nI 1) σ1).bind _ = _
              rw [r1, Option.bind_some, if_pos (nI_pos' (by omega))]
