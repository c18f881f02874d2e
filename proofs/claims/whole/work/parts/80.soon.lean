/-! soonest: one cart tried, in class and reference. -/
theorem lu_stay {σ : xS2} {c : Nat} {t u v : Int32} (hc : c < 36) (h0 : σ.1 22 0 = nI c) : ∃ τ, J_X0_liveUnder 22 t (nI 0) u v σ = some (true, τ) ∧ τ.1 22 0 = nI c ∧ τ.1 22 1 = xStoT (σ.1 22 1) u (σ.1 22 2) (xHollow (σ.1 2) c) ∧ τ.1 22 2 = xDuT (σ.1 22 2) t v (xHollow (σ.1 2) c) := by
  obtain ⟨τ, e, t0, t1, t2, -⟩ := live31 (o := 22) (t := t) (u := u) (v := v) (b := true) hc h0
  refine ⟨τ, ?_, t0, t1, t2⟩
  rw [← e]
  unfold J_X0_liveUnder
  rw [if_neg (by decide), if_pos (by decide)]
  rfl
theorem lu_way {σ : xS2} {c n s p : Nat} {t u v : Int32} (hc : c < 36) (n0 : 0 < n) (n5 : n < 5) (h0 : σ.1 22 0 = nI c) (h1 : σ.1 22 1 = nI s) (hs : s ≤ 99) :
    (∀ p, p ≤ 60 → xNb c n < 36 → xPrice (σ.1 2 192) (σ.1 2 c) (σ.1 2 (xNb c n)) = nI p → p ≤ s → ∃ τ, J_X0_liveUnder 22 t (nI n) u v σ = some (true, τ) ∧ τ.1 22 0 = nI (xNb c n) ∧ τ.1 22 1 = xStoT (nI (s - p)) u (σ.1 22 2) (xHollow (σ.1 2) (xNb c n)) ∧ τ.1 22 2 = xDuT (σ.1 22 2) t v (xHollow (σ.1 2) (xNb c n))) ∧
    ((xNb c n < 36 → ∃ p, p ≤ 60 ∧ xPrice (σ.1 2 192) (σ.1 2 c) (σ.1 2 (xNb c n)) = nI p ∧ s < p) → ∃ τ, J_X0_liveUnder 22 t (nI n) u v σ = some (false, τ)) := by
  have el : J_X0_liveUnder 22 t (nI n) u v σ = (J_X0_move 22 (nI n) σ).bind fun x8 => if xb x8.1 = 0 then J_X0_liveUnder_31 22 t u v false x8.2 else J_X0_liveUnder_26 22 t u v x8.2 := by
    unfold J_X0_liveUnder
    rw [if_neg (r_ne (x := (5 : Int32)) 5 rfl (by decide) (by omega) (by omega)), if_neg (nI_ne0 n0 (by omega))]
  have em : J_X0_move 22 (nI n) σ = if xNb c n < 36 then (if xPrice (σ.1 2 192) (σ.1 2 c) (σ.1 2 (xNb c n)) ≤ nI s then some (true, yI (yI σ 22 1 (nI s - xPrice (σ.1 2 192) (σ.1 2 c) (σ.1 2 (xNb c n)))) 22 0 (nI (xNb c n))) else some (false, σ)) else some (false, σ) := by
    unfold J_X0_move
    rw [h0, h1, X3_nb c hc n n5 n0]
    unfold xNbI
    by_cases q : xNb c n < 36
    · rw [if_pos q, if_pos q, if_pos (nI_pos' (by omega)), X3_price hc q, Option.bind_some]
    · rw [if_neg q, if_neg q, if_neg (by decide)]
  have no : J_X0_move 22 (nI n) σ = some (false, σ) → ∃ τ, J_X0_liveUnder 22 t (nI n) u v σ = some (false, τ) := by
    intro h
    obtain ⟨τ, e, -⟩ := live31 (o := 22) (t := t) (u := u) (v := v) (b := false) hc h0
    exact ⟨τ, by rw [el, h, Option.bind_some, if_pos xb_f]; exact e⟩
  refine ⟨fun p hp q ep hps => ?_, fun h => ?_⟩
  · rw [if_pos q, ep, if_pos (c_le (by omega) (by omega) hps), nI_sub hps (by omega)] at em
    obtain ⟨τ, e, t0, t1, t2, -⟩ := live31 (o := 22) (t := t) (u := u) (v := v) (b := true) (σ := yI (yI σ 22 1 (nI (s - p))) 22 0 (nI (xNb c n))) q rfl
    refine ⟨τ, ?_, t0, t1, t2⟩
    rw [el, em, Option.bind_some, if_neg xb_nt]
    exact e
  · by_cases q : xNb c n < 36
    · obtain ⟨p, hp, ep, hsp⟩ := h q
      rw [if_pos q, ep, if_neg (c_nle (by omega) (by omega) hsp)] at em
      exact no em
    · rw [if_neg q] at em
      exact no em
def xNx (σ μ : xS2) : Prop := ∀ k, k < 360 → μ.1 64 k = σ.1 21 k ∧ (σ.1 21 k = -1 ∨ xRg (σ.1 21 k) 0 99)
theorem arr_eq {σ μ : xS2} {c s d t : Nat} (hc : c < 36) (hd : d ≤ 9) (ht : t < 60) (hp : xPl σ μ) (hx : xNx σ μ) (h0 : σ.1 22 0 = nI c) (h1 : σ.1 22 1 = xStoT (nI s) (σ.1 2 (72 + t)) (nI d) (xHollow (σ.1 2) c)) (h2 : σ.1 22 2 = xDuT (nI d) (nI t) (σ.1 2 (132 + t)) (xHollow (σ.1 2) c)) :
    ∃ σ' μ', J_X4_arrive 21 22 σ = some σ' ∧ J_X9_come (nI c) (nI s) (nI d) (nI t) μ = some μ' ∧ xNx σ' μ' := by
  have hp44 : ∀ k, k < 36 → σ.1 2 k = μ.1 44 k := fun k hk => by
    have := (hp 0 k (by decide) hk).1
    rw [show xBg 0 = 0 from rfl, Nat.zero_add] at this
    exact this.symm
  obtain ⟨es, -⟩ := sun_at hp ht
  obtain ⟨ew, -⟩ := wind_at hp ht
  obtain ⟨S, hS, eS⟩ := xStoT_rg (nI s) (σ.1 2 (72 + t)) (nI d) (xHollow (σ.1 2) c)
  obtain ⟨D, hD, eD⟩ := xDuT_rg (d := d) (nI t) (σ.1 2 (132 + t)) (xHollow (σ.1 2) c) hd
  rw [eS] at h1
  rw [eD] at h2
  have e10 : nI c * 10 + nI D = nI (c * 10 + D) := by rw [show (10 : Int32) = nI 10 from rfl, nI_mul, nI_add]
  have e10' : 10 * nI c + nI D = nI (c * 10 + D) := by rw [Int32.mul_comm]; exact e10
  have kb : c * 10 + D < 360 := by omega
  obtain ⟨x1, x2⟩ := hx _ kb
  have k1 : J_X4_arrive 21 22 σ = some (yI σ 21 (c * 10 + D) (xmax (σ.1 21 (c * 10 + D)) (nI S))) := by
    unfold J_X4_arrive
    rw [h0, h2, h1, e10, if_neg (nI_pos (by omega)), show Int32.ofNat (xSH 21).2 = 360 from rfl, if_neg (k_nle (x := (360 : Int32)) 360 rfl (by decide) (by omega) kb), show xin (nI (c * 10 + D)) (xSH 21).2 = true from c_xin kb (by decide), xgd_t, xgd_t, nI_c (by omega)]
  have k2 : J_X9_come (nI c) (nI s) (nI d) (nI t) μ = some (if nI S ≤ μ.1 64 (c * 10 + D) then μ else yI μ 64 (c * 10 + D) (nI S)) := by
    unfold J_X9_come
    rw [X9_isHollow hc, Option.bind_some, ← xHollow_eq hc hp44, c_xin ht (by decide), xgd_t, xgd_t, nI_c (by omega), es, ew, X9_dustThen_eq _ _ _ hd, eD, X9_storeThen_eq, eS, e10', c_xin kb (by decide), xgd_t, xgd_t, nI_c (by omega)]
    by_cases z : nI S ≤ μ.1 64 (c * 10 + D)
    · rw [if_pos z, if_pos z]
    · rw [if_neg z, if_neg z]
  refine ⟨_, _, k1, k2, fun k hk => ?_⟩
  have eqv : (if nI S ≤ μ.1 64 (c * 10 + D) then μ else yI μ 64 (c * 10 + D) (nI S)).1 64 k = if k = c * 10 + D then xmax (σ.1 21 (c * 10 + D)) (nI S) else μ.1 64 k := by
    unfold xmax
    by_cases z : nI S ≤ μ.1 64 (c * 10 + D)
    · have z' := z
      rw [x1] at z'
      rw [if_pos z, if_neg (i_le_nlt z')]
      by_cases e : k = c * 10 + D
      · rw [if_pos e, e, x1]
      · rw [if_neg e]
    · rw [if_neg z]
      rw [x1] at z
      rw [if_pos (i_nle z)]
      show (if k = c * 10 + D then nI S else μ.1 64 k) = _
      rfl
  rw [eqv]
  show _ = (if k = c * 10 + D then xmax (σ.1 21 (c * 10 + D)) (nI S) else σ.1 21 k) ∧ ((if k = c * 10 + D then xmax (σ.1 21 (c * 10 + D)) (nI S) else σ.1 21 k) = -1 ∨ xRg (if k = c * 10 + D then xmax (σ.1 21 (c * 10 + D)) (nI S) else σ.1 21 k) 0 99)
  by_cases e : k = c * 10 + D
  · rw [if_pos e, if_pos e]
    refine ⟨rfl, ?_⟩
    unfold xmax
    by_cases z : σ.1 21 (c * 10 + D) < nI S
    · rw [if_pos z]; exact Or.inr (nI_rg (by omega) (by omega))
    · rw [if_neg z]; exact x2
  · rw [if_neg e, if_neg e]
    exact hx k hk
