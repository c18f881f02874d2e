/-! soonest: the step. -/
theorem fill_eq {o : Nat} (ho : (xSH o).2 = 360) : ∀ (m j f : Nat) (σ : xS2), j + m = 360 → m < f → (∀ k, k < j → σ.1 o k = -1) → ∃ τ, J_J7_fill_53178_5 f o (-1) (nI j) 360 σ = some τ ∧ (∀ k, k < 360 → τ.1 o k = -1) ∧ xFr [(o, 99)] σ τ := by
  intro m
  induction m with
  | zero =>
    intro j f σ hj hf h
    obtain ⟨f, rfl⟩ : ∃ z, f = z + 1 := ⟨f - 1, by omega⟩
    obtain rfl : j = 360 := by omega
    exact ⟨σ, by rw [E_J7_fill_53178_5, if_pos (by decide)], h, xFr_rf⟩
  | succ m ih =>
    intro j f σ hj hf h
    obtain ⟨f, rfl⟩ : ∃ z, f = z + 1 := ⟨f - 1, by omega⟩
    obtain ⟨τ, e1, e2, e3⟩ := ih (j + 1) f (yI σ o j (-1)) (by omega) (by omega) (fun k hk => by
      rw [yI_1, if_pos rfl]
      by_cases e : k = j
      · rw [if_pos e]
      · rw [if_neg e]; exact h k (by omega))
    refine ⟨τ, ?_, e2, xFr_tq (xFr_yI xFr_rf (by simp [xWn])) e3⟩
    rw [E_J7_fill_53178_5, if_neg (k_nle (x := (360 : Int32)) 360 rfl (by decide) (by omega) (by omega)), ho, c_xin (by omega) (by decide), xgd_t, nI_c (by omega), nI_1]
    exact e1
theorem rfill_eq {t : Int32} : ∀ (m j f : Nat) (μ : xS2), j + m = 360 → m < f → (∀ k, k < j → μ.1 64 k = -1) → ∃ τ, J_X9_goOn_2 f t (nI j) μ = J_X9_goOn_24 xFU t 0 τ ∧ (∀ k, k < 360 → τ.1 64 k = -1) ∧ xFr [(64, 99)] μ τ := by
  intro m
  induction m with
  | zero =>
    intro j f μ hj hf h
    obtain ⟨f, rfl⟩ : ∃ z, f = z + 1 := ⟨f - 1, by omega⟩
    obtain rfl : j = 360 := by omega
    exact ⟨μ, by rw [E_X9_goOn_2, if_pos (by decide)], h, xFr_rf⟩
  | succ m ih =>
    intro j f μ hj hf h
    obtain ⟨f, rfl⟩ : ∃ z, f = z + 1 := ⟨f - 1, by omega⟩
    obtain ⟨τ, e1, e2, e3⟩ := ih (j + 1) f (yI μ 64 j (-1)) (by omega) (by omega) (fun k hk => by
      rw [yI_1, if_pos rfl]
      by_cases e : k = j
      · rw [if_pos e]
      · rw [if_neg e]; exact h k (by omega))
    refine ⟨τ, ?_, e2, xFr_tq (xFr_yI xFr_rf rfl) e3⟩
    rw [E_X9_goOn_2, if_neg (k_nle (x := (360 : Int32)) 360 rfl (by decide) (by omega) (by omega)), c_xin (by omega) (by decide), xgd_t, nI_c (by omega), nI_1]
    exact e1
theorem rcopy_eq : ∀ (m j f : Nat) (μ : xS2), j + m = 360 → m < f → (∀ k, k < j → μ.1 63 k = μ.1 64 k) → ∃ τ, J_X9_goOn_141 f (nI j) μ = some τ ∧ (∀ k, k < 360 → τ.1 63 k = μ.1 64 k) := by
  intro m
  induction m with
  | zero =>
    intro j f μ hj hf h
    obtain ⟨f, rfl⟩ : ∃ z, f = z + 1 := ⟨f - 1, by omega⟩
    obtain rfl : j = 360 := by omega
    exact ⟨μ, by rw [E_X9_goOn_141, if_pos (by decide)], h⟩
  | succ m ih =>
    intro j f μ hj hf h
    obtain ⟨f, rfl⟩ : ∃ z, f = z + 1 := ⟨f - 1, by omega⟩
    obtain ⟨τ, e1, e2⟩ := ih (j + 1) f (yI μ 63 j (μ.1 64 j)) (by omega) (by omega) (fun k hk => by
      show (if k = j then μ.1 64 j else μ.1 63 k) = μ.1 64 k
      by_cases e : k = j
      · rw [if_pos e, e]
      · rw [if_neg e]; exact h k (by omega))
    refine ⟨τ, ?_, e2⟩
    rw [E_X9_goOn_141, if_neg (k_nle (x := (360 : Int32)) 360 rfl (by decide) (by omega) (by omega)), c_xin (by omega) (by decide), xgd_t, xgd_t, nI_c (by omega), nI_1]
    exact e1
theorem goon_eq {t : Nat} {σ μ : xS2} (ht : t < 60) (hp : xPl σ μ) (hw : xNw σ μ) : ∃ σ' μ', J_X4_goOn (nI t) σ = some σ' ∧ J_X9_goOn (nI t) μ = some μ' ∧ xPl σ' μ' ∧ xNw σ' μ' := by
  obtain ⟨σ1, a1, a2, a3⟩ := fill_eq (o := 21) rfl 360 0 xFU σ (by omega) (by show 360 < 2000; omega) (fun k hk => absurd hk (Nat.not_lt_zero k))
  obtain ⟨μ1, b1, b2, b3⟩ := rfill_eq (t := nI t) 360 0 xFU μ (by omega) (by show 360 < 2000; omega) (fun k hk => absurd hk (Nat.not_lt_zero k))
  have p1 : xPl σ1 μ1 := tw_P a3 b3 (by decide) (by decide) hp
  obtain ⟨σ2, μ2, c1, c2, c3, c4, c5⟩ := row_on ht 360 0 xFU xFU σ1 μ1 (by omega) (by show 360 < 2000; omega) (by show 360 < 2000; omega) p1 (fun k hk => by rw [(a3 20 k rfl).1, (b3 63 k rfl).1]; exact hw k hk) (fun k hk => ⟨by rw [a2 k hk, b2 k hk], Or.inl (a2 k hk)⟩)
  obtain ⟨μ3, d1, d2⟩ := rcopy_eq 360 0 xFU μ2 (by omega) (by show 360 < 2000; omega) (fun k hk => absurd hk (Nat.not_lt_zero k))
  have k1 : J_X4_goOn (nI t) σ = some (yCI σ2 21 0 20 0 360) := by
    unfold J_X4_goOn
    show (J_J7_fill_53178_5 xFU 21 (-1) (nI 0) 360 σ).bind _ = _
    rw [a1, Option.bind_some, X3_sun ht, Option.bind_some, X3_wind ht, Option.bind_some]
    exact c1
  have k2 : J_X9_goOn (nI t) μ = some μ3 := by
    unfold J_X9_goOn
    show J_X9_goOn_2 xFU (nI t) (nI 0) μ = _
    rw [b1]
    exact c2.trans d1
  have f1 := F_X4_goOn k1
  have f2 := F_X9_goOn k2
  refine ⟨_, _, k1, k2, tw_P f1 f2 (by decide) (by decide) hp, fun k hk => ?_⟩
  have e20 : (yCI σ2 21 0 20 0 360).1 20 k = σ2.1 21 k := by
    show va_cpy (σ2.1 21) (σ2.1 20) 0 0 360 k = _
    show (if 0 ≤ k ∧ k < 0 + 360 then σ2.1 21 (0 + (k - 0)) else σ2.1 20 k) = _
    rw [if_pos ⟨Nat.zero_le _, by omega⟩, Nat.zero_add, Nat.sub_zero]
  rw [e20, d2 k hk]
  exact c3 k hk
theorem most_loop {c : Nat} {σ μ : xS2} (hc : c < 36) (hw : xNw σ μ) : ∀ (m j f g : Nat) (r : Int32), j + m = 10 → m < f → m < g → ∃ r', J_X4_mostIn_4 f (nI c) r (nI j) σ = some r' ∧ J_X9_mostIn_4 g (nI c) r (nI j) μ = some r' := by
  intro m
  induction m with
  | zero =>
    intro j f g r hj hf hg
    obtain ⟨f, rfl⟩ : ∃ z, f = z + 1 := ⟨f - 1, by omega⟩
    obtain ⟨g, rfl⟩ : ∃ z, g = z + 1 := ⟨g - 1, by omega⟩
    obtain rfl : j = 10 := by omega
    exact ⟨r, by rw [E_X4_mostIn_4, if_pos (by decide)], by rw [E_X9_mostIn_4, if_pos (by decide)]⟩
  | succ m ih =>
    intro j f g r hj hf hg
    obtain ⟨f, rfl⟩ : ∃ z, f = z + 1 := ⟨f - 1, by omega⟩
    obtain ⟨g, rfl⟩ : ∃ z, g = z + 1 := ⟨g - 1, by omega⟩
    have e10 : nI c * 10 + nI j = nI (c * 10 + j) := by rw [show (10 : Int32) = nI 10 from rfl, nI_mul, nI_add]
    have e10' : 10 * nI c + nI j = nI (c * 10 + j) := by rw [Int32.mul_comm]; exact e10
    have n10 : ¬ (10 : Int32) ≤ nI j := k_nle (x := (10 : Int32)) 10 rfl (by decide) (by omega) (by omega)
    have w1 := (hw (c * 10 + j) (by omega)).1
    rw [E_X4_mostIn_4, E_X9_mostIn_4, if_neg n10, if_neg n10, e10, e10', c_xin (by omega) (by decide), xgd_t, xgd_t, xgd_t, nI_c (by omega), w1, nI_1]
    unfold J_X9_mostIn_37 xmax
    rw [nI_1]
    by_cases z : σ.1 20 (c * 10 + j) ≤ r
    · rw [if_pos z, if_neg (i_le_nlt z)]
      exact ih (j + 1) f g r (by omega) (by omega) (by omega)
    · rw [if_neg z, if_pos (i_nle z)]
      exact ih (j + 1) f g _ (by omega) (by omega) (by omega)
theorem most_eq {c : Nat} {σ μ : xS2} (hc : c < 36) (hw : xNw σ μ) : ∃ r, J_X4_mostIn (nI c) σ = some r ∧ J_X9_mostIn (nI c) μ = some r := most_loop hc hw 10 0 xFU xFU (-1) (by omega) (by show 10 < 2000; omega) (by show 10 < 2000; omega)
def xSoK (a2 : Int32) (x5 : Bool × xS2) : Option (Int32 × xS2) := if (xb x5.1) = 0 then some ((-2 : Int32), x5.2) else if a2 = 0 then some ((x5.2.1 19 3), x5.2) else some ((x5.2.1 19 4), x5.2)
theorem find_sim {t c l : Nat} {a2 : Int32} (hc : c < 36) (ht : t ≤ 60) (hl : l ≤ 20) (hl2 : l + t ≤ 60) (hl3 : l = 20 ∨ l + t = 60) : ∀ (m n f g : Nat) (σ μ : xS2), n + m = l → m + 1 < f → m + 1 < g → xPl σ μ → xNw σ μ → μ.1 43 7 = nI t →
    ∃ r σ' μ', ((J_X4_find_30 f (nI t) (nI c) (nI l) (nI n) σ).bind (xSoK a2)) = some (r, σ') ∧ J_X9_soonest_63 g (nI c) a2 (nI n) μ = some (r, μ') := by
  intro m
  induction m with
  | zero =>
    intro n f g σ μ hn hf hg hp hw h7
    obtain ⟨f, rfl⟩ : ∃ z, f = z + 2 := ⟨f - 2, by omega⟩
    obtain ⟨g, rfl⟩ : ∃ z, g = z + 2 := ⟨g - 2, by omega⟩
    obtain rfl : n = l := by omega
    obtain ⟨r, m1, m2⟩ := most_eq hc hw
    rw [E_X4_find_30, if_neg (c_nlt (by omega) (by omega) (Nat.le_refl _)), m1, Option.bind_some, E_X9_soonest_63, if_neg (k_nlt (x := (20 : Int32)) 20 rfl (by decide) (by omega) hl), m2, Option.bind_some, h7, nI_add]
    by_cases z : r < 0
    · rw [if_pos z, if_pos z, if_pos (c_le (by omega) (by omega) (Nat.le_refl _))]
      unfold J_X4_find_78
      rw [nI_1, E_X4_find_30, if_pos (c_lt (by omega) (by omega) (by omega)), Option.bind_some]
      by_cases y : t + n < 60
      · obtain ⟨σ1, μ1, -, g2, -, -⟩ := goon_eq y hp hw
        rw [if_pos (r_lt (x := (60 : Int32)) 60 rfl (by decide) (by omega) y), g2, Option.bind_some, E_X9_soonest_63, if_pos (show (20 : Int32) < nI (n + 1) from r_lt (x := nI (n + 1)) (n + 1) rfl (by omega) (b := 20) (by decide) (by omega))]
        exact ⟨-2, _, μ1, rfl, rfl⟩
      · rw [if_neg (r_nlt (x := (60 : Int32)) 60 rfl (by decide) (by omega) (by omega))]
        exact ⟨-2, _, μ, rfl, rfl⟩
    · rw [if_neg z, if_neg z, Option.bind_some]
      unfold xSoK
      rw [if_neg xb_nt]
      by_cases y : a2 = 0
      · rw [if_pos y, if_pos y]
        exact ⟨nI n, _, μ, rfl, rfl⟩
      · rw [if_neg y, if_neg y, Option.bind_some]
        exact ⟨r, _, μ, rfl, rfl⟩
  | succ m ih =>
    intro n f g σ μ hn hf hg hp hw h7
    obtain ⟨f, rfl⟩ : ∃ z, f = z + 1 := ⟨f - 1, by omega⟩
    obtain ⟨g, rfl⟩ : ∃ z, g = z + 1 := ⟨g - 1, by omega⟩
    obtain ⟨r, m1, m2⟩ := most_eq hc hw
    rw [E_X4_find_30, if_neg (c_nlt (by omega) (by omega) (by omega)), m1, Option.bind_some, E_X9_soonest_63, if_neg (k_nlt (x := (20 : Int32)) 20 rfl (by decide) (by omega) (by omega)), m2, Option.bind_some, h7, nI_add]
    have y : t + n < 60 := by omega
    by_cases z : r < 0
    · rw [if_pos z, if_pos z, if_neg (c_nle (by omega) (by omega) (by omega)), if_pos (r_lt (x := (60 : Int32)) 60 rfl (by decide) (by omega) y)]
      have hp1 : xPl (yI (yI σ 19 4 r) 19 3 (nI n)) μ := tw_P (l := [(19, 99)]) (xFr_yI (xFr_yI xFr_rf rfl) rfl) (xFr_rf (l := [])) (by decide) (by decide) hp
      obtain ⟨σ1, μ1, g1, g2, g3, g4⟩ := goon_eq y hp1 (fun k hk => hw k hk)
      have f2 := F_X9_goOn g2
      rw [g1, g2, Option.bind_some, Option.bind_some]
      unfold J_X4_find_78
      rw [nI_1]
      exact ih (n + 1) f g σ1 μ1 (by omega) (by omega) (by omega) g3 g4 ((f2 43 7 rfl).1.trans h7)
    · rw [if_neg z, if_neg z, Option.bind_some]
      unfold xSoK
      rw [if_neg xb_nt]
      by_cases y : a2 = 0
      · rw [if_pos y, if_pos y]
        exact ⟨nI n, _, μ, rfl, rfl⟩
      · rw [if_neg y, if_neg y, Option.bind_some]
        exact ⟨r, _, μ, rfl, rfl⟩
theorem sfill_eq {a1 a2 : Int32} : ∀ (m j f : Nat) (μ : xS2), j + m = 360 → m < f → (∀ k, k < j → μ.1 63 k = -1) → ∃ τ, J_X9_soonest_20 f a1 a2 (nI j) μ = (xgd (xin (((10 : Int32) * (τ.1 43 8)) + (τ.1 43 10)) 360) (J_X9_soonest_63 xFU a1 a2 (0 : Int32) (yI τ 63 (((10 : Int32) * (τ.1 43 8)) + (τ.1 43 10)).toNatClampNeg (τ.1 43 9)))) ∧ (∀ k, k < 360 → τ.1 63 k = -1) ∧ xFr [(63, 99)] μ τ := by
  intro m
  induction m with
  | zero =>
    intro j f μ hj hf h
    obtain ⟨f, rfl⟩ : ∃ z, f = z + 1 := ⟨f - 1, by omega⟩
    obtain rfl : j = 360 := by omega
    exact ⟨μ, by rw [E_X9_soonest_20, if_pos (by decide)], h, xFr_rf⟩
  | succ m ih =>
    intro j f μ hj hf h
    obtain ⟨f, rfl⟩ : ∃ z, f = z + 1 := ⟨f - 1, by omega⟩
    obtain ⟨τ, e1, e2, e3⟩ := ih (j + 1) f (yI μ 63 j (-1)) (by omega) (by omega) (fun k hk => by
      rw [yI_1, if_pos rfl]
      by_cases e : k = j
      · rw [if_pos e]
      · rw [if_neg e]; exact h k (by omega))
    refine ⟨τ, ?_, e2, xFr_tq (xFr_yI xFr_rf rfl) e3⟩
    rw [E_X9_soonest_20, if_neg (k_nle (x := (360 : Int32)) 360 rfl (by decide) (by omega) (by omega)), c_xin (by omega) (by decide), xgd_t, nI_c (by omega), nI_1]
    exact e1
/-- both, whole, in two memories -/
theorem soon_two {t c : Nat} {a2 : Int32} {σ μ : xS2} (hc : c < 36) (ht : t ≤ 60) (hp : xPl σ μ) (hct : xCt 3 σ μ) (h12 : σ.1 0 12 = nI t) (h7 : μ.1 43 7 = nI t) : ∃ r σ' μ', ((J_X4_find 3 (σ.1 0 12) (nI c) σ).bind (xSoK a2)) = some (r, σ') ∧ J_X9_soonest_20 xFU (nI c) a2 0 μ = some (r, μ') := by
  obtain ⟨cc, s, d, hcc, hs, hd, h0, h1, h2, m8, m9, m10, hl⟩ := hct
  obtain ⟨σ1, a1, a2', a3⟩ := fill_eq (o := 20) rfl 360 0 xFU σ (by omega) (by show 360 < 2000; omega) (fun k hk => absurd hk (Nat.not_lt_zero k))
  obtain ⟨μ1, b1, b2, b3⟩ := sfill_eq (a1 := nI c) (a2 := a2) 360 0 xFU μ (by omega) (by show 360 < 2000; omega) (fun k hk => absurd hk (Nat.not_lt_zero k))
  have e10 : nI cc * 10 + nI d = nI (cc * 10 + d) := by rw [show (10 : Int32) = nI 10 from rfl, nI_mul, nI_add]
  have e10' : 10 * nI cc + nI d = nI (cc * 10 + d) := by rw [Int32.mul_comm]; exact e10
  have kb : cc * 10 + d < 360 := by omega
  have k1 : J_X4_arrive 20 3 σ1 = some (yI σ1 20 (cc * 10 + d) (nI s)) := by
    unfold J_X4_arrive
    rw [(a3 3 0 rfl).1, (a3 3 2 rfl).1, (a3 3 1 rfl).1, h0, h2, h1, e10, if_neg (nI_pos (by omega)), show Int32.ofNat (xSH 20).2 = 360 from rfl, if_neg (k_nle (x := (360 : Int32)) 360 rfl (by decide) (by omega) kb), show xin (nI (cc * 10 + d)) (xSH 20).2 = true from c_xin kb (by decide), xgd_t, xgd_t, nI_c (by omega), a2' _ kb]
    have : xmax (-1) (nI s) = nI s := by
      unfold xmax
      rw [if_pos]
      rw [Int32.lt_iff_toInt_lt, nI_toInt (by omega), show (-1 : Int32).toInt = -1 from by decide]
      omega
    rw [this]
  have hl' : xmin 20 (60 - nI t) = nI (if 60 - t < 20 then 60 - t else 20) := by
    rw [show (60 : Int32) - nI t = nI (60 - t) from nI_sub (a := 60) ht (by decide)]
    unfold xmin
    by_cases z : 60 - t < 20
    · rw [if_pos z, if_pos (show nI (60 - t) < (20 : Int32) from k_lt (x := nI (60 - t)) (60 - t) rfl (by omega) (b := 20) (by decide) z)]
    · rw [if_neg z, if_neg (show ¬ nI (60 - t) < (20 : Int32) from k_nlt (x := nI (60 - t)) (60 - t) rfl (by omega) (b := 20) (by decide) (by omega))]
      rfl
  have p1 : xPl σ1 μ1 := tw_P a3 b3 (by decide) (by decide) hp
  obtain ⟨r, σ', μ', r1, r2⟩ := find_sim (a2 := a2) (l := if 60 - t < 20 then 60 - t else 20) hc ht (by split <;> omega) (by split <;> omega) (by split <;> omega) (if 60 - t < 20 then 60 - t else 20) 0 xFU xFU (yI σ1 20 (cc * 10 + d) (nI s)) (yI μ1 63 (cc * 10 + d) (nI s)) (by omega) (by show _ < 2000; split <;> omega) (by show _ < 2000; split <;> omega)
    (tw_P (l := [(20, 99)]) (l2 := [(63, 99)]) (xFr_yI xFr_rf rfl) (xFr_yI xFr_rf rfl) (by decide) (by decide) p1)
    (fun k hk => by
      show (if k = cc * 10 + d then nI s else μ1.1 63 k) = (if k = cc * 10 + d then nI s else σ1.1 20 k) ∧ ((if k = cc * 10 + d then nI s else σ1.1 20 k) = -1 ∨ xRg (if k = cc * 10 + d then nI s else σ1.1 20 k) 0 99)
      by_cases e : k = cc * 10 + d
      · rw [if_pos e, if_pos e]
        exact ⟨rfl, Or.inr (nI_rg (by omega) (by omega))⟩
      · rw [if_neg e, if_neg e, a2' k hk, b2 k hk]
        exact ⟨rfl, Or.inl rfl⟩)
    ((b3 43 7 rfl).1.trans h7)
  refine ⟨r, σ', μ', ?_, ?_⟩
  · unfold J_X4_find
    show (((J_J7_fill_53178_5 xFU 20 (-1) (nI 0) 360 σ).bind _).bind _) = _
    rw [a1, Option.bind_some, k1, Option.bind_some, h12, hl']
    exact r1
  · have b1' : J_X9_soonest_20 xFU (nI c) a2 0 μ = _ := b1
    rw [b1', (b3 43 8 rfl).1, (b3 43 9 rfl).1, (b3 43 10 rfl).1, m8, m9, m10, e10', c_xin kb (by decide), xgd_t, nI_c (by omega)]
    exact r2
theorem step_soonest : xStep_soonest xIv := by
  intro a1 a2 σ hI
  obtain ⟨hP, hC, hT, hK, hU, hF, hL, hS, hW⟩ := id hI
  cases h1 : J_X9_isCell a1 with
  | false => exact ⟨-1, σ, σ, by unfold J_X8_soonest; rw [X3_isCell, h1, if_pos xb_f], by unfold J_X9_soonest; rw [h1, if_pos xb_f], hI⟩
  | true =>
    cases h3 : J_X9_in a2 0 1 with
    | false => exact ⟨-1, σ, σ, by unfold J_X8_soonest; rw [X3_isCell, h1, if_neg xb_nt, X8_oneOf2, h3, if_pos xb_f], by unfold J_X9_soonest; rw [h1, if_neg xb_nt, h3, if_pos xb_f], hI⟩
    | true =>
      obtain ⟨c, hc, rfl⟩ := isCell_nat h1
      obtain ⟨t, ht, et⟩ := xRg_at (l := 60) hT.1.2
      obtain ⟨r, τ, -, e1, -⟩ := soon_two (a2 := a2) hc ht (xPl_of hP) (xCt_3 hC) et (hT.1.1.trans et)
      have k1 : J_X8_soonest (nI c) a2 σ = some (r, τ) := by
        unfold J_X8_soonest
        rw [X3_isCell, h1, if_neg xb_nt, X8_oneOf2, h3, if_neg xb_nt]
        exact e1
      have f1 := F_X8_soonest k1
      obtain ⟨r2, τ2, ρ, e2, e3⟩ := soon_two (a2 := a2) (σ := σ) (μ := τ) hc ht (tw_P (xFr_rf (l := [])) f1 (by decide) (by decide) (xPl_of hP)) (tw_C (xFr_rf (l := [])) f1 (by decide) (by decide) (xCt_3 hC)) et ((f1 43 7 rfl).1.trans (hT.1.1.trans et))
      obtain ⟨rfl, rfl⟩ := xso2 (e2.symm.trans e1)
      have k2 : J_X9_soonest (nI c) a2 τ2 = some (r2, ρ) := by
        unfold J_X9_soonest
        rw [h1, if_neg xb_nt, h3, if_neg xb_nt]
        exact e3
      have f2 := F_X9_soonest k2
      exact ⟨r2, τ2, ρ, k1, k2, xIP_f f1 f2 (by decide) (by decide) hP, xIC_f f1 f2 (by decide) (by decide) hC, xIT_f f1 f2 (by decide) (by decide) hT, xIK_f f1 f2 (by decide) (by decide) hK, xIU_f f1 f2 (by decide) (by decide) hU, xIF_f f1 f2 (by decide) (by decide) hF, xIL_f f1 f2 (by decide) (by decide) hL, xIS_f f1 f2 (by decide) (by decide) hS, xIW_f f1 f2 (by decide) (by decide) hW⟩
