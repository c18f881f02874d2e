/-! round: the class whole. -/
def xBest (g : Nat → Nat) (m k : Nat) : Prop := k < m ∧ ∀ j, j < m → g k ≤ g j ∧ (j < k → g k < g j)
theorem best_one {g : Nat → Nat} {m k l : Nat} (h : xBest g m k) (h2 : xBest g m l) : k = l := by
  have a := h.2 l h2.1
  have b := h2.2 k h.1
  by_cases q : k < l
  · have := b.2 q; omega
  · by_cases q2 : l < k
    · have := a.2 q2; omega
    · omega
theorem best_next {g : Nat → Nat} {m k : Nat} (h : xBest g m k) : (g k ≤ g m → xBest g (m + 1) k) ∧ (g m < g k → xBest g (m + 1) m) := by
  refine ⟨fun q => ⟨by have := h.1; omega, fun j hj => ?_⟩, fun q => ⟨by omega, fun j hj => ?_⟩⟩
  · by_cases e : j = m
    · rw [e]; exact ⟨q, fun z => by have := h.1; omega⟩
    · exact h.2 j (by omega)
  · by_cases e : j = m
    · rw [e]; exact ⟨Nat.le_refl _, fun z => by omega⟩
    · have := h.2 j (by omega); exact ⟨by omega, fun _ => by omega⟩
theorem best_0 {g : Nat → Nat} : xBest g 1 0 := ⟨by omega, fun j hj => by
  obtain rfl : j = 0 := by omega
  exact ⟨Nat.le_refl _, fun z => by omega⟩⟩
/-- what a round by stone i first costs -/
def xWh (m : Nat) (st : Nat → Nat) (B : Nat → Nat → Nat) (C dN : Nat → Nat) (i : Nat) : Nat := C i + xT B (fun j => dN (st j)) m (2 ^ m - 1 - 2 ^ i) i
theorem all_bt : ∀ m, m < 6 → ∀ i, i < m → bt (2 ^ m - 1) i = true ∧ 2 ^ m - 1 < 32 ∧ 0 < 2 ^ m := by decide +kernel
theorem wh_bd {m : Nat} {st : Nat → Nat} {B : Nat → Nat → Nat} {C dN : Nat → Nat} {i : Nat} (hb : xBn m st B C dN) (hst : ∀ a, a < m → st a < 36) (hi : i < m) : xWh m st B C dN i ≤ 10000 := by
  have h32 := pw32 m hb.1
  have hpi := Nat.two_pow_pos i
  have hpm := Nat.two_pow_pos m
  have h1 := xT_bd hb.1 hb.2.1 (N := fun j => dN (st j)) (fun a ha => hb.2.2.2 _ (hst a ha)) (2 ^ m) (2 ^ m - 1 - 2 ^ i) i (by omega) (by omega) hi
  have h2 := hb.2.2.1 i hi
  have h3 : 260 * (2 ^ m - 1 - 2 ^ i + 1) ≤ 260 * 32 := Nat.mul_le_mul_left _ (by omega)
  unfold xWh
  omega
theorem choose_loop {m : Nat} {st : Nat → Nat} {B : Nat → Nat → Nat} {C dN : Nat → Nat} (hb : xBn m st B C dN) (hst : ∀ a, a < m → st a < 36) : ∀ (q i f : Nat) (σ : xS2), i + q = m → q < f → xRs m st B C dN σ → xEn m B (fun j => dN (st j)) (2 ^ m) 0 σ →
    ((i = 0 ∧ σ.1 13 6 = nI 1000000 ∧ σ.1 13 7 = -1) ∨ ∃ k, xBest (xWh m st B C dN) i k ∧ σ.1 13 6 = nI (xWh m st B C dN k) ∧ σ.1 13 7 = nI (st k)) →
    ∃ σ', J_X6_chooseFirst_33 f (nI (2 ^ m - 1)) (nI i) σ = some σ' ∧ ((m = 0 ∧ σ'.1 13 6 = nI 1000000 ∧ σ'.1 13 7 = -1) ∨ ∃ k, xBest (xWh m st B C dN) m k ∧ σ'.1 13 6 = nI (xWh m st B C dN k) ∧ σ'.1 13 7 = nI (st k)) := by
  have h32 := pw32 m hb.1
  have hm6 := hb.1
  intro q
  induction q with
  | zero =>
    intro i f σ hi hf hr hE h
    obtain ⟨f, rfl⟩ : ∃ z, f = z + 1 := ⟨f - 1, by omega⟩
    obtain rfl : i = m := by omega
    exact ⟨σ, by rw [E_X6_chooseFirst_33, hr.1, if_pos (c_le (by omega) (by omega) (Nat.le_refl _))], h⟩
  | succ q ih =>
    intro i f σ hi hf hr hE h
    obtain ⟨f, rfl⟩ : ∃ z, f = z + 1 := ⟨f - 1, by omega⟩
    have him : i < m := by omega
    obtain ⟨ab, al, -⟩ := all_bt m hm6 i him
    have hpi := Nat.two_pow_pos i
    have hle := bt_le (2 ^ m - 1) al i (by omega) ab
    have hw : σ.1 16 i + σ.1 18 ((2 ^ m - 1 - 2 ^ i) * 5 + i) = nI (xWh m st B C dN i) := by
      rw [hr.2.2.2.1 i him, hE (2 ^ m - 1 - 2 ^ i) i (Or.inl (by omega)) him, nI_add]
      rfl
    have hwb := wh_bd hb hst him
    have kc : J_X6_chooseFirst_33 (f + 1) (nI (2 ^ m - 1)) (nI i) σ = if σ.1 13 6 ≤ nI (xWh m st B C dN i) then J_X6_chooseFirst_33 f (nI (2 ^ m - 1)) (nI (i + 1)) σ else J_X6_chooseFirst_33 f (nI (2 ^ m - 1)) (nI (i + 1)) (yI (yI σ 13 6 (nI (xWh m st B C dN i))) 13 7 (nI (st i))) := by
      rw [E_X6_chooseFirst_33, hr.1, if_neg (c_nle (by omega) (by omega) him), c_xin (by omega) (by decide), xgd_t, bt_rm (2 ^ m - 1) al i (by omega) ab, c_xin (by omega) (by decide), xgd_t, xgd_t, nI_c (n := i) (by omega), nI_c (n := (2 ^ m - 1 - 2 ^ i) * 5 + i) (by omega), hw, (hr.2.1 i him).2]
      unfold J_X6_chooseFirst_89
      rw [nI_1]
    have put : xRs m st B C dN (yI (yI σ 13 6 (nI (xWh m st B C dN i))) 13 7 (nI (st i))) := hr
    rw [kc]
    rcases h with ⟨rfl, h6, h7⟩ | ⟨k, hk, h6, h7⟩
    · rw [h6, if_neg (c_nle (by omega) (by omega) (by omega))]
      exact ih 1 f _ (by omega) (by omega) put hE (Or.inr ⟨0, best_0, rfl, rfl⟩)
    · have hkb := wh_bd hb hst (show k < m by have := hk.1; omega)
      obtain ⟨n1, n2⟩ := best_next hk
      rw [h6]
      by_cases z : xWh m st B C dN k ≤ xWh m st B C dN i
      · rw [if_pos (c_le (by omega) (by omega) z)]
        exact ih (i + 1) f σ (by omega) (by omega) hr hE (Or.inr ⟨k, n1 z, h6, h7⟩)
      · rw [if_neg (c_nle (by omega) (by omega) (by omega))]
        exact ih (i + 1) f _ (by omega) (by omega) put hE (Or.inr ⟨i, n2 (by omega), rfl, rfl⟩)
theorem choose_eq {m c : Nat} {st : Nat → Nat} {B : Nat → Nat → Nat} {C dN : Nat → Nat} {σ : xS2} (hb : xBn m st B C dN) (hst : ∀ a, a < m → st a < 36) (hc : c < 36) (hr : xRs m st B C dN σ) (hE : xEn m B (fun j => dN (st j)) (2 ^ m) 0 σ) :
    ∃ σ', J_X6_chooseFirst (nI (dN c)) σ = some σ' ∧ ((m = 0 ∧ σ'.1 13 6 = nI (dN c) ∧ σ'.1 13 7 = -1) ∨ ∃ k, xBest (xWh m st B C dN) m k ∧ σ'.1 13 6 = nI (xWh m st B C dN k) ∧ σ'.1 13 7 = nI (st k)) := by
  have hm6 := hb.1
  have h32 := pw32 m hb.1
  have e1 : nI (2 ^ m) - 1 = nI (2 ^ m - 1) := nI_sub1 (Nat.two_pow_pos m)
  by_cases z : m = 0
  · subst z
    refine ⟨yI (yI σ 13 6 (nI (dN c))) 13 7 (-1), ?_, Or.inl ⟨rfl, rfl, rfl⟩⟩
    unfold J_X6_chooseFirst J_X6_chooseFirst_14
    rw [hr.1, if_pos (by decide)]
    show J_X6_chooseFirst_33 (1999 + 1) _ 0 (yI (yI σ 13 6 (nI (dN c))) 13 7 (-1)) = _
    rw [E_X6_chooseFirst_33, show (yI (yI σ 13 6 (nI (dN c))) 13 7 (-1)).1 13 5 = nI 0 from hr.1, if_pos (by decide)]
  · obtain ⟨σ', e2, h⟩ := choose_loop hb hst m 0 xFU (yI (yI σ 13 6 (nI 1000000)) 13 7 (-1)) (by omega) (by show m < 2000; omega) hr hE (Or.inl ⟨rfl, rfl, rfl⟩)
    refine ⟨σ', ?_, ?_⟩
    · unfold J_X6_chooseFirst J_X6_chooseFirst_14
      rw [hr.1, if_neg (nI_ne0 (by omega) (by omega))]
      show J_X6_chooseFirst_33 xFU (((1 : Int32) <<< (nI m &&& 31)) - 1) (nI 0) (yI (yI σ 13 6 (nI 1000000)) 13 7 (-1)) = _
      rw [bt_pw m hm6, e1]
      exact e2
    · rcases h with ⟨h, -⟩ | h
      · exact absurd h z
      · exact Or.inr h
-- the ways between the stones
theorem row_49 {m i : Nat} {st : Nat → Nat} {d : Nat → Nat} {k13 : Nat → Int32 → xS2 → Option (Bool × xS2)} (hm6 : m < 6) (hst : ∀ a, a < m → st a < 36) (hi : i < m) : ∀ (q j f : Nat) (σ : xS2), j + q = m → q < f → σ.1 13 5 = nI m → (∀ a, a < m → σ.1 15 a = nI (st a)) → xLf 14 d σ →
    ∃ σ', J_X6_planRound_49 k13 f 3 (nI i) (nI j) σ = k13 3 (nI (i + 1)) σ' ∧ (∀ a, j ≤ a → a < m → σ'.1 17 (a * 5 + i) = nI (d (st a))) ∧ (∀ x, (∀ a, j ≤ a → a < m → x ≠ a * 5 + i) → σ'.1 17 x = σ.1 17 x) ∧ xFr [(17, 99)] σ σ' := by
  intro q
  induction q with
  | zero =>
    intro j f σ hj hf h5 h15 hd
    obtain ⟨f, rfl⟩ : ∃ z, f = z + 1 := ⟨f - 1, by omega⟩
    obtain rfl : j = m := by omega
    exact ⟨σ, by rw [E_X6_planRound_49, h5, if_pos (c_le (by omega) (by omega) (Nat.le_refl _)), nI_1], fun a h1 h2 => by omega, fun x _ => rfl, xFr_rf⟩
  | succ q ih =>
    intro j f σ hj hf h5 h15 hd
    obtain ⟨f, rfl⟩ : ∃ z, f = z + 1 := ⟨f - 1, by omega⟩
    have hjm : j < m := by omega
    have e5 : nI j * 5 + nI i = nI (j * 5 + i) := by rw [show (5 : Int32) = nI 5 from rfl, nI_mul, nI_add]
    obtain ⟨σ', r1, r2, r3, r4⟩ := ih (j + 1) f (yI σ 17 (j * 5 + i) (nI (d (st j)))) (by omega) (by omega) h5 h15 hd
    refine ⟨σ', ?_, fun a h1 h2 => ?_, fun x hx => ?_, xFr_tq (xFr_yI xFr_rf rfl) r4⟩
    · rw [E_X6_planRound_49, h5, if_neg (c_nle (by omega) (by omega) hjm), c_xin (by omega) (by decide), xgd_t, nI_c (by omega), h15 j hjm, cost_from hd (hst j hjm), Option.bind_some, e5, c_xin (by omega) (by decide), xgd_t, nI_c (by omega), nI_1]
      exact r1
    · by_cases e : a = j
      · subst e
        rw [r3 (a * 5 + i) (fun b h3 h4 => by omega)]
        show (if a * 5 + i = a * 5 + i then _ else _) = _
        rw [if_pos rfl]
      · exact r2 a (by omega) h2
    · rw [r3 x (fun a h1 h2 => hx a (by omega) h2)]
      show (if x = j * 5 + i then _ else σ.1 17 x) = _
      rw [if_neg (hx j (Nat.le_refl _) hjm)]
theorem row_13 {m c : Nat} {st : Nat → Nat} {pr : Nat → Nat → Nat} {D : Nat → Nat → Nat} {N : Nat → Nat} (hA : xAd pr D N) (hm6 : m < 6) (hst : ∀ a, a < m → st a < 36) (hc : c < 36) : ∀ (q i f : Nat) (σ : xS2), i + q = m → q < f → xPrs σ pr → σ.1 13 5 = nI m → (∀ a, a < m → σ.1 15 a = nI (st a)) → σ.1 3 0 = nI c →
    (∀ s, s < i → σ.1 16 s = nI (D (st s) c) ∧ ∀ a, a < m → σ.1 17 (a * 5 + s) = nI (D (st s) (st a))) →
    ∃ σ', J_X6_planRound_13 f 3 (nI i) σ = (J_X6_spreadTo (-1) σ').bind (J_X6_planRound_100 xFU 3 0) ∧ xPrs σ' pr ∧ σ'.1 13 5 = nI m ∧ (∀ a, a < m → σ'.1 15 a = nI (st a)) ∧ σ'.1 3 0 = nI c ∧ ∀ s, s < m → σ'.1 16 s = nI (D (st s) c) ∧ ∀ a, a < m → σ'.1 17 (a * 5 + s) = nI (D (st s) (st a)) := by
  intro q
  induction q with
  | zero =>
    intro i f σ hi hf hp h5 h15 h3 h
    obtain ⟨f, rfl⟩ : ∃ z, f = z + 1 := ⟨f - 1, by omega⟩
    obtain rfl : i = m := by omega
    refine ⟨σ, ?_, hp, h5, h15, h3, h⟩
    rw [E_X6_planRound_13, h5, if_pos (c_le (by omega) (by omega) (Nat.le_refl _))]
  | succ q ih =>
    intro i f σ hi hf hp h5 h15 h3 h
    obtain ⟨f, rfl⟩ : ∃ z, f = z + 1 := ⟨f - 1, by omega⟩
    have him : i < m := by omega
    have hs := hst i him
    obtain ⟨σ1, e1, l1, f1⟩ := spread_to (g := nI (st i)) (G := fun c => c = st i) hs rfl (goal_one hs) hp (hA.1 _ hs).1
    obtain ⟨σ2, r1, r2, r3, r4⟩ := row_49 (k13 := J_X6_planRound_13 f) (d := D (st i)) hm6 hst him m 0 xFU (yI σ1 16 i (nI (D (st i) c))) (by omega) (by show m < 2000; omega) ((f1 13 5 rfl).1.trans h5) (fun a ha => (f1 15 a rfl).1.trans (h15 a ha)) l1
    have k1 : J_X6_planRound_13 (f + 1) 3 (nI i) σ = J_X6_planRound_13 f 3 (nI (i + 1)) σ2 := by
      rw [E_X6_planRound_13, h5, if_neg (c_nle (by omega) (by omega) him), c_xin (by omega) (by decide), xgd_t, nI_c (by omega), h15 i him, e1, Option.bind_some, (f1 3 0 rfl).1, h3, cost_from l1 hc, Option.bind_some, xgd_t]
      exact r1
    rw [k1]
    have g16 : ∀ k, σ2.1 16 k = if k = i then nI (D (st i) c) else σ.1 16 k := fun k => by
      rw [(r4 16 k rfl).1]
      show (if k = i then _ else σ1.1 16 k) = _
      rw [(f1 16 k rfl).1]
    refine ih (i + 1) f σ2 (by omega) (by omega) (xPrs_fr hp (fun k => by rw [(r4 2 k rfl).1]; exact (f1 2 k rfl).1)) ?_ (fun a ha => ?_) ?_ (fun s hs1 => ⟨?_, fun a ha => ?_⟩)
    · rw [(r4 13 5 rfl).1]; exact (f1 13 5 rfl).1.trans h5
    · rw [(r4 15 a rfl).1]; exact (f1 15 a rfl).1.trans (h15 a ha)
    · rw [(r4 3 0 rfl).1]; exact (f1 3 0 rfl).1.trans h3
    · rw [g16]
      by_cases e : s = i
      · rw [if_pos e, e]
      · rw [if_neg e]; exact (h s (by omega)).1
    · by_cases e : s = i
      · rw [e]; exact r2 a (Nat.zero_le _) ha
      · rw [r3 (a * 5 + s) (fun b _ hb => by omega)]
        show σ1.1 17 (a * 5 + s) = _
        rw [(f1 17 _ rfl).1]
        exact (h s (by omega)).2 a ha
/-- the class's plan -/
theorem plan_eq {m c : Nat} {st : Nat → Nat} {pr : Nat → Nat → Nat} {D : Nat → Nat → Nat} {N : Nat → Nat} {σ : xS2} (hA : xAd pr D N) (hm : m ≤ 5) (hst : ∀ a, a < m → st a < 36) (hc : c < 36) (hp : xPrs σ pr) (h5 : σ.1 13 5 = nI m) (h15 : ∀ a, a < m → σ.1 15 a = nI (st a)) (h3 : σ.1 3 0 = nI c) :
    ∃ σ', J_X6_planRound_13 xFU 3 0 σ = some (true, σ') ∧ ((m = 0 ∧ σ'.1 13 6 = nI (N c) ∧ σ'.1 13 7 = -1) ∨ ∃ k, xBest (xWh m st (fun a b => D (st b) (st a)) (fun s => D (st s) c) N) m k ∧ σ'.1 13 6 = nI (xWh m st (fun a b => D (st b) (st a)) (fun s => D (st s) c) N k) ∧ σ'.1 13 7 = nI (st k)) := by
  have hm6 : m < 6 := by omega
  have h32 := pw32 m hm6
  obtain ⟨σ1, e1, p1, q5, q15, q3, qt⟩ := row_13 hA hm6 hst hc m 0 xFU σ (by omega) (by show m < 2000; omega) hp h5 h15 h3 (fun s hs => absurd hs (Nat.not_lt_zero s))
  have e1' : J_X6_planRound_13 xFU 3 0 σ = (J_X6_spreadTo (-1) σ1).bind (J_X6_planRound_100 xFU 3 0) := e1
  obtain ⟨σ2, e2, l2, f2⟩ := spread_to (g := -1) (G := fun c => c < 6) (e := 0) (by decide) (by decide) goal_north p1 hA.2.1
  have hb : xBn m st (fun a b => D (st b) (st a)) (fun s => D (st s) c) N := ⟨hm6, fun a b ha hb => (hA.1 _ (hst b hb)).2 _ (hst a ha), fun a ha => (hA.1 _ (hst a ha)).2 _ hc, hA.2.2⟩
  have hr : xRs m st (fun a b => D (st b) (st a)) (fun s => D (st s) c) N σ2 := ⟨(f2 13 5 rfl).1.trans q5, fun j hj => ⟨hst j hj, (f2 15 j rfl).1.trans (q15 j hj)⟩, fun a b ha hb => (f2 17 _ rfl).1.trans ((qt b hb).2 a ha), fun a ha => (f2 16 a rfl).1.trans (qt a ha).1, l2⟩
  obtain ⟨σ3, e3, r3, E3⟩ := row_100 hb hc (2 ^ m) 0 xFU σ2 (by omega) (by show 2 ^ m < 2000; omega) ((f2 3 0 rfl).1.trans q3) hr (fun s' i' h hi' => by omega)
  obtain ⟨σ4, e4, h4⟩ := choose_eq hb hst hc r3 E3
  have e3' : J_X6_planRound_100 xFU 3 0 σ2 = (J_X6_chooseFirst (nI (N c)) σ3).bind (fun x7 => some (true, x7)) := e3
  exact ⟨σ4, by rw [e1', e2, Option.bind_some, e3', e4, Option.bind_some], h4⟩
