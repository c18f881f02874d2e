/-! The cheapest ways in the class: the nearest first. -/
def xLf (o : Nat) (L : Nat → Nat) (σ : xS2) : Prop := ∀ c, c < 36 → σ.1 o c = nI (L c)
theorem near_loop {Z : Int64} {σ : xS2} {L : Nat → Nat} (hL : xLf 14 L σ) (hb : ∀ c, c < 36 → L c < 2147483648) : ∀ (m j f : Nat) (r : Int32), j + m = 36 → m < f →
    ((r = -1 ∧ ∀ c, c < j → Z.toBitVec.getLsbD c = true) ∨ ∃ x, x < j ∧ r = nI x ∧ Z.toBitVec.getLsbD x = false ∧ ∀ c, c < j → Z.toBitVec.getLsbD c = false → L x ≤ L c) →
    ∃ r', J_X6_nearest_5 f Z r (nI j) σ = some r' ∧ ((r' = -1 ∧ ∀ c, c < 36 → Z.toBitVec.getLsbD c = true) ∨ ∃ x, x < 36 ∧ r' = nI x ∧ Z.toBitVec.getLsbD x = false ∧ ∀ c, c < 36 → Z.toBitVec.getLsbD c = false → L x ≤ L c) := by
  intro m
  induction m with
  | zero =>
    intro j f r hj hf h
    obtain ⟨f, rfl⟩ : ∃ z, f = z + 1 := ⟨f - 1, by omega⟩
    obtain rfl : j = 36 := by omega
    exact ⟨r, by rw [E_X6_nearest_5, if_pos (by decide)], h⟩
  | succ m ih =>
    intro j f r hj hf h
    obtain ⟨f, rfl⟩ : ∃ z, f = z + 1 := ⟨f - 1, by omega⟩
    have hj36 : j < 36 := by omega
    have hbit : (lg_cmp (xlu Z (nI j) &&& 1) 0 = 0) ↔ Z.toBitVec.getLsbD j = false := by
      rw [and1, xlu_0 hj36]
      cases Z.toBitVec.getLsbD j <;> simp <;> decide
    rw [E_X6_nearest_5, if_neg (k_nle (x := (36 : Int32)) 36 rfl (by decide) (by omega) hj36)]
    unfold J_X6_nearest_43 J_X6_nearest_46
    rw [nI_1]
    by_cases z : Z.toBitVec.getLsbD j = false
    · rw [if_pos (hbit.mpr z)]
      rcases h with ⟨rfl, h2⟩ | ⟨x, hx, rfl, h3, h4⟩
      · rw [if_pos (show (-1 : Int32) < 0 by decide)]
        refine ih (j + 1) f (nI j) (by omega) (by omega) (Or.inr ⟨j, by omega, rfl, z, fun c hc hz => ?_⟩)
        by_cases e : c = j
        · rw [e]; omega
        · have := h2 c (by omega)
          rw [this] at hz; cases hz
      · rw [if_neg (nI_pos (by omega)), c_xin hj36 (by decide), xgd_t, c_xin (by omega) (by decide), xgd_t, nI_c (by omega), nI_c (by omega), hL x (by omega), hL j hj36]
        by_cases q : L x ≤ L j
        · rw [if_pos (c_le (hb x (by omega)) (hb j hj36) q)]
          refine ih (j + 1) f (nI x) (by omega) (by omega) (Or.inr ⟨x, by omega, rfl, h3, fun c hc hz => ?_⟩)
          by_cases e : c = j
          · rw [e]; exact q
          · exact h4 c (by omega) hz
        · rw [if_neg (c_nle (hb x (by omega)) (hb j hj36) (by omega))]
          refine ih (j + 1) f (nI j) (by omega) (by omega) (Or.inr ⟨j, by omega, rfl, z, fun c hc hz => ?_⟩)
          by_cases e : c = j
          · rw [e]; omega
          · have := h4 c (by omega) hz
            omega
    · rw [if_neg (fun y => z (hbit.mp y))]
      refine ih (j + 1) f r (by omega) (by omega) ?_
      rcases h with ⟨h1, h2⟩ | ⟨x, hx, h1, h3, h4⟩
      · refine Or.inl ⟨h1, fun c hc => ?_⟩
        by_cases e : c = j
        · rw [e]; exact Bool.not_eq_false _ ▸ (by simpa using z)
        · exact h2 c (by omega)
      · refine Or.inr ⟨x, by omega, h1, h3, fun c hc hz => ?_⟩
        by_cases e : c = j
        · rw [e] at hz; exact absurd hz z
        · exact h4 c (by omega) hz
/-- one cell's neighbours brought down -/
def xRel (pr : Nat → Nat → Nat) (x w : Nat) (L M : Nat → Nat) : Prop := M x = L x ∧ (∀ a, a < 36 → M a ≤ L a ∧ (M a = L a ∨ ∃ k, 0 < k ∧ k < 5 ∧ xNb x k = a ∧ M a = pr a x + L x)) ∧ ∀ k, 0 < k → k < w → xNb x k < 36 → M (xNb x k) ≤ pr (xNb x k) x + L x
theorem from_loop {pr : Nat → Nat → Nat} {x : Nat} {L : Nat → Nat} (hx : x < 36) (hb : ∀ c, c < 36 → L c ≤ 1000000) : ∀ (m w f : Nat) (M : Nat → Nat) (σ : xS2), w + m = 5 → 0 < w → m < f → xPrs σ pr → xLf 14 M σ → xRel pr x w L M → ∃ M' σ', J_X6_spreadFrom_2 f (nI x) (nI w) σ = some σ' ∧ xLf 14 M' σ' ∧ xRel pr x 5 L M' := by
  intro m
  induction m with
  | zero =>
    intro w f M σ hw hw0 hf hp hM hr
    obtain ⟨f, rfl⟩ : ∃ z, f = z + 1 := ⟨f - 1, by omega⟩
    obtain rfl : w = 5 := by omega
    exact ⟨M, σ, by rw [E_X6_spreadFrom_2, if_pos (by decide)], hM, hr⟩
  | succ m ih =>
    intro w f M σ hw hw0 hf hp hM hr
    obtain ⟨f, rfl⟩ : ∃ z, f = z + 1 := ⟨f - 1, by omega⟩
    rw [E_X6_spreadFrom_2, if_neg (k_nlt (x := (4 : Int32)) 4 rfl (by decide) (by omega) (by omega)), X3_nb x hx w (by omega) hw0]
    unfold J_X6_spreadFrom_50 xNbI
    rw [nI_1]
    by_cases q : xNb x w < 36
    · have hne := nb_ne x hx w (by omega) hw0 q
      have e1 := hr.1
      have hMb : ∀ a, a < 36 → M a ≤ 1000000 := fun a ha => Nat.le_trans (hr.2.1 a ha).1 (hb a ha)
      have hpp := hp.1 (xNb x w) x q hx
      rw [if_pos q, if_neg (nI_pos (by omega)), c_xin q (by decide), xgd_t, X3_price q hx, Option.bind_some, hp.2 _ _ q hx, c_xin hx (by decide), xgd_t, xgd_t, nI_c (by omega), nI_c (by omega), hM _ q, hM x hx, e1, nI_add]
      have emin : xmin (nI (M (xNb x w))) (nI (pr (xNb x w) x + L x)) = nI (min (M (xNb x w)) (pr (xNb x w) x + L x)) := by
        have b1 := hMb _ q
        have b2 := hb x hx
        unfold xmin
        by_cases y : pr (xNb x w) x + L x < M (xNb x w)
        · rw [if_pos (c_lt (by omega) (by omega) y), Nat.min_eq_right (by omega)]
        · rw [if_neg (c_nlt (by omega) (by omega) (by omega)), Nat.min_eq_left (by omega)]
      rw [emin]
      refine ih (w + 1) f (fun a => if a = xNb x w then min (M a) (pr a x + L x) else M a) _ (by omega) (by omega) (by omega) (xPrs_fr hp (fun k => rfl)) (fun c hc => ?_) ⟨?_, fun a ha => ?_, fun k k0 kw kb => ?_⟩
      · show (if c = xNb x w then _ else σ.1 14 c) = nI (if c = xNb x w then _ else M c)
        by_cases e : c = xNb x w
        · rw [if_pos e, if_pos e, e]
        · rw [if_neg e, if_neg e]; exact hM c hc
      · show (if x = xNb x w then _ else M x) = L x
        rw [if_neg (fun z => hne z.symm), e1]
      · obtain ⟨g1, g2⟩ := hr.2.1 a ha
        show (if a = xNb x w then min (M a) (pr a x + L x) else M a) ≤ L a ∧ ((if a = xNb x w then min (M a) (pr a x + L x) else M a) = L a ∨ ∃ k, 0 < k ∧ k < 5 ∧ xNb x k = a ∧ (if a = xNb x w then min (M a) (pr a x + L x) else M a) = pr a x + L x)
        by_cases e : a = xNb x w
        · rw [if_pos e]
          by_cases y : pr a x + L x < M a
          · rw [Nat.min_eq_right (by omega)]
            exact ⟨by omega, Or.inr ⟨w, hw0, by omega, e.symm, rfl⟩⟩
          · rw [Nat.min_eq_left (by omega)]
            exact ⟨g1, g2⟩
        · rw [if_neg e]
          exact ⟨g1, g2⟩
      · show (if xNb x k = xNb x w then min (M (xNb x k)) (pr (xNb x k) x + L x) else M (xNb x k)) ≤ _
        by_cases e : xNb x k = xNb x w
        · rw [if_pos e]; exact Nat.min_le_right _ _
        · rw [if_neg e]
          exact hr.2.2 k k0 (by have : k ≠ w := fun z => e (by rw [z]); omega) kb
    · rw [if_neg q, if_pos (by decide)]
      refine ih (w + 1) f M σ (by omega) (by omega) (by omega) hp hM ⟨hr.1, hr.2.1, fun k k0 kw kb => ?_⟩
      exact hr.2.2 k k0 (by have : k ≠ w := fun z => q (by rw [← z]; exact kb); omega) kb
/-- how far the settling has come -/
def xSet (G : Nat → Prop) (pr : Nat → Nat → Nat) (Z : Int64) (L : Nat → Nat) : Prop := (∀ c, c < 36 → L c ≤ 1000000) ∧ (∀ c, c < 36 → G c → L c = 0) ∧
  (∀ c, c < 36 → Z.toBitVec.getLsbD c = true → ∀ k, 0 < k → k < 5 → xNb c k < 36 → L (xNb c k) ≤ pr (xNb c k) c + L c) ∧
  (∀ c, c < 36 → ¬ G c → L c < 1000000 → ∃ k, 0 < k ∧ k < 5 ∧ xNb c k < 36 ∧ Z.toBitVec.getLsbD (xNb c k) = true ∧ L c = L (xNb c k) + pr c (xNb c k)) ∧
  ∀ a, a < 36 → ∀ b, b < 36 → Z.toBitVec.getLsbD a = true → Z.toBitVec.getLsbD b = false → L a ≤ L b
theorem settle_loop {G : Nat → Prop} {pr : Nat → Nat → Nat} : ∀ (m j f : Nat) (Z : Int64) (L : Nat → Nat) (σ : xS2), j + m = 36 → m < f → xOpn Z ≤ m → xPrs σ pr → xLf 14 L σ → xSet G pr Z L →
    ∃ Z' L' σ', J_X6_spreadTo_67 f Z (nI j) σ = some σ' ∧ xLf 14 L' σ' ∧ xSet G pr Z' L' ∧ ∀ c, c < 36 → Z'.toBitVec.getLsbD c = true := by
  intro m
  induction m with
  | zero =>
    intro j f Z L σ hj hf hZ hp hL hs
    obtain ⟨f, rfl⟩ : ∃ z, f = z + 1 := ⟨f - 1, by omega⟩
    obtain rfl : j = 36 := by omega
    exact ⟨Z, L, σ, by rw [E_X6_spreadTo_67, if_pos (by decide)], hL, hs, fun c hc => opn_0 (by omega) hc⟩
  | succ m ih =>
    intro j f Z L σ hj hf hZ hp hL hs
    obtain ⟨f, rfl⟩ : ∃ z, f = z + 1 := ⟨f - 1, by omega⟩
    obtain ⟨s1, s2, s3, s4, s5⟩ := id hs
    obtain ⟨r, hr, hcase⟩ := near_loop (Z := Z) hL (fun c hc => by have := s1 c hc; omega) 36 0 xFU (-1) (by omega) (by show 36 < 2000; omega) (Or.inl ⟨rfl, fun c hc => absurd hc (Nat.not_lt_zero c)⟩)
    have hn : J_X6_nearest Z σ = some r := hr
    rw [E_X6_spreadTo_67, if_neg (k_nle (x := (36 : Int32)) 36 rfl (by decide) (by omega) (by omega)), hn, Option.bind_some]
    rcases hcase with ⟨rfl, hall⟩ | ⟨x, hx, rfl, hxZ, hmin⟩
    · rw [if_neg (by decide)]
      exact ⟨Z, L, σ, rfl, hL, hs, hall⟩
    · rw [if_pos (nI_pos' (by omega))]
      obtain ⟨M, σ', e1, hM, hr1, hr2, hr3⟩ := from_loop (pr := pr) hx s1 4 1 xFU L σ (by omega) (by omega) (by show 4 < 2000; omega) hp hL ⟨rfl, fun a ha => ⟨Nat.le_refl _, Or.inl rfl⟩, fun k k0 k1 _ => by omega⟩
      have e2 : J_X6_spreadFrom (nI x) σ = some σ' := e1
      have f1 := F_X6_spreadFrom e2
      rw [e2, Option.bind_some, nI_1]
      have hle : ∀ a, a < 36 → Z.toBitVec.getLsbD a = true → L a ≤ L x := fun a ha hz => s5 a ha x hx hz hxZ
      -- the settled ones stand
      have hfix : ∀ a, a < 36 → (Z.toBitVec.getLsbD a = true ∨ a = x) → M a = L a := by
        intro a ha hz
        rcases hz with hz | rfl
        · rcases (hr2 a ha).2 with e | ⟨k, k0, k5, ek, e⟩
          · exact e
          · have := hle a ha hz
            have := (hr2 a ha).1
            have := (hp.1 a x ha hx).1
            omega
        · exact hr1
      have hbit : ∀ c, c < 36 → (Z ||| xls 1 (nI x)).toBitVec.getLsbD c = true → Z.toBitVec.getLsbD c = true ∨ c = x := by
        intro c hc h
        rw [bit_set hx hc, Bool.or_eq_true, decide_eq_true_eq] at h
        exact h
      have hbit2 : ∀ c, c < 36 → (Z.toBitVec.getLsbD c = true ∨ c = x) → (Z ||| xls 1 (nI x)).toBitVec.getLsbD c = true := by
        intro c hc h
        rw [bit_set hx hc, Bool.or_eq_true, decide_eq_true_eq]
        exact h
      refine ih (j + 1) f (Z ||| xls 1 (nI x)) M σ' (by omega) (by omega) (by have := opn_set hx hxZ; omega) (xPrs_fr hp (fun k => (f1 2 k rfl).1)) hM ⟨fun c hc => Nat.le_trans (hr2 c hc).1 (s1 c hc), fun c hc g => ?_, fun c hc hz k k0 k5 kb => ?_, fun c hc g hl => ?_, fun a ha b hb hza hzb => ?_⟩
      · have := (hr2 c hc).1
        rw [s2 c hc g] at this
        omega
      · rcases hbit c hc hz with h | rfl
        · rw [hfix c hc (Or.inl h)]
          exact Nat.le_trans (hr2 _ kb).1 (s3 c hc h k k0 k5 kb)
        · rw [hr1]
          exact hr3 k k0 k5 kb
      · rcases (hr2 c hc).2 with e | ⟨k, k0, k5, ek, e⟩
        · rw [e] at hl ⊢
          obtain ⟨k, k0, k5, kb, kz, ke⟩ := s4 c hc g hl
          refine ⟨k, k0, k5, kb, hbit2 _ kb (Or.inl kz), ?_⟩
          rw [hfix _ kb (Or.inl kz)]
          exact ke
        · have hb1 := nb_back x hx k k5 k0 (by rw [ek]; exact hc)
          rw [ek] at hb1
          refine ⟨xOp k, (op_rg k).1, (op_rg k).2, by rw [hb1]; exact hx, by rw [hb1]; exact hbit2 x hx (Or.inr rfl), ?_⟩
          rw [hb1, hr1, e, Nat.add_comm]
      · have hzb2 : Z.toBitVec.getLsbD b = false ∧ b ≠ x := by
          rw [bit_set hx hb, Bool.or_eq_false_iff, decide_eq_false_iff_not] at hzb
          exact hzb
        have hax : M a ≤ L x := by
          rcases hbit a ha hza with h | rfl
          · rw [hfix a ha (Or.inl h)]; exact hle a ha h
          · rw [hr1]; omega
        rcases (hr2 b hb).2 with e | ⟨k, k0, k5, ek, e⟩
        · rw [e]
          exact Nat.le_trans hax (hmin b hb hzb2.1)
        · rw [e]; omega
theorem init_loop {g : Int32} {G : Nat → Prop} (hG : ∀ c, c < 36 → ((if g = -1 then decide (c < 6) else decide (nI c = g)) = true ↔ G c)) : ∀ (m j f : Nat) (σ : xS2), j + m = 36 → m < f → (∀ c, c < j → (G c → σ.1 14 c = nI 0) ∧ (¬ G c → σ.1 14 c = nI 1000000)) →
    ∃ σ', J_X6_spreadTo_2 f g (nI j) σ = J_X6_spreadTo_67 xFU 0 0 σ' ∧ (∀ c, c < 36 → (G c → σ'.1 14 c = nI 0) ∧ (¬ G c → σ'.1 14 c = nI 1000000)) ∧ xFr [(14, 99)] σ σ' := by
  intro m
  induction m with
  | zero =>
    intro j f σ hj hf h
    obtain ⟨f, rfl⟩ : ∃ z, f = z + 1 := ⟨f - 1, by omega⟩
    obtain rfl : j = 36 := by omega
    exact ⟨σ, by rw [E_X6_spreadTo_2, if_pos (by decide)], h, xFr_rf⟩
  | succ m ih =>
    intro j f σ hj hf h
    obtain ⟨f, rfl⟩ : ∃ z, f = z + 1 := ⟨f - 1, by omega⟩
    have hj36 : j < 36 := by omega
    have key : J_X6_spreadTo_2 (f + 1) g (nI j) σ = J_X6_spreadTo_2 f g (nI (j + 1)) (yI σ 14 j (if (if g = -1 then decide (j < 6) else decide (nI j = g)) = true then 0 else 1000000)) := by
      rw [E_X6_spreadTo_2, if_neg (k_nle (x := (36 : Int32)) 36 rfl (by decide) (by omega) hj36)]
      unfold J_X6_spreadTo_37 J_X6_spreadTo_55
      rw [c_xin hj36 (by decide), nI_c (by omega), nI_1]
      simp only [xgd_t, xb_t, xb_f]
      by_cases q : g = -1
      · rw [if_pos q, if_pos q]
        by_cases z : j < 6
        · rw [if_neg (k_nle (x := (6 : Int32)) 6 rfl (by decide) (by omega) z), decide_eq_true z]; rfl
        · rw [if_pos (show (6 : Int32) ≤ nI j from r_le (x := nI j) j rfl (by omega) (b := 6) (by decide) (by omega)), decide_eq_false z]; rfl
      · rw [if_neg q, if_neg q]
        by_cases z : nI j = g
        · rw [if_pos z, decide_eq_true z]; rfl
        · rw [if_neg z, decide_eq_false z]; rfl
    obtain ⟨σ', e1, e2, e3⟩ := ih (j + 1) f (yI σ 14 j (if (if g = -1 then decide (j < 6) else decide (nI j = g)) = true then 0 else 1000000)) (by omega) (by omega) (fun c hc => by
      show (G c → (if c = j then _ else σ.1 14 c) = nI 0) ∧ (¬ G c → (if c = j then _ else σ.1 14 c) = nI 1000000)
      by_cases e : c = j
      · subst e
        rw [if_pos rfl]
        refine ⟨fun y => ?_, fun y => ?_⟩
        · rw [if_pos ((hG c hj36).mpr y)]; rfl
        · rw [if_neg (fun z => y ((hG c hj36).mp z))]; rfl
      · rw [if_neg e]
        exact h c (by omega))
    exact ⟨σ', key.trans e1, e2, xFr_tq (xFr_yI xFr_rf rfl) e3⟩
/-- the class's ways to the goals -/
theorem spread_dist {g : Int32} {G : Nat → Prop} {pr : Nat → Nat → Nat} {σ : xS2} {e : Nat} (he : e < 36) (hGe : G e) (hG : ∀ c, c < 36 → ((if g = -1 then decide (c < 6) else decide (nI c = g)) = true ↔ G c)) (hp : xPrs σ pr) : ∃ L σ', J_X6_spreadTo g σ = some σ' ∧ xLf 14 L σ' ∧ xDist G pr L ∧ (∀ c, c < 36 → L c ≤ 260) ∧ xFr [(14, 99)] σ σ' := by
  classical
  obtain ⟨σ1, e1, h1, f1⟩ := init_loop hG 36 0 xFU σ (by omega) (by show 36 < 2000; omega) (fun c hc => absurd hc (Nat.not_lt_zero c))
  have o0 : xOpn 0 ≤ 36 := opn_le 0
  have z0 : ∀ c, (0 : Int64).toBitVec.getLsbD c = false := fun c => by
    show (0#64).getLsbD c = false
    exact BitVec.getLsbD_zero
  obtain ⟨Z, L, σ2, e2, hL, ⟨s1, s2, s3, s4, s5⟩, hall⟩ := settle_loop (G := G) (pr := pr) 36 0 xFU 0 (fun c => if G c then 0 else 1000000) σ1 (by omega) (by show 36 < 2000; omega) o0 (xPrs_fr hp (fun k => (f1 2 k rfl).1)) (fun c hc => by
    show σ1.1 14 c = nI (if G c then 0 else 1000000)
    by_cases y : G c
    · rw [if_pos y]; exact (h1 c hc).1 y
    · rw [if_neg y]; exact (h1 c hc).2 y) ⟨fun c hc => (by show (if G c then 0 else 1000000) ≤ 1000000; split <;> omega), fun c hc y => (by show (if G c then 0 else 1000000) = 0; rw [if_pos y]), fun c hc hz => (by rw [z0] at hz; cases hz), fun c hc y hl => (by
      exfalso
      have : (if G c then 0 else 1000000) < 1000000 := hl
      rw [if_neg y] at this
      omega), fun a ha b hb hz => (by rw [z0] at hz; cases hz)⟩
  have e3 : J_X6_spreadTo g σ = some σ2 := e1.trans e2
  have h2 : ∀ c, c < 36 → ∀ k, 0 < k → k < 5 → xNb c k < 36 → L c ≤ L (xNb c k) + pr c (xNb c k) := by
    intro c hc k k0 k5 kb
    have hb1 := nb_back c hc k k5 k0 kb
    have := s3 (xNb c k) kb (hall _ kb) (xOp k) (op_rg k).1 (op_rg k).2 (by rw [hb1]; exact hc)
    rw [hb1] at this
    omega
  have h260 := dist_bound hp.1 he (s2 e he hGe) h2
  refine ⟨L, σ2, e3, hL, ⟨s2, h2, fun c hc y => ?_⟩, h260, F_X6_spreadTo e3⟩
  obtain ⟨k, k0, k5, kb, -, ke⟩ := s4 c hc y (by have := h260 c hc; omega)
  exact ⟨k, k0, k5, kb, ke⟩
