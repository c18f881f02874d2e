/-! round: what is left by a set of stones. -/
def bt (s j : Nat) : Bool := decide (s / 2 ^ j % 2 = 1)
theorem bt_le : ∀ s, s < 32 → ∀ j, j < 5 → bt s j = true → 2 ^ j ≤ s := by decide +kernel
theorem bt_x : ∀ s, s < 32 → ∀ j, j < 5 → decide ((xus (nI s) (nI j)) &&& (1 : Int32) = 0) = !bt s j := by decide +kernel
theorem bt_rm : ∀ s, s < 32 → ∀ j, j < 5 → bt s j = true → (nI s ^^^ ((1 : Int32) <<< (nI j &&& 31))) * 5 + nI j = nI ((s - 2 ^ j) * 5 + j) := by decide +kernel
theorem bt_pw : ∀ m, m < 6 → (1 : Int32) <<< (nI m &&& 31) = nI (2 ^ m) := by decide +kernel
theorem bt_some : ∀ m, m < 6 → ∀ s, s < 2 ^ m → s = 0 ∨ (List.range m).any (bt s) = true := by decide +kernel
theorem bt_lt : ∀ m, m < 6 → ∀ s, s < 2 ^ m → ∀ j, j < 5 → bt s j = true → j < m := by decide +kernel
theorem bt_co : ∀ m, m < 6 → ∀ u, u < 2 ^ m → ∀ j, j < m → bt (2 ^ m - 1 - u) j = !bt u j := by decide +kernel
theorem bt_u : ∀ u, u < 32 → ∀ j, j < 5 → decide ((nI u >>> (nI j &&& 31)) &&& (1 : Int32) = 0) = !bt u j := by decide +kernel
theorem bt_or : ∀ u, u < 32 → ∀ j, j < 5 → bt u j = false → (nI u ||| ((1 : Int32) <<< (nI j &&& 31))) = nI (u + 2 ^ j) := by decide +kernel
theorem bt_add : ∀ m, m < 6 → ∀ u, u < 2 ^ m → ∀ j, j < m → bt u j = false → u + 2 ^ j < 2 ^ m := by decide +kernel
theorem pw32 : ∀ m, m < 6 → 2 ^ m ≤ 32 := by decide +kernel
/-- the least over a set's members below j -/
def xMn (g : Nat → Nat) (s : Nat) : Nat → Nat
  | 0 => 1000000
  | j + 1 => if bt s j = true then min (xMn g s j) (g j) else xMn g s j
theorem mn_le {g : Nat → Nat} {s : Nat} : ∀ m j, j < m → bt s j = true → xMn g s m ≤ g j := by
  intro m
  induction m with
  | zero => intro j hj; omega
  | succ m ih =>
    intro j hj hb
    show (if bt s m = true then min (xMn g s m) (g m) else xMn g s m) ≤ g j
    by_cases e : j = m
    · subst e
      rw [if_pos hb]
      exact Nat.min_le_right _ _
    · have := ih j (by omega) hb
      split
      · exact Nat.le_trans (Nat.min_le_left _ _) this
      · exact this
theorem mn_at {g : Nat → Nat} {s : Nat} : ∀ m, xMn g s m = 1000000 ∨ ∃ j, j < m ∧ bt s j = true ∧ xMn g s m = g j := by
  intro m
  induction m with
  | zero => exact Or.inl rfl
  | succ m ih =>
    have e : xMn g s (m + 1) = if bt s m = true then min (xMn g s m) (g m) else xMn g s m := rfl
    rw [e]
    by_cases q : bt s m = true
    · rw [if_pos q]
      by_cases z : xMn g s m ≤ g m
      · rw [Nat.min_eq_left z]
        rcases ih with ih | ⟨j, h1, h2, h3⟩
        · exact Or.inl ih
        · exact Or.inr ⟨j, by omega, h2, h3⟩
      · rw [Nat.min_eq_right (by omega)]
        exact Or.inr ⟨m, by omega, q, rfl⟩
    · rw [if_neg q]
      rcases ih with ih | ⟨j, h1, h2, h3⟩
      · exact Or.inl ih
      · exact Or.inr ⟨j, by omega, h2, h3⟩
theorem mn_bd {g : Nat → Nat} {s : Nat} : ∀ m, xMn g s m ≤ 1000000 := by
  intro m
  induction m with
  | zero => exact Nat.le_refl _
  | succ m ih =>
    show (if bt s m = true then min (xMn g s m) (g m) else xMn g s m) ≤ 1000000
    split
    · exact Nat.le_trans (Nat.min_le_left _ _) ih
    · exact ih
theorem mn_congr {g h : Nat → Nat} {s : Nat} (e : ∀ j, g j = h j) : ∀ m, xMn g s m = xMn h s m := by
  intro m
  have : g = h := funext e
  rw [this]
def xTf (B : Nat → Nat → Nat) (N : Nat → Nat) (m : Nat) : Nat → Nat → Nat → Nat
  | 0, _, i => N i
  | n + 1, s, i => if s = 0 then N i else xMn (fun j => B i j + xTf B N m n (s - 2 ^ j) j) s m
theorem xTf_eq {B : Nat → Nat → Nat} {N : Nat → Nat} {m : Nat} : ∀ (n k s i : Nat), s ≤ n → s ≤ k → xTf B N m n s i = xTf B N m k s i := by
  intro n
  induction n with
  | zero =>
    intro k s i hs hk
    obtain rfl : s = 0 := by omega
    cases k with
    | zero => rfl
    | succ k => show N i = if 0 = 0 then N i else _; rw [if_pos rfl]
  | succ n ih =>
    intro k s i hs hk
    by_cases z : s = 0
    · subst z
      cases k with
      | zero => show (if 0 = 0 then N i else _) = N i; rw [if_pos rfl]
      | succ k => show (if 0 = 0 then N i else _) = (if 0 = 0 then N i else _); rw [if_pos rfl, if_pos rfl]
    · obtain ⟨k, rfl⟩ : ∃ y, k = y + 1 := ⟨k - 1, by omega⟩
      show (if s = 0 then N i else xMn (fun j => B i j + xTf B N m n (s - 2 ^ j) j) s m) = (if s = 0 then N i else xMn (fun j => B i j + xTf B N m k (s - 2 ^ j) j) s m)
      rw [if_neg z, if_neg z]
      refine mn_congr (fun j => ?_) m
      have hp : 0 < 2 ^ j := Nat.two_pow_pos j
      rw [ih k (s - 2 ^ j) j (by omega) (by omega)]
def xT (B : Nat → Nat → Nat) (N : Nat → Nat) (m s i : Nat) : Nat := xTf B N m s s i
theorem xT_0 {B : Nat → Nat → Nat} {N : Nat → Nat} {m i : Nat} : xT B N m 0 i = N i := rfl
theorem xT_s {B : Nat → Nat → Nat} {N : Nat → Nat} {m s i : Nat} (hs : s ≠ 0) : xT B N m s i = xMn (fun j => B i j + xT B N m (s - 2 ^ j) j) s m := by
  obtain ⟨n, rfl⟩ : ∃ n, s = n + 1 := ⟨s - 1, by omega⟩
  show (if n + 1 = 0 then N i else xMn (fun j => B i j + xTf B N m n (n + 1 - 2 ^ j) j) (n + 1) m) = _
  rw [if_neg (by omega)]
  refine mn_congr (fun j => ?_) m
  have hp : 0 < 2 ^ j := Nat.two_pow_pos j
  show B i j + xTf B N m n (n + 1 - 2 ^ j) j = B i j + xTf B N m (n + 1 - 2 ^ j) (n + 1 - 2 ^ j) j
  rw [xTf_eq n (n + 1 - 2 ^ j) (n + 1 - 2 ^ j) j (by omega) (Nat.le_refl _)]
theorem xT_le {B : Nat → Nat → Nat} {N : Nat → Nat} {m s i j : Nat} (hs : s ≠ 0) (hj : j < m) (hb : bt s j = true) : xT B N m s i ≤ B i j + xT B N m (s - 2 ^ j) j := by
  rw [xT_s hs]
  exact mn_le m j hj hb
theorem xT_bd {B : Nat → Nat → Nat} {N : Nat → Nat} {m : Nat} (hm : m < 6) (hB : ∀ a b, a < m → b < m → B a b ≤ 260) (hN : ∀ a, a < m → N a ≤ 260) : ∀ (n s i : Nat), s < n → s < 2 ^ m → i < m → xT B N m s i ≤ 260 * (s + 1) := by
  intro n
  induction n with
  | zero => intro s i h; omega
  | succ n ih =>
    intro s i hn hs hi
    by_cases z : s = 0
    · subst z
      rw [xT_0]
      have := hN i hi
      omega
    · rcases bt_some m hm s hs with y | y
      · exact absurd y z
      · rw [List.any_eq_true] at y
        obtain ⟨j, hj, hb⟩ := y
        have hj := List.mem_range.mp hj
        have h1 := xT_le (B := B) (N := N) (i := i) z hj hb
        have hp : 0 < 2 ^ j := Nat.two_pow_pos j
        have h2 := ih (s - 2 ^ j) j (by omega) (by omega) hj
        have h3 := hB i j hi hj
        have h4 : 260 * (s - 2 ^ j + 1) + 260 ≤ 260 * (s + 1) := by omega
        omega
theorem xT_at {B : Nat → Nat → Nat} {N : Nat → Nat} {m s i : Nat} (hm : m < 6) (hB : ∀ a b, a < m → b < m → B a b ≤ 260) (hN : ∀ a, a < m → N a ≤ 260) (hs : s ≠ 0) (hs2 : s < 2 ^ m) (hi : i < m) : ∃ j, j < m ∧ bt s j = true ∧ xT B N m s i = B i j + xT B N m (s - 2 ^ j) j := by
  have h1 := xT_bd hm hB hN (s + 1) s i (by omega) hs2 hi
  have h2 := pw32 m hm
  rw [xT_s hs] at h1 ⊢
  rcases mn_at (g := fun j => B i j + xT B N m (s - 2 ^ j) j) (s := s) m with h | h
  · omega
  · exact h
-- the class's tables
def xRs (m : Nat) (st : Nat → Nat) (B : Nat → Nat → Nat) (C dN : Nat → Nat) (σ : xS2) : Prop := σ.1 13 5 = nI m ∧ (∀ j, j < m → st j < 36 ∧ σ.1 15 j = nI (st j)) ∧ (∀ a b, a < m → b < m → σ.1 17 (a * 5 + b) = nI (B a b)) ∧ (∀ a, a < m → σ.1 16 a = nI (C a)) ∧ xLf 14 dN σ
theorem xRs_18 {m : Nat} {st : Nat → Nat} {B : Nat → Nat → Nat} {C dN : Nat → Nat} {σ : xS2} {k : Nat} {v : Int32} (h : xRs m st B C dN σ) : xRs m st B C dN (yI σ 18 k v) := h
def xBn (m : Nat) (st : Nat → Nat) (B : Nat → Nat → Nat) (C dN : Nat → Nat) : Prop := m < 6 ∧ (∀ a b, a < m → b < m → B a b ≤ 260) ∧ (∀ a, a < m → C a ≤ 260) ∧ ∀ c, c < 36 → dN c ≤ 260
theorem least_loop {m s i : Nat} {st : Nat → Nat} {B : Nat → Nat → Nat} {C dN N : Nat → Nat} {σ : xS2} (hb : xBn m st B C dN) (hN : ∀ a, a < m → N a ≤ 260) (hr : xRs m st B C dN σ) (hs : s < 2 ^ m) (hs0 : s ≠ 0) (hi : i < m)
    (hE : ∀ s' i', s' < s → i' < m → σ.1 18 (s' * 5 + i') = nI (xT B N m s' i')) : ∀ (q j f : Nat), j + q = m → q < f → J_X6_leastRest_21 f (nI s) (nI i) (nI (xMn (fun j => B i j + xT B N m (s - 2 ^ j) j) s j)) (nI j) σ = some (nI (xT B N m s i)) := by
  have h32 := pw32 m hb.1
  have hm6 := hb.1
  intro q
  induction q with
  | zero =>
    intro j f hj hf
    obtain ⟨f, rfl⟩ : ∃ z, f = z + 1 := ⟨f - 1, by omega⟩
    obtain rfl : j = m := by omega
    rw [E_X6_leastRest_21, hr.1, if_pos (c_le (by omega) (by omega) (Nat.le_refl _)), ← xT_s hs0]
  | succ q ih =>
    intro j f hj hf
    obtain ⟨f, rfl⟩ : ∃ z, f = z + 1 := ⟨f - 1, by omega⟩
    have hj5 : j < 5 := by have := hb.1; omega
    have hjm : j < m := by omega
    have hm6 := hb.1
    have e := bt_x s (by omega) j hj5
    have next : xMn (fun j => B i j + xT B N m (s - 2 ^ j) j) s (j + 1) = if bt s j = true then min (xMn (fun j => B i j + xT B N m (s - 2 ^ j) j) s j) (B i j + xT B N m (s - 2 ^ j) j) else xMn (fun j => B i j + xT B N m (s - 2 ^ j) j) s j := rfl
    have hih := ih (j + 1) f (by omega) (by omega)
    rw [next] at hih
    rw [E_X6_leastRest_21, hr.1, if_neg (c_nle (by omega) (by omega) hjm)]
    unfold J_X6_leastRest_76
    rw [nI_1]
    cases y : bt s j with
    | false =>
      rw [y] at e hih
      rw [if_pos (by simpa using e)]
      rw [if_neg (by decide)] at hih
      exact hih
    | true =>
      rw [y] at e hih
      rw [if_pos rfl] at hih
      have hle := bt_le s (by omega) j hj5 y
      have hp : 0 < 2 ^ j := Nat.two_pow_pos j
      have e5 : nI i * 5 + nI j = nI (i * 5 + j) := by rw [show (5 : Int32) = nI 5 from rfl, nI_mul, nI_add]
      have bd1 := mn_bd (g := fun j => B i j + xT B N m (s - 2 ^ j) j) (s := s) j
      have bd2 := xT_bd hb.1 hb.2.1 hN (s - 2 ^ j + 1) (s - 2 ^ j) j (by omega) (by omega) hjm
      have bd3 := hb.2.1 i j hi hjm
      rw [if_neg (by simpa using e), bt_rm s (by omega) j hj5 y, e5, c_xin (by omega) (by decide), xgd_t, c_xin (by omega) (by decide), xgd_t, nI_c (by omega), nI_c (by omega), hr.2.2.1 i j hi hjm, hE (s - 2 ^ j) j (by omega) hjm, nI_add]
      have emin : xmin (nI (xMn (fun j => B i j + xT B N m (s - 2 ^ j) j) s j)) (nI (B i j + xT B N m (s - 2 ^ j) j)) = nI (min (xMn (fun j => B i j + xT B N m (s - 2 ^ j) j) s j) (B i j + xT B N m (s - 2 ^ j) j)) := by
        unfold xmin
        by_cases w : B i j + xT B N m (s - 2 ^ j) j < xMn (fun j => B i j + xT B N m (s - 2 ^ j) j) s j
        · rw [if_pos (c_lt (by omega) (by omega) w), Nat.min_eq_right (by omega)]
        · rw [if_neg (c_nlt (by omega) (by omega) (by omega)), Nat.min_eq_left (by omega)]
      rw [emin]
      exact hih
/-- the rows worked out so far -/
def xEn (m : Nat) (B : Nat → Nat → Nat) (N : Nat → Nat) (s i : Nat) (σ : xS2) : Prop := ∀ s' i', (s' < s ∨ (s' = s ∧ i' < i)) → i' < m → σ.1 18 (s' * 5 + i') = nI (xT B N m s' i')
theorem row_113 {m s : Nat} {st : Nat → Nat} {B : Nat → Nat → Nat} {C dN : Nat → Nat} {k100 : Nat → Int32 → xS2 → Option (Bool × xS2)} (hb : xBn m st B C dN) (hs : s < 2 ^ m) : ∀ (q i f : Nat) (σ : xS2), i + q = m → q < f → xRs m st B C dN σ → xEn m B (fun j => dN (st j)) s i σ →
    ∃ σ', J_X6_planRound_113 k100 f 3 (nI s) (nI i) σ = k100 3 (nI (s + 1)) σ' ∧ xRs m st B C dN σ' ∧ xEn m B (fun j => dN (st j)) (s + 1) 0 σ' ∧ xFr [(18, 99)] σ σ' := by
  have h32 := pw32 m hb.1
  have hm6 := hb.1
  intro q
  induction q with
  | zero =>
    intro i f σ hi hf hr hE
    obtain ⟨f, rfl⟩ : ∃ z, f = z + 1 := ⟨f - 1, by omega⟩
    obtain rfl : i = m := by omega
    exact ⟨σ, by rw [E_X6_planRound_113, hr.1, if_pos (c_le (by omega) (by omega) (Nat.le_refl _)), nI_1], hr, fun s' i' h hi' => hE s' i' (by omega) hi', xFr_rf⟩
  | succ q ih =>
    intro i f σ hi hf hr hE
    obtain ⟨f, rfl⟩ : ∃ z, f = z + 1 := ⟨f - 1, by omega⟩
    have him : i < m := by omega
    have hN : ∀ a, a < m → dN (st a) ≤ 260 := fun a ha => hb.2.2.2 _ (hr.2.1 a ha).1
    have hl : J_X6_leastRest (nI s) (nI i) σ = some (nI (xT B (fun j => dN (st j)) m s i)) := by
      unfold J_X6_leastRest
      by_cases z : s = 0
      · subst z
        rw [if_pos (show nI 0 = 0 from rfl), c_xin (by omega) (by decide), xgd_t, nI_c (by omega), (hr.2.1 i him).2, cost_from hr.2.2.2.2 (hr.2.1 i him).1, Option.bind_some]
        rfl
      · rw [if_neg (nI_ne0 (by omega) (by omega))]
        exact least_loop hb hN hr hs z him (fun s' i' h1 h2 => hE s' i' (Or.inl h1) h2) m 0 xFU (by omega) (by show m < 2000; omega)
    have e5 : nI s * 5 + nI i = nI (s * 5 + i) := by rw [show (5 : Int32) = nI 5 from rfl, nI_mul, nI_add]
    obtain ⟨σ', r1, r2, r3, r4⟩ := ih (i + 1) f (yI σ 18 (s * 5 + i) (nI (xT B (fun j => dN (st j)) m s i))) (by omega) (by omega) (xRs_18 hr) (fun s' i' h hi' => by
      show (if s' * 5 + i' = s * 5 + i then _ else σ.1 18 (s' * 5 + i')) = _
      by_cases e : s' = s ∧ i' = i
      · obtain ⟨rfl, rfl⟩ := e
        rw [if_pos rfl]
      · rw [if_neg (by omega)]
        exact hE s' i' (by omega) hi')
    refine ⟨σ', ?_, r2, r3, xFr_tq (xFr_yI xFr_rf rfl) r4⟩
    rw [E_X6_planRound_113, hr.1, if_neg (c_nle (by omega) (by omega) him), hl, Option.bind_some, e5, c_xin (by omega) (by decide), xgd_t, nI_c (by omega), nI_1]
    exact r1
theorem row_100 {m c : Nat} {st : Nat → Nat} {B : Nat → Nat → Nat} {C dN : Nat → Nat} (hb : xBn m st B C dN) (hc : c < 36) : ∀ (q s f : Nat) (σ : xS2), s + q = 2 ^ m → q < f → σ.1 3 0 = nI c → xRs m st B C dN σ → xEn m B (fun j => dN (st j)) s 0 σ →
    ∃ σ', J_X6_planRound_100 f 3 (nI s) σ = (J_X6_chooseFirst (nI (dN c)) σ').bind (fun x7 => some (true, x7)) ∧ xRs m st B C dN σ' ∧ xEn m B (fun j => dN (st j)) (2 ^ m) 0 σ' := by
  have h32 := pw32 m hb.1
  have hm6 := hb.1
  intro q
  induction q with
  | zero =>
    intro s f σ hs hf h3 hr hE
    obtain ⟨f, rfl⟩ : ∃ z, f = z + 1 := ⟨f - 1, by omega⟩
    obtain rfl : s = 2 ^ m := by omega
    refine ⟨σ, ?_, hr, hE⟩
    rw [E_X6_planRound_100, hr.1, bt_pw m hm6, if_pos (c_le (by omega) (by omega) (Nat.le_refl _)), h3, cost_from hr.2.2.2.2 hc, Option.bind_some]
  | succ q ih =>
    intro s f σ hs hf h3 hr hE
    obtain ⟨f, rfl⟩ : ∃ z, f = z + 1 := ⟨f - 1, by omega⟩
    rw [E_X6_planRound_100, hr.1, bt_pw m hm6, if_neg (c_nle (by omega) (by omega) (by omega))]
    obtain ⟨σ1, e1, e2, e3, e4⟩ := row_113 (k100 := J_X6_planRound_100 f) hb (show s < 2 ^ m by omega) m 0 xFU σ (by omega) (by show m < 2000; omega) hr hE
    have e1' : J_X6_planRound_113 (J_X6_planRound_100 f) xFU 3 (nI s) 0 σ = J_X6_planRound_100 f 3 (nI (s + 1)) σ1 := e1
    rw [e1']
    exact ih (s + 1) f σ1 (by omega) (by omega) ((e4 3 0 rfl).1.trans h3) e2 e3
