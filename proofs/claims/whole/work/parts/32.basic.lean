/-! Plain facts of ints, and the small tests that class and reference share. -/
theorem c_le {a b : Nat} (ha : a < 2147483648) (hb : b < 2147483648) (h : a ≤ b) : nI a ≤ nI b := (nI_leI ha hb).mpr h
theorem c_nle {a b : Nat} (ha : a < 2147483648) (hb : b < 2147483648) (h : b < a) : ¬ nI a ≤ nI b := fun z => by have := (nI_leI ha hb).mp z; omega
theorem c_lt {a b : Nat} (ha : a < 2147483648) (hb : b < 2147483648) (h : a < b) : nI a < nI b := (nI_ltI ha hb).mpr h
theorem c_nlt {a b : Nat} (ha : a < 2147483648) (hb : b < 2147483648) (h : b ≤ a) : ¬ nI a < nI b := fun z => by have := (nI_ltI ha hb).mp z; omega
theorem k_le {x : Int32} (a : Nat) {b : Nat} (hx : x = nI a) (ha : a < 2147483648) (hb : b < 2147483648) (h : a ≤ b) : x ≤ nI b := hx ▸ c_le ha hb h
theorem k_nle {x : Int32} (a : Nat) {b : Nat} (hx : x = nI a) (ha : a < 2147483648) (hb : b < 2147483648) (h : b < a) : ¬ x ≤ nI b := hx ▸ c_nle ha hb h
theorem k_lt {x : Int32} (a : Nat) {b : Nat} (hx : x = nI a) (ha : a < 2147483648) (hb : b < 2147483648) (h : a < b) : x < nI b := hx ▸ c_lt ha hb h
theorem k_nlt {x : Int32} (a : Nat) {b : Nat} (hx : x = nI a) (ha : a < 2147483648) (hb : b < 2147483648) (h : b ≤ a) : ¬ x < nI b := hx ▸ c_nlt ha hb h
theorem r_le {x : Int32} (a : Nat) {b : Nat} (hx : x = nI a) (ha : a < 2147483648) (hb : b < 2147483648) (h : b ≤ a) : nI b ≤ x := hx ▸ c_le hb ha h
theorem r_nle {x : Int32} (a : Nat) {b : Nat} (hx : x = nI a) (ha : a < 2147483648) (hb : b < 2147483648) (h : a < b) : ¬ nI b ≤ x := hx ▸ c_nle hb ha h
theorem r_lt {x : Int32} (a : Nat) {b : Nat} (hx : x = nI a) (ha : a < 2147483648) (hb : b < 2147483648) (h : b < a) : nI b < x := hx ▸ c_lt hb ha h
theorem r_nlt {x : Int32} (a : Nat) {b : Nat} (hx : x = nI a) (ha : a < 2147483648) (hb : b < 2147483648) (h : a ≤ b) : ¬ nI b < x := hx ▸ c_nlt hb ha h
theorem r_ne {x : Int32} (a : Nat) {b : Nat} (hx : x = nI a) (ha : a < 2147483648) (hb : b < 2147483648) (h : b ≠ a) : ¬ nI b = x := fun z => h ((nI_eq hb ha).mp (z.trans hx))
theorem c_ne {a b : Nat} (ha : a < 2147483648) (hb : b < 2147483648) (h : a ≠ b) : ¬ nI a = nI b := fun z => h ((nI_eq ha hb).mp z)
theorem c_xin {i n : Nat} (h : i < n) (hn : n < 2147483648) : xin (nI i) n = true := by
  have e : (nI i).toInt = (i : Int) := nI_toInt (by omega)
  simp only [xin, e, Bool.and_eq_true, decide_eq_true_eq]
  omega
theorem xgd_t {α : Type} {k : Option α} : xgd true k = k := rfl
theorem xb_t : xb true = 1 := rfl
theorem xb_f : xb false = 0 := rfl
theorem xb_0 {b : Bool} : xb b = 0 ↔ b = false := by cases b <;> decide
theorem xb_nt : ¬ xb true = 0 := by decide
theorem xRg_nat {x : Int32} {b : Int} (h : xRg x 0 b) : ∃ n : Nat, (n : Int) ≤ b ∧ n < 2147483648 ∧ x = nI n := by
  obtain ⟨h1, h2⟩ := h
  have h3 := x.toInt_lt
  refine ⟨x.toInt.toNat, by omega, by omega, ?_⟩
  apply Int32.toInt_inj.mp
  rw [nI_toInt (by omega)]
  omega
theorem nI_rg {n : Nat} {b : Int} (h : (n : Int) ≤ b) (hn : n < 2147483648) : xRg (nI n) 0 b := by
  have e : (nI n).toInt = (n : Int) := nI_toInt (by omega)
  exact ⟨by rw [e]; omega, by rw [e]; exact h⟩
theorem nI_rg2 {n : Nat} {a b : Int} (h0 : a ≤ n) (h : (n : Int) ≤ b) (hn : n < 2147483648) : xRg (nI n) a b := by
  have e : (nI n).toInt = (n : Int) := nI_toInt (by omega)
  exact ⟨by rw [e]; omega, by rw [e]; exact h⟩
theorem xRg_w {x : Int32} {a b c d : Int} (h : xRg x a b) (h1 : c ≤ a) (h2 : b ≤ d) : xRg x c d := ⟨Int.le_trans h1 h.1, Int.le_trans h.2 h2⟩
theorem nI_c {n : Nat} (h : n < 2147483648) : (nI n).toNatClampNeg = n := nI_clamp (by omega)
theorem X9_in (a lo hi : Int32) : J_X9_in a lo hi = (decide (lo.toInt ≤ a.toInt) && decide (a.toInt ≤ hi.toInt)) := by
  unfold J_X9_in
  by_cases h1 : a < lo
  · rw [if_pos h1]
    rw [Int32.lt_iff_toInt_lt] at h1
    rw [decide_eq_false (by omega), Bool.false_and]
  · rw [if_neg h1]
    rw [Int32.lt_iff_toInt_lt] at h1
    rw [decide_eq_true (by omega : lo.toInt ≤ a.toInt), Bool.true_and]
    by_cases h2 : hi < a
    · rw [if_pos h2]
      rw [Int32.lt_iff_toInt_lt] at h2
      rw [decide_eq_false (by omega)]
    · rw [if_neg h2]
      rw [Int32.lt_iff_toInt_lt] at h2
      rw [decide_eq_true (by omega)]
theorem X9_in_t {a lo hi : Int32} (h : J_X9_in a lo hi = true) : xRg a lo.toInt hi.toInt := by
  rw [X9_in, Bool.and_eq_true, decide_eq_true_eq, decide_eq_true_eq] at h
  exact h
theorem X9_in_f {a lo hi : Int32} (h : J_X9_in a lo hi = false) : ¬ xRg a lo.toInt hi.toInt := fun z => by
  have : J_X9_in a lo hi = true := by
    rw [X9_in, Bool.and_eq_true, decide_eq_true_eq, decide_eq_true_eq]
    exact z
  rw [h] at this
  cases this
theorem X9_rg {a lo hi : Int32} (A B : Int) (h : J_X9_in a lo hi = true) (hA : lo.toInt = A) (hB : hi.toInt = B) : xRg a A B := by subst hA; subst hB; exact X9_in_t h
theorem X9_nrg {a lo hi : Int32} (A B : Int) (h : J_X9_in a lo hi = false) (hA : lo.toInt = A) (hB : hi.toInt = B) : ¬ xRg a A B := by subst hA; subst hB; exact X9_in_f h
theorem X9_in_of {a lo hi : Int32} (h : xRg a lo.toInt hi.toInt) : J_X9_in a lo hi = true := by
  rw [X9_in, Bool.and_eq_true, decide_eq_true_eq, decide_eq_true_eq]
  exact h
/-- the shape 'below lo: no; hi or more: no; else yes' -/
theorem x_half (a lo hi h1 : Int32) (e : h1.toInt = hi.toInt + 1) : (if a < lo then false else if h1 ≤ a then false else true) = J_X9_in a lo hi := by
  unfold J_X9_in
  by_cases c1 : a < lo
  · rw [if_pos c1, if_pos c1]
  · rw [if_neg c1, if_neg c1]
    by_cases c2 : h1 ≤ a
    · rw [if_pos c2]
      rw [Int32.le_iff_toInt_le] at c2
      rw [if_pos (Int32.lt_iff_toInt_lt.mpr (by omega))]
    · rw [if_neg c2]
      rw [Int32.le_iff_toInt_le] at c2
      rw [if_neg (fun z => by rw [Int32.lt_iff_toInt_lt] at z; omega)]
theorem X3_isCell (a : Int32) : J_X3_isCell a = J_X9_isCell a := x_half a 0 35 36 rfl
theorem X8_isShelf (a : Int32) : J_X8_isShelf a = J_X9_isShelf a := x_half a 0 5 6 rfl
theorem X7_isKind (a : Int32) : J_X7_isKind a = J_X9_in a 0 7 := x_half a 0 7 8 rfl
theorem X8_oneOf2 (a : Int32) : J_X8_isOneOf a 2 = J_X9_in a 0 1 := x_half a 0 1 2 rfl
theorem X8_oneOf4 (a : Int32) : J_X8_isOneOf a 4 = J_X9_in a 0 3 := x_half a 0 3 4 rfl
theorem X8_oneOf5 (a : Int32) : J_X8_isOneOf a 5 = J_X9_in a 0 4 := x_half a 0 4 5 rfl
/-- an int between lo and hi, asked by two branches -/
theorem x_two {α : Type} (a lo hi : Int32) (x y : α) : (if a < lo then x else if hi < a then x else y) = (if J_X9_in a lo hi = true then y else x) := by
  unfold J_X9_in
  by_cases c1 : a < lo
  · simp [c1]
  · by_cases c2 : hi < a <;> simp [c1, c2]
-- the plain's neighbours: 36 stands for none
def xNb (c w : Nat) : Nat := if w = 1 then (if c < 6 then 36 else c - 6) else if w = 2 then (if c % 6 = 5 then 36 else c + 1) else if w = 3 then (if 30 ≤ c then 36 else c + 6) else (if c % 6 = 0 then 36 else c - 1)
def xNbI (c w : Nat) : Int32 := if xNb c w < 36 then nI (xNb c w) else -1
theorem X3_nb : ∀ c, c < 36 → ∀ w, w < 5 → 0 < w → J_X3_neighbour (nI c) (nI w) = xNbI c w := by decide +kernel
theorem X9_nb : ∀ c, c < 36 → ∀ w, w < 5 → 0 < w → J_X9_beside (nI c) (nI w) = xNbI c w := by decide +kernel
theorem xNb_lt : ∀ c, c < 36 → ∀ w, w < 5 → 0 < w → xNb c w ≤ 36 := by decide +kernel
theorem X3_nb_none {a w : Int32} (h : ¬ xRg w 1 4) : J_X3_neighbour a w = -1 := by
  have n1 : ¬ w = 1 := fun e => h (by rw [e]; exact ⟨by decide, by decide⟩)
  have n2 : ¬ w = 2 := fun e => h (by rw [e]; exact ⟨by decide, by decide⟩)
  have n3 : ¬ w = 3 := fun e => h (by rw [e]; exact ⟨by decide, by decide⟩)
  have n4 : ¬ w = 4 := fun e => h (by rw [e]; exact ⟨by decide, by decide⟩)
  unfold J_X3_neighbour
  rw [if_neg n1, if_neg n2, if_neg n3, if_neg n4]
-- reading the plain, in the class
theorem X3_high {σ : xS2} {c : Nat} (h : c < 36) : J_X3_high (nI c) σ = some (σ.1 2 c) := by
  unfold J_X3_high
  rw [if_neg (nI_pos (by omega)), if_neg (k_nle (x := 36) 36 rfl (by decide) (by omega) h), c_xin (by omega) (by decide), xgd_t, nI_c (by omega)]
theorem X3_isStone {σ : xS2} {c : Nat} (h : c < 36) : J_X3_isStone (nI c) σ = some (decide (σ.1 2 (36 + c) = 1)) := by
  unfold J_X3_isStone
  have e : (36 : Int32) + nI c = nI (36 + c) := nI_add 36 c
  rw [if_neg (nI_pos (by omega)), if_neg (k_nle (x := 36) 36 rfl (by decide) (by omega) h), e, c_xin (by omega) (by decide), xgd_t, nI_c (by omega)]
  by_cases q : σ.1 2 (36 + c) = 1
  · rw [if_pos q, decide_eq_true q]
  · rw [if_neg q, decide_eq_false q]
theorem X3_sun {σ : xS2} {d : Nat} (h : d < 60) : J_X3_sun (nI d) σ = some (σ.1 2 (72 + d)) := by
  unfold J_X3_sun
  have e : (72 : Int32) + nI d = nI (72 + d) := nI_add 72 d
  rw [if_neg (nI_pos (by omega)), if_neg (k_nle (x := 60) 60 rfl (by decide) (by omega) h), e, c_xin (by omega) (by decide), xgd_t, nI_c (by omega)]
theorem X3_wind {σ : xS2} {d : Nat} (h : d < 60) : J_X3_wind (nI d) σ = some (σ.1 2 (132 + d)) := by
  unfold J_X3_wind
  have e : (132 : Int32) + nI d = nI (132 + d) := nI_add 132 d
  rw [if_neg (nI_pos (by omega)), if_neg (k_nle (x := 60) 60 rfl (by decide) (by omega) h), e, c_xin (by omega) (by decide), xgd_t, nI_c (by omega)]
theorem X3_told {σ : xS2} {p : Nat} (h : p < 194) : J_X3_told (nI p) σ = some (σ.1 2 p) := by
  unfold J_X3_told
  rw [if_neg (nI_pos (by omega)), if_neg (k_nle (x := 194) 194 rfl (by decide) (by omega) h), c_xin (by omega) (by decide), xgd_t, nI_c (by omega)]
theorem X3_tell {σ : xS2} {p : Nat} {v : Int32} (h : p < 194) : J_X3_tell (nI p) v σ = some (yI σ 2 p v) := by
  unfold J_X3_tell
  rw [if_neg (nI_pos (by omega)), if_neg (k_nle (x := 194) 194 rfl (by decide) (by omega) h), c_xin (by omega) (by decide), xgd_t, nI_c (by omega)]
def xPrice (W ha hb : Int32) : Int32 := (((3 : Int32) + ((2 : Int32) * (xmax (0 : Int32) (hb - ha)))) + (6 : Int32)) - W
theorem X3_price {σ : xS2} {a b : Nat} (ha : a < 36) (hb : b < 36) : J_X3_price (nI a) (nI b) σ = some (xPrice (σ.1 2 192) (σ.1 2 a) (σ.1 2 b)) := by
  unfold J_X3_price
  rw [X3_high hb, Option.bind_some, X3_high ha, Option.bind_some]
  rfl
theorem xmax0 (x : Int32) : (2 : Int32) * xmax 0 x = if x ≤ 0 then 0 else 2 * x := by
  unfold xmax
  by_cases h : x ≤ 0
  · rw [if_pos h, if_neg (fun z => by rw [Int32.lt_iff_toInt_lt] at z; rw [Int32.le_iff_toInt_le] at h; omega)]
    rfl
  · rw [if_neg h, if_pos (by rw [Int32.le_iff_toInt_le] at h; rw [Int32.lt_iff_toInt_lt]; omega)]
theorem X9_costOf {σ : xS2} {c w : Nat} (hc : c < 36) (hw : w < 5) (hw0 : 0 < w) (hn : xNb c w < 36) : J_X9_costOf (nI c) (nI w) σ = some (xPrice (σ.1 43 5) (σ.1 44 c) (σ.1 44 (xNb c w))) := by
  unfold J_X9_costOf J_X9_costOf_30
  rw [X9_nb c hc w hw hw0, show xNbI c w = nI (xNb c w) from if_pos hn, c_xin hn (by decide), xgd_t, c_xin hc (by decide), xgd_t, nI_c (by omega), nI_c (by omega)]
  unfold xPrice
  rw [xmax0]
  by_cases h : σ.1 44 (xNb c w) - σ.1 44 c ≤ 0
  · rw [if_pos h, if_pos h]
  · rw [if_neg h, if_neg h]
-- hollows
def xHol (h : Nat → Int32) (c w : Nat) : Bool := !(decide (xNb c w < 36) && decide (h (xNb c w) ≤ h c))
def xHollow (h : Nat → Int32) (c : Nat) : Bool := xHol h c 1 && (xHol h c 2 && (xHol h c 3 && xHol h c 4))
theorem X3_hol1 {σ : xS2} {c w f : Nat} (hc : c < 36) (hw : w < 5) (hw0 : 0 < w) : J_X3_isHollow_2 (f + 1) (nI c) (nI w) σ = if xHol (σ.1 2) c w = true then J_X3_isHollow_2 f (nI c) (nI (w + 1)) σ else some false := by
  rw [E_X3_isHollow_2]
  rw [if_neg (k_nlt (x := 4) 4 rfl (by decide) (by omega) (by omega)), X3_nb c hc w hw hw0]
  unfold J_X3_isHollow_32
  have e : nI w + 1 = nI (w + 1) := nI_1 w
  unfold xNbI
  by_cases hn : xNb c w < 36
  · rw [if_pos hn, if_neg (nI_pos (by omega)), X3_high hn, Option.bind_some, X3_high hc, Option.bind_some, e]
    unfold xHol
    rw [decide_eq_true hn, Bool.true_and]
    by_cases q : σ.1 2 c < σ.1 2 (xNb c w)
    · rw [if_pos q, decide_eq_false (fun z => by rw [Int32.lt_iff_toInt_lt] at q; rw [Int32.le_iff_toInt_le] at z; omega)]
      rfl
    · rw [if_neg q, decide_eq_true (by rw [Int32.lt_iff_toInt_lt] at q; rw [Int32.le_iff_toInt_le]; omega)]
      rfl
  · rw [if_neg hn, if_pos (by decide), e]
    unfold xHol
    rw [decide_eq_false hn]
    rfl
theorem X9_hol1 {σ : xS2} {c w f : Nat} (hc : c < 36) (hw : w < 5) (hw0 : 0 < w) : J_X9_isHollow_2 (f + 1) (nI c) (nI w) σ = if xHol (σ.1 44) c w = true then J_X9_isHollow_2 f (nI c) (nI (w + 1)) σ else some false := by
  rw [E_X9_isHollow_2]
  rw [if_neg (k_nlt (x := 4) 4 rfl (by decide) (by omega) (by omega)), X9_nb c hc w hw hw0]
  unfold J_X9_isHollow_36
  have e : nI w + 1 = nI (w + 1) := nI_1 w
  unfold xNbI
  by_cases hn : xNb c w < 36
  · rw [if_pos hn, if_neg (nI_pos (by omega)), c_xin hc (by decide), xgd_t, c_xin hn (by decide), xgd_t, nI_c (by omega), nI_c (by omega), e]
    unfold xHol
    rw [decide_eq_true hn, Bool.true_and]
    by_cases q : σ.1 44 c < σ.1 44 (xNb c w)
    · rw [if_pos q, decide_eq_false (fun z => by rw [Int32.lt_iff_toInt_lt] at q; rw [Int32.le_iff_toInt_le] at z; omega)]
      rfl
    · rw [if_neg q, decide_eq_true (by rw [Int32.lt_iff_toInt_lt] at q; rw [Int32.le_iff_toInt_le]; omega)]
      rfl
  · rw [if_neg hn, if_pos (by decide), e]
    unfold xHol
    rw [decide_eq_false hn]
    rfl
theorem xite_and {α : Type} {a b : Bool} {x y : α} : (if a = true then (if b = true then x else y) else y) = if (a && b) = true then x else y := by cases a <;> rfl
theorem X3_isHollow {σ : xS2} {c : Nat} (hc : c < 36) : J_X3_isHollow (nI c) σ = some (xHollow (σ.1 2) c) := by
  show J_X3_isHollow_2 (1995 + 5) (nI c) (nI 1) σ = _
  rw [X3_hol1 hc (by decide) (by decide), X3_hol1 hc (by decide) (by decide), X3_hol1 hc (by decide) (by decide), X3_hol1 hc (by decide) (by decide), E_X3_isHollow_2]
  rw [if_pos (k_lt (x := 4) 4 rfl (by decide) (by decide) (by decide))]
  rw [xite_and, xite_and, xite_and]
  show _ = some (xHol (σ.1 2) c 1 && (xHol (σ.1 2) c 2 && (xHol (σ.1 2) c 3 && xHol (σ.1 2) c 4)))
  cases xHol (σ.1 2) c 1 <;> cases xHol (σ.1 2) c 2 <;> cases xHol (σ.1 2) c 3 <;> cases xHol (σ.1 2) c 4 <;> rfl
theorem X9_isHollow {σ : xS2} {c : Nat} (hc : c < 36) : J_X9_isHollow (nI c) σ = some (xHollow (σ.1 44) c) := by
  show J_X9_isHollow_2 (1995 + 5) (nI c) (nI 1) σ = _
  rw [X9_hol1 hc (by decide) (by decide), X9_hol1 hc (by decide) (by decide), X9_hol1 hc (by decide) (by decide), X9_hol1 hc (by decide) (by decide), E_X9_isHollow_2]
  rw [if_pos (k_lt (x := 4) 4 rfl (by decide) (by decide) (by decide))]
  rw [xite_and, xite_and, xite_and]
  show _ = some (xHol (σ.1 44) c 1 && (xHol (σ.1 44) c 2 && (xHol (σ.1 44) c 3 && xHol (σ.1 44) c 4)))
  cases xHol (σ.1 44) c 1 <;> cases xHol (σ.1 44) c 2 <;> cases xHol (σ.1 44) c 3 <;> cases xHol (σ.1 44) c 4 <;> rfl
theorem xHollow_eq {h g : Nat → Int32} {c : Nat} (hc : c < 36) (e : ∀ k, k < 36 → h k = g k) : xHollow h c = xHollow g c := by
  have one : ∀ w, xHol h c w = xHol g c w := by
    intro w
    unfold xHol
    by_cases hn : xNb c w < 36
    · rw [e _ hn, e c hc]
    · rw [decide_eq_false hn, Bool.false_and, Bool.false_and]
  unfold xHollow
  rw [one, one, one, one]
