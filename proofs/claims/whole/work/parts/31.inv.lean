/-! THE INVARIANT between the class's memory (objects 0 .. 42) and the reference's (43 .. 73). Each piece with its places (xs..), so that frames carry it. -/
def xDj (s l : List (Nat × Nat)) : Bool := s.all fun p => l.all fun q => p.1 != q.1 || (p.2 != 99 && (q.2 != 99 && p.2 != q.2))
theorem xDj_not {s l : List (Nat × Nat)} (h : xDj s l = true) {o k : Nat} (hs : xWn s o k = true) : xWn l o k = false := by
  cases hl : xWn l o k with
  | false => rfl
  | true =>
    simp only [xWn, List.any_eq_true, Bool.and_eq_true, Bool.or_eq_true, beq_iff_eq] at hs hl
    obtain ⟨p, hp, hp1, hp2⟩ := hs
    obtain ⟨q, hq, hq1, hq2⟩ := hl
    simp only [xDj, List.all_eq_true, Bool.or_eq_true, Bool.and_eq_true, bne_iff_ne] at h
    rcases h p hp q hq with h1 | ⟨h1, h2, h3⟩
    · exact absurd (hp1.trans hq1.symm) h1
    · rcases hp2 with e | e
      · exact absurd e h1
      · rcases hq2 with e2 | e2
        · exact absurd e2 h2
        · exact absurd (e.trans e2.symm) h3
/-- the places of s are as they were -/
def xEq (s : List (Nat × Nat)) (σ τ : xS2) : Prop := ∀ o k, xWn s o k = true → τ.1 o k = σ.1 o k ∧ τ.2 o k = σ.2 o k
theorem xFr_eq {s l : List (Nat × Nat)} {σ τ : xS2} (h : xFr l σ τ) (hd : xDj s l = true) : xEq s σ τ := fun o k hk => h o k (xDj_not hd hk)
theorem xEq_tr {s : List (Nat × Nat)} {σ ρ τ : xS2} (h1 : xEq s σ ρ) (h2 : xEq s ρ τ) : xEq s σ τ := fun o k hk => ⟨(h2 o k hk).1.trans (h1 o k hk).1, (h2 o k hk).2.trans (h1 o k hk).2⟩
def xRg (x : Int32) (a b : Int) : Prop := a ≤ x.toInt ∧ x.toInt ≤ b
-- the plain
def zsP : List (Nat × Nat) := [(2, 99), (44, 99), (45, 99), (46, 99), (47, 99), (43, 5), (43, 6)]
def xIP (σ : xS2) : Prop :=
  (∀ c, c < 36 → σ.1 44 c = σ.1 2 c ∧ xRg (σ.1 2 c) 0 9) ∧ (∀ c, c < 36 → σ.1 45 c = σ.1 2 (36 + c) ∧ xRg (σ.1 2 (36 + c)) 0 1) ∧
  (∀ d, d < 60 → σ.1 46 d = σ.1 2 (72 + d) ∧ xRg (σ.1 2 (72 + d)) 0 20) ∧ (∀ d, d < 60 → σ.1 47 d = σ.1 2 (132 + d) ∧ xRg (σ.1 2 (132 + d)) 0 9) ∧
  (σ.1 43 5 = σ.1 2 192 ∧ xRg (σ.1 2 192) 1 6) ∧ σ.1 43 6 = σ.1 2 193 ∧ xRg (σ.1 2 193) 0 12
theorem xIP_eq {σ τ : xS2} (h : xEq zsP σ τ) (hi : xIP σ) : xIP τ := by
  have e2 : ∀ k, τ.1 2 k = σ.1 2 k := fun k => (h 2 k rfl).1
  have e44 : ∀ k, τ.1 44 k = σ.1 44 k := fun k => (h 44 k rfl).1
  have e45 : ∀ k, τ.1 45 k = σ.1 45 k := fun k => (h 45 k rfl).1
  have e46 : ∀ k, τ.1 46 k = σ.1 46 k := fun k => (h 46 k rfl).1
  have e47 : ∀ k, τ.1 47 k = σ.1 47 k := fun k => (h 47 k rfl).1
  have e5 : τ.1 43 5 = σ.1 43 5 := (h 43 5 rfl).1
  have e6 : τ.1 43 6 = σ.1 43 6 := (h 43 6 rfl).1
  simpa only [xIP, e2, e44, e45, e46, e47, e5, e6] using hi
-- the cart
def zsC : List (Nat × Nat) := [(3, 99), (43, 8), (43, 9), (43, 10), (43, 11)]
def xIC (σ : xS2) : Prop :=
  (σ.1 43 8 = σ.1 3 0 ∧ xRg (σ.1 3 0) 0 35) ∧ (σ.1 43 9 = σ.1 3 1 ∧ xRg (σ.1 3 1) 0 99) ∧ (σ.1 43 10 = σ.1 3 2 ∧ xRg (σ.1 3 2) 0 9) ∧ σ.2 43 11 = σ.2 3 3
theorem xIC_eq {σ τ : xS2} (h : xEq zsC σ τ) (hi : xIC σ) : xIC τ := by
  have e3 : ∀ k, τ.1 3 k = σ.1 3 k := fun k => (h 3 k rfl).1
  have e3l : ∀ k, τ.2 3 k = σ.2 3 k := fun k => (h 3 k rfl).2
  have e8 : τ.1 43 8 = σ.1 43 8 := (h 43 8 rfl).1
  have e9 : τ.1 43 9 = σ.1 43 9 := (h 43 9 rfl).1
  have e10 : τ.1 43 10 = σ.1 43 10 := (h 43 10 rfl).1
  have e11 : τ.2 43 11 = σ.2 43 11 := (h 43 11 rfl).2
  simpa only [xIC, e3, e3l, e8, e9, e10, e11] using hi
-- today, and what was led
def zsT : List (Nat × Nat) := [(0, 12), (43, 7), (6, 99), (7, 99), (48, 99), (49, 99)]
def xIT (σ : xS2) : Prop :=
  (σ.1 43 7 = σ.1 0 12 ∧ xRg (σ.1 0 12) 0 60) ∧ (∀ d, d < 60 → σ.1 48 d = σ.1 6 d) ∧ ∀ d, d < 60 → σ.1 49 d = σ.1 7 d ∧ xRg (σ.1 7 d) 0 1
theorem xIT_eq {σ τ : xS2} (h : xEq zsT σ τ) (hi : xIT σ) : xIT τ := by
  have e12 : τ.1 0 12 = σ.1 0 12 := (h 0 12 rfl).1
  have e7 : τ.1 43 7 = σ.1 43 7 := (h 43 7 rfl).1
  have e6 : ∀ k, τ.1 6 k = σ.1 6 k := fun k => (h 6 k rfl).1
  have e77 : ∀ k, τ.1 7 k = σ.1 7 k := fun k => (h 7 k rfl).1
  have e48 : ∀ k, τ.1 48 k = σ.1 48 k := fun k => (h 48 k rfl).1
  have e49 : ∀ k, τ.1 49 k = σ.1 49 k := fun k => (h 49 k rfl).1
  simpa only [xIT, e12, e7, e6, e77, e48, e49] using hi
-- the image
def zsK : List (Nat × Nat) := [(0, 13), (5, 99), (43, 46), (43, 47), (43, 48), (43, 49), (43, 50), (43, 51)]
def xIK (σ : xS2) : Prop :=
  (σ.1 0 13 = -1 ∧ σ.1 43 46 = 0) ∨
  (σ.1 43 46 = 1 ∧ (σ.1 43 47 = σ.1 0 13 ∧ xRg (σ.1 0 13) 0 60) ∧ (σ.1 43 48 = σ.1 5 0 ∧ xRg (σ.1 5 0) 0 35) ∧ (σ.1 43 49 = σ.1 5 1 ∧ xRg (σ.1 5 1) 0 99) ∧ (σ.1 43 50 = σ.1 5 2 ∧ xRg (σ.1 5 2) 0 9) ∧ σ.2 43 51 = σ.2 5 3)
theorem xIK_eq {σ τ : xS2} (h : xEq zsK σ τ) (hi : xIK σ) : xIK τ := by
  have e13 : τ.1 0 13 = σ.1 0 13 := (h 0 13 rfl).1
  have e5 : ∀ k, τ.1 5 k = σ.1 5 k := fun k => (h 5 k rfl).1
  have e5l : ∀ k, τ.2 5 k = σ.2 5 k := fun k => (h 5 k rfl).2
  have e46 : τ.1 43 46 = σ.1 43 46 := (h 43 46 rfl).1
  have e47 : τ.1 43 47 = σ.1 43 47 := (h 43 47 rfl).1
  have e48 : τ.1 43 48 = σ.1 43 48 := (h 43 48 rfl).1
  have e49 : τ.1 43 49 = σ.1 43 49 := (h 43 49 rfl).1
  have e50 : τ.1 43 50 = σ.1 43 50 := (h 43 50 rfl).1
  have e51 : τ.2 43 51 = σ.2 43 51 := (h 43 51 rfl).2
  simpa only [xIK, e13, e5, e5l, e46, e47, e48, e49, e50, e51] using hi
-- the changes: places against kind and number
def xBg (w : Nat) : Nat := [0, 36, 72, 132, 192, 193].getD w 0
def xMy (w : Nat) : Nat := [36, 36, 60, 60, 1, 1].getD w 0
def xLo (w : Nat) : Int := if w = 4 then 1 else 0
def xHi (w : Nat) : Int := [9, 1, 20, 9, 6, 12].getD w 0
def zsU : List (Nat × Nat) := [(23, 3), (23, 4), (24, 99), (25, 99), (26, 99), (43, 14), (43, 15), (50, 99), (51, 99), (52, 99), (53, 99)]
def xIU (σ : xS2) : Prop := ∃ d k : Nat, d ≤ k ∧ k ≤ 40 ∧ σ.1 23 3 = nI d ∧ σ.1 23 4 = nI k ∧ σ.1 43 14 = nI d ∧ σ.1 43 15 = nI (k - d) ∧
  ∀ i, i < k → ∃ w a : Nat, w < 6 ∧ a < xMy w ∧ σ.1 24 i = nI (xBg w + a) ∧ σ.1 50 i = nI w ∧ σ.1 51 i = nI a ∧ σ.1 52 i = σ.1 25 i ∧ σ.1 53 i = σ.1 26 i ∧ xRg (σ.1 25 i) (xLo w) (xHi w) ∧ xRg (σ.1 26 i) (xLo w) (xHi w)
theorem xIU_eq {σ τ : xS2} (h : xEq zsU σ τ) (hi : xIU σ) : xIU τ := by
  have e3 : τ.1 23 3 = σ.1 23 3 := (h 23 3 rfl).1
  have e4 : τ.1 23 4 = σ.1 23 4 := (h 23 4 rfl).1
  have e24 : ∀ k, τ.1 24 k = σ.1 24 k := fun k => (h 24 k rfl).1
  have e25 : ∀ k, τ.1 25 k = σ.1 25 k := fun k => (h 25 k rfl).1
  have e26 : ∀ k, τ.1 26 k = σ.1 26 k := fun k => (h 26 k rfl).1
  have e14 : τ.1 43 14 = σ.1 43 14 := (h 43 14 rfl).1
  have e15 : τ.1 43 15 = σ.1 43 15 := (h 43 15 rfl).1
  have e50 : ∀ k, τ.1 50 k = σ.1 50 k := fun k => (h 50 k rfl).1
  have e51 : ∀ k, τ.1 51 k = σ.1 51 k := fun k => (h 51 k rfl).1
  have e52 : ∀ k, τ.1 52 k = σ.1 52 k := fun k => (h 52 k rfl).1
  have e53 : ∀ k, τ.1 53 k = σ.1 53 k := fun k => (h 53 k rfl).1
  simpa only [xIU, e3, e4, e24, e25, e26, e14, e15, e50, e51, e52, e53] using hi
-- the tape
def zsF : List (Nat × Nat) := [(8, 9), (9, 99), (43, 21), (54, 99)]
def xIF (σ : xS2) : Prop := ∃ n : Nat, n ≤ 120 ∧ σ.1 8 9 = nI n ∧ σ.1 43 21 = nI n ∧ ∀ i, i < n → xRg (σ.1 9 i) 0 255 ∧ σ.1 54 i = (σ.1 9 i).toInt8.toInt32
theorem xIF_eq {σ τ : xS2} (h : xEq zsF σ τ) (hi : xIF σ) : xIF τ := by
  have e9 : τ.1 8 9 = σ.1 8 9 := (h 8 9 rfl).1
  have e99 : ∀ k, τ.1 9 k = σ.1 9 k := fun k => (h 9 k rfl).1
  have e21 : τ.1 43 21 = σ.1 43 21 := (h 43 21 rfl).1
  have e54 : ∀ k, τ.1 54 k = σ.1 54 k := fun k => (h 54 k rfl).1
  simpa only [xIF, e9, e99, e21, e54] using hi
-- the law: a list of codes (the class's own), and the reference's steps of them
/-- a code as the reference's step: what, and with what -/
def xSt (z : Int32) : Int32 × Int32 :=
  if 0 ≤ z then (1, z) else if z = -115 then (2, 0) else if z = -117 then (2, 1) else if z = -100 then (2, 2) else if z = -104 then (2, 3) else if z = -111 then (2, 4) else if z = -119 then (2, 5) else if z = -99 then (2, 6)
  else if z = -33 then (3, 0) else if z = -126 then (4, 0) else (-z, 0)
/-- a line: its test's codes (none: no test), its body's codes -/
abbrev xLn : Type := Option (List Int32) × List Int32
def xCd : List xLn → List Int32
  | [] => []
  | (none, b) :: r => b ++ (-59 : Int32) :: xCd r
  | (some t, b) :: r => t ++ (-63 : Int32) :: (b ++ (-59 : Int32) :: xCd r)
def xSp : List xLn → List Int32
  | [] => []
  | (t, b) :: r => t.getD [] ++ b ++ xSp r
/-- where the lines' tests and bodies end, from the step n on -/
def xEnds : Nat → List xLn → List (Nat × Nat)
  | _, [] => []
  | n, (t, b) :: r => (n + (t.getD []).length, n + (t.getD []).length + b.length) :: xEnds (n + (t.getD []).length + b.length) r
/-- how many values a code leaves on n values; none: there are too few, or it is no step's code -/
def xDp (z : Int32) (n : Nat) : Option Nat :=
  if 0 ≤ z then some (n + 1) else if z = -115 ∨ z = -117 ∨ z = -100 ∨ z = -104 ∨ z = -111 ∨ z = -119 ∨ z = -99 then some (n + 1)
  else if z = -33 ∨ z = -126 then (if 1 ≤ n then some n else none)
  else if z = -43 ∨ z = -45 ∨ z = -42 ∨ z = -47 ∨ z = -37 ∨ z = -60 ∨ z = -61 ∨ z = -62 ∨ z = -38 ∨ z = -124 then (if 2 ≤ n then some (n - 1) else none) else none
def xDps : List Int32 → Nat → Option Nat
  | [], n => some n
  | z :: r, n => (xDp z n).bind (xDps r)
/-- codes that leave one value -/
def xOne (l : List Int32) : Prop := l ≠ [] ∧ ∀ n, xDps l n = some (n + 1)
def zsL : List (Nat × Nat) := [(8, 5), (11, 99), (43, 33), (55, 99), (56, 99), (57, 0), (57, 99), (58, 99), (59, 99)]
def xIL (σ : xS2) : Prop := (σ.1 8 5 = 0 ∧ σ.1 43 33 = 0) ∨ (σ.1 43 33 = 1 ∧ ∃ P : List xLn, P ≠ [] ∧ (∀ q ∈ P, (∀ t, q.1 = some t → xOne t) ∧ xOne q.2) ∧ P.length ≤ 61 ∧ (xCd P).length ≤ 121 ∧ (xSp P).length ≤ 121 ∧
  σ.1 8 5 = nI (xCd P).length ∧ (∀ i z, (xCd P)[i]? = some z → σ.1 11 i = z) ∧ (∀ i z, (xSp P)[i]? = some z → σ.1 55 i = (xSt z).1 ∧ σ.1 56 i = (xSt z).2) ∧
  σ.1 57 0 = nI P.length ∧ ∀ i q, (xEnds 0 P)[i]? = some q → σ.1 58 i = nI q.1 ∧ σ.1 59 i = nI q.2)
theorem xIL_eq {σ τ : xS2} (h : xEq zsL σ τ) (hi : xIL σ) : xIL τ := by
  have e5 : τ.1 8 5 = σ.1 8 5 := (h 8 5 rfl).1
  have e11 : ∀ k, τ.1 11 k = σ.1 11 k := fun k => (h 11 k rfl).1
  have e33 : τ.1 43 33 = σ.1 43 33 := (h 43 33 rfl).1
  have e55 : ∀ k, τ.1 55 k = σ.1 55 k := fun k => (h 55 k rfl).1
  have e56 : ∀ k, τ.1 56 k = σ.1 56 k := fun k => (h 56 k rfl).1
  have e57 : ∀ k, τ.1 57 k = σ.1 57 k := fun k => (h 57 k (by simp [xWn, zsL])).1
  have e58 : ∀ k, τ.1 58 k = σ.1 58 k := fun k => (h 58 k rfl).1
  have e59 : ∀ k, τ.1 59 k = σ.1 59 k := fun k => (h 59 k rfl).1
  simpa only [xIL, e5, e11, e33, e55, e56, e57, e58, e59] using hi
-- the shelves
def zsS : List (Nat × Nat) := [(28, 99), (29, 99), (30, 99), (31, 99), (32, 99), (33, 99), (34, 99), (35, 99), (36, 99), (37, 99), (38, 99), (39, 99), (70, 99), (71, 99), (72, 99)]
def xSh1 (σ : xS2) (s : Nat) : Prop :=
  xRg (σ.1 (28 + 2 * s) 4) 0 60 ∧ σ.1 71 s = σ.1 (28 + 2 * s) 4 ∧ (∀ i, i < 60 → σ.2 72 (60 * s + i) = σ.2 (29 + 2 * s) i) ∧
  ((σ.1 (28 + 2 * s) 1 = 0 ∧ σ.1 70 s = -1) ∨ (σ.1 (28 + 2 * s) 1 = 1 ∧ σ.1 70 s = σ.1 (28 + 2 * s) 2 ∧ xRg (σ.1 70 s) 0 49 ∧ (σ.1 70 s).toInt < (σ.1 40 3).toInt) ∨ (σ.1 (28 + 2 * s) 1 = 2 ∧ xRg (σ.1 (28 + 2 * s) 3) 0 4 ∧ σ.1 70 s = -2 - σ.1 (28 + 2 * s) 3 ∧
    (σ.1 (28 + 2 * s) 3 = 0 → ∀ i, i < 60 → -128 ≤ (σ.2 (29 + 2 * s) i).toInt ∧ (σ.2 (29 + 2 * s) i).toInt ≤ 127)))
def xIS (σ : xS2) : Prop := ∀ s, s < 6 → xSh1 σ s
theorem xIS_eq {σ τ : xS2} (h : xEq zsS σ τ) (hk : τ.1 40 3 = σ.1 40 3) (hi : xIS σ) : xIS τ := by
  intro s hs
  have e70 : ∀ k, τ.1 70 k = σ.1 70 k := fun k => (h 70 k rfl).1
  have e71 : ∀ k, τ.1 71 k = σ.1 71 k := fun k => (h 71 k rfl).1
  have e72 : ∀ k, τ.2 72 k = σ.2 72 k := fun k => (h 72 k rfl).2
  have eo : ∀ k, τ.1 (28 + 2 * s) k = σ.1 (28 + 2 * s) k := by
    intro k
    rcases (show s = 0 ∨ s = 1 ∨ s = 2 ∨ s = 3 ∨ s = 4 ∨ s = 5 by omega) with rfl | rfl | rfl | rfl | rfl | rfl
    · exact (h 28 k rfl).1
    · exact (h 30 k rfl).1
    · exact (h 32 k rfl).1
    · exact (h 34 k rfl).1
    · exact (h 36 k rfl).1
    · exact (h 38 k rfl).1
  have ee : ∀ k, τ.2 (29 + 2 * s) k = σ.2 (29 + 2 * s) k := by
    intro k
    rcases (show s = 0 ∨ s = 1 ∨ s = 2 ∨ s = 3 ∨ s = 4 ∨ s = 5 by omega) with rfl | rfl | rfl | rfl | rfl | rfl
    · exact (h 29 k rfl).2
    · exact (h 31 k rfl).2
    · exact (h 33 k rfl).2
    · exact (h 35 k rfl).2
    · exact (h 37 k rfl).2
    · exact (h 39 k rfl).2
  have := hi s hs
  simpa only [xSh1, e70, e71, e72, eo, ee, hk] using this
-- the bodies and the trace
def zsW : List (Nat × Nat) := [(40, 3), (40, 4), (41, 99), (42, 99), (43, 52), (43, 54), (68, 99), (69, 99)]
def xIW (σ : xS2) : Prop := (σ.1 43 52 = σ.1 40 3 ∧ xRg (σ.1 40 3) 0 50) ∧ (∀ b : Nat, b < 50 → (b : Int) < (σ.1 40 3).toInt → σ.1 68 b = σ.1 41 b ∧ xRg (σ.1 41 b) 0 7) ∧
  (σ.1 43 54 = σ.1 40 4 ∧ xRg (σ.1 40 4) 0 1000) ∧ ∀ i : Nat, i < 24 → (i : Int) < (σ.1 40 4).toInt → σ.1 69 i = σ.1 42 i ∧ xRg (σ.1 42 i) 1 81
theorem xIW_eq {σ τ : xS2} (h : xEq zsW σ τ) (hi : xIW σ) : xIW τ := by
  have e3 : τ.1 40 3 = σ.1 40 3 := (h 40 3 rfl).1
  have e4 : τ.1 40 4 = σ.1 40 4 := (h 40 4 rfl).1
  have e41 : ∀ k, τ.1 41 k = σ.1 41 k := fun k => (h 41 k rfl).1
  have e42 : ∀ k, τ.1 42 k = σ.1 42 k := fun k => (h 42 k rfl).1
  have e52 : τ.1 43 52 = σ.1 43 52 := (h 43 52 rfl).1
  have e54 : τ.1 43 54 = σ.1 43 54 := (h 43 54 rfl).1
  have e68 : ∀ k, τ.1 68 k = σ.1 68 k := fun k => (h 68 k rfl).1
  have e69 : ∀ k, τ.1 69 k = σ.1 69 k := fun k => (h 69 k rfl).1
  simpa only [xIW, e3, e4, e41, e42, e52, e54, e68, e69] using hi
def xIv (σ : xS2) : Prop := xIP σ ∧ xIC σ ∧ xIT σ ∧ xIK σ ∧ xIU σ ∧ xIF σ ∧ xIL σ ∧ xIS σ ∧ xIW σ
set_option maxRecDepth 100000 in
theorem xIv_0 : xIv xS0 := by
  have d1 : ∀ c, c < 36 → xS0.1 44 c = xS0.1 2 c ∧ 0 ≤ (xS0.1 2 c).toInt ∧ (xS0.1 2 c).toInt ≤ 9 := by decide +kernel
  have d2 : ∀ c, c < 36 → xS0.1 45 c = xS0.1 2 (36 + c) ∧ 0 ≤ (xS0.1 2 (36 + c)).toInt ∧ (xS0.1 2 (36 + c)).toInt ≤ 1 := by decide +kernel
  have d3 : ∀ d, d < 60 → xS0.1 46 d = xS0.1 2 (72 + d) ∧ 0 ≤ (xS0.1 2 (72 + d)).toInt ∧ (xS0.1 2 (72 + d)).toInt ≤ 20 := by decide +kernel
  have d4 : ∀ d, d < 60 → xS0.1 47 d = xS0.1 2 (132 + d) ∧ 0 ≤ (xS0.1 2 (132 + d)).toInt ∧ (xS0.1 2 (132 + d)).toInt ≤ 9 := by decide +kernel
  have d5 : (xS0.1 43 5 = xS0.1 2 192 ∧ 1 ≤ (xS0.1 2 192).toInt ∧ (xS0.1 2 192).toInt ≤ 6) ∧ xS0.1 43 6 = xS0.1 2 193 ∧ 0 ≤ (xS0.1 2 193).toInt ∧ (xS0.1 2 193).toInt ≤ 12 := by decide +kernel
  have d6 : (xS0.1 43 8 = xS0.1 3 0 ∧ 0 ≤ (xS0.1 3 0).toInt ∧ (xS0.1 3 0).toInt ≤ 35) ∧ (xS0.1 43 9 = xS0.1 3 1 ∧ 0 ≤ (xS0.1 3 1).toInt ∧ (xS0.1 3 1).toInt ≤ 99) ∧ (xS0.1 43 10 = xS0.1 3 2 ∧ 0 ≤ (xS0.1 3 2).toInt ∧ (xS0.1 3 2).toInt ≤ 9) ∧ xS0.2 43 11 = xS0.2 3 3 := by decide +kernel
  have d7 : (xS0.1 43 7 = xS0.1 0 12 ∧ 0 ≤ (xS0.1 0 12).toInt ∧ (xS0.1 0 12).toInt ≤ 60) ∧ (∀ d, d < 60 → xS0.1 48 d = xS0.1 6 d) ∧ ∀ d, d < 60 → xS0.1 49 d = xS0.1 7 d ∧ 0 ≤ (xS0.1 7 d).toInt ∧ (xS0.1 7 d).toInt ≤ 1 := by decide +kernel
  have d8 : xS0.1 0 13 = -1 ∧ xS0.1 43 46 = 0 := by decide +kernel
  have d9 : xS0.1 23 3 = nI 0 ∧ xS0.1 23 4 = nI 0 ∧ xS0.1 43 14 = nI 0 ∧ xS0.1 43 15 = nI (0 - 0) := by decide +kernel
  have d10 : xS0.1 8 9 = nI 0 ∧ xS0.1 43 21 = nI 0 := by decide +kernel
  have d11 : xS0.1 8 5 = 0 ∧ xS0.1 43 33 = 0 := by decide +kernel
  have d12 : ∀ s, s < 6 → (0 ≤ (xS0.1 (28 + 2 * s) 4).toInt ∧ (xS0.1 (28 + 2 * s) 4).toInt ≤ 60) ∧ xS0.1 71 s = xS0.1 (28 + 2 * s) 4 ∧ (∀ i, i < 60 → xS0.2 72 (60 * s + i) = xS0.2 (29 + 2 * s) i) ∧ xS0.1 (28 + 2 * s) 1 = 0 ∧ xS0.1 70 s = -1 := by decide +kernel
  have d13 : xS0.1 43 52 = xS0.1 40 3 ∧ xS0.1 40 3 = 0 ∧ xS0.1 43 54 = xS0.1 40 4 ∧ xS0.1 40 4 = 0 := by decide +kernel
  refine ⟨⟨d1, d2, d3, d4, d5⟩, d6, d7, Or.inl d8, ⟨0, 0, Nat.le_refl _, Nat.zero_le _, d9.1, d9.2.1, d9.2.2.1, d9.2.2.2, fun i h => absurd h (Nat.not_lt_zero _)⟩, ⟨0, Nat.zero_le _, d10.1, d10.2, fun i h => absurd h (Nat.not_lt_zero _)⟩, Or.inl d11, fun s hs => ?_, ⟨d13.1, ?_⟩, fun b _ hb => ?_, ⟨d13.2.2.1, ?_⟩, fun i _ hi => ?_⟩
  · obtain ⟨h1, h2, h3, h4, h5⟩ := d12 s hs
    exact ⟨h1, h2, h3, Or.inl ⟨h4, h5⟩⟩
  · rw [d13.2.1]; exact ⟨by decide, by decide⟩
  · rw [d13.2.1] at hb; exact absurd hb (by show ¬ (b : Int) < 0; omega)
  · rw [d13.2.2.2]; exact ⟨by decide, by decide⟩
  · rw [d13.2.2.2] at hi; exact absurd hi (by show ¬ (i : Int) < 0; omega)
