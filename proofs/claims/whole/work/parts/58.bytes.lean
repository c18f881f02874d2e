/-! Bits: the class's count, byte by byte. -/
theorem and_by {a b c d : Nat} (ha : a < 256) (hc : c < 256) : (a + 256 * b) &&& (c + 256 * d) = (a &&& c) + 256 * (b &&& d) := by
  have hac : a &&& c < 256 := Nat.lt_of_le_of_lt Nat.and_le_left ha
  apply Nat.eq_of_testBit_eq
  intro i
  rw [Nat.testBit_and, Nat.add_comm a, Nat.add_comm c, Nat.add_comm (a &&& c)]
  show ((2 ^ 8 * b + a).testBit i && (2 ^ 8 * d + c).testBit i) = (2 ^ 8 * (b &&& d) + (a &&& c)).testBit i
  rw [Nat.testBit_two_pow_mul_add b ha, Nat.testBit_two_pow_mul_add d hc, Nat.testBit_two_pow_mul_add (b &&& d) hac]
  by_cases q : i < 8
  · rw [if_pos q, if_pos q, if_pos q, Nat.testBit_and]
  · rw [if_neg q, if_neg q, if_neg q, Nat.testBit_and]
/-- a mask of k bytes -/
def mkB (c : Nat) : Nat → Nat
  | 0 => 0
  | k + 1 => c + 256 * mkB c k
def nH1 (k n : Nat) : Nat := n - (n / 2 &&& mkB 85 k)
def nH2 (k y : Nat) : Nat := (y &&& mkB 51 k) + (y / 4 &&& mkB 51 k)
def nH3 (k z : Nat) : Nat := (z + z / 16) &&& mkB 15 k
theorem f1 : ∀ b, b < 256 → ∀ e, e < 2 → ((b / 2 + 128 * e) &&& 85) = (b / 2 &&& 85) ∧ (b / 2 &&& 85) ≤ b := by decide +kernel
theorem f2 : ∀ b, b < 256 → ∀ e, e < 4 → ((b / 4 + 64 * e) &&& 51) = (b / 4 &&& 51) := by decide +kernel
def gB (b : Nat) : Nat := nH2 1 (nH1 1 b)
theorem g_rg : ∀ b, b < 256 → gB b % 16 ≤ 4 ∧ gB b ≤ 68 ∧ nH1 1 b < 256 ∧ gB b = (nH1 1 b &&& 51) + (nH1 1 b / 4 &&& 51) ∧ nH1 1 b = b - (b / 2 &&& 85) := by decide +kernel
theorem f3 : ∀ b, b < 256 → ∀ e, e < 5 → ((gB b + gB b / 16 + 16 * e) &&& 15) = pcF 8 b ∧ gB b + gB b / 16 + 16 * e < 256 := by decide +kernel
theorem and_h1 (k n : Nat) : (n / 2 &&& mkB 85 k) ≤ n := Nat.le_trans Nat.and_le_left (Nat.div_le_self _ _)
theorem h1_by {k b m : Nat} (hb : b < 256) : nH1 (k + 1) (b + 256 * m) = nH1 1 b + 256 * nH1 k m := by
  obtain ⟨e1, e2⟩ := f1 b hb (m % 2) (by omega)
  have e3 := (g_rg b hb).2.2.2.2
  have e4 := and_h1 k m
  unfold nH1 at *
  show b + 256 * m - ((b + 256 * m) / 2 &&& (85 + 256 * mkB 85 k)) = _
  rw [e3, show (b + 256 * m) / 2 = (b / 2 + 128 * (m % 2)) + 256 * (m / 2) by omega, and_by (by omega) (by decide), e1]
  omega
theorem h2_by {k y0 y1 : Nat} (hb : y0 < 256) : nH2 (k + 1) (y0 + 256 * y1) = ((y0 &&& 51) + (y0 / 4 &&& 51)) + 256 * nH2 k y1 := by
  unfold nH2
  show ((y0 + 256 * y1) &&& (51 + 256 * mkB 51 k)) + ((y0 + 256 * y1) / 4 &&& (51 + 256 * mkB 51 k)) = _
  rw [show (y0 + 256 * y1) / 4 = (y0 / 4 + 64 * (y1 % 4)) + 256 * (y1 / 4) by omega, and_by hb (by decide), and_by (by omega) (by decide), f2 y0 hb (y1 % 4) (by omega)]
  omega
def nG (k n : Nat) : Nat := nH2 k (nH1 k n)
theorem nG_by {k b m : Nat} (hb : b < 256) : nG (k + 1) (b + 256 * m) = gB b + 256 * nG k m := by
  obtain ⟨-, -, g3, g4, -⟩ := g_rg b hb
  unfold nG
  rw [h1_by hb, h2_by g3, ← g4]
theorem nG_low : ∀ (k m : Nat), m < 256 ^ k → nG k m % 16 ≤ 4 := by
  intro k m h
  cases k with
  | zero =>
    have : m = 0 := by rw [Nat.pow_zero] at h; omega
    subst this
    decide
  | succ k =>
    have e := nG_by (k := k) (b := m % 256) (m := m / 256) (by omega)
    rw [show m % 256 + 256 * (m / 256) = m by omega] at e
    have := (g_rg (m % 256) (by omega)).1
    omega
def nT (k n : Nat) : Nat := nH3 k (nG k n)
theorem nT_by {k b m : Nat} (hb : b < 256) (hm : m < 256 ^ k) : nT (k + 1) (b + 256 * m) = pcF 8 b + 256 * nT k m := by
  have hl := nG_low k m hm
  obtain ⟨e1, e2⟩ := f3 b hb (nG k m % 16) (by omega)
  unfold nT nH3
  rw [nG_by hb]
  show ((gB b + 256 * nG k m) + (gB b + 256 * nG k m) / 16 &&& (15 + 256 * mkB 15 k)) = _
  rw [show (gB b + 256 * nG k m) + (gB b + 256 * nG k m) / 16 = (gB b + gB b / 16 + 16 * (nG k m % 16)) + 256 * (nG k m + nG k m / 16) by omega, and_by e2 (by decide), e1]
theorem pc_by : ∀ (a f n : Nat), pcF (a + f) n = pcF a (n % 2 ^ a) + pcF f (n / 2 ^ a) := by
  intro a
  induction a with
  | zero => intro f n; rw [Nat.zero_add, Nat.pow_zero, Nat.div_one]; show _ = 0 + _; omega
  | succ a ih =>
    intro f n
    rw [Nat.add_right_comm]
    show n % 2 + pcF (a + f) (n / 2) = ((n % 2 ^ (a + 1)) % 2 + pcF a ((n % 2 ^ (a + 1)) / 2)) + pcF f (n / 2 ^ (a + 1))
    have e1 : n % 2 ^ (a + 1) % 2 = n % 2 := Nat.mod_mod_of_dvd n ⟨2 ^ a, by rw [Nat.pow_succ, Nat.mul_comm]⟩
    have e2 : n % 2 ^ (a + 1) / 2 = n / 2 % 2 ^ a := by
      rw [Nat.pow_succ, Nat.mul_comm, Nat.mod_mul_right_div_self]
    have e3 : n / 2 ^ (a + 1) = n / 2 / 2 ^ a := by rw [Nat.pow_succ, Nat.mul_comm, Nat.div_div_eq_div_mul]
    rw [ih f (n / 2), e1, e2, e3]
    omega
