/-! Bits: the reference's count, bit by bit. -/
def pcF : Nat → Nat → Nat
  | 0, _ => 0
  | f + 1, n => n % 2 + pcF f (n / 2)
theorem pcF_0 : ∀ f, pcF f 0 = 0 := by
  intro f
  induction f with
  | zero => rfl
  | succ f ih => show 0 % 2 + pcF f (0 / 2) = 0; rw [Nat.zero_div, ih]
theorem and_even (a b : Nat) : (2 * a) &&& (2 * b + 1) = 2 * (a &&& b) := by
  apply Nat.eq_of_testBit_eq
  intro i
  cases i with
  | zero => simp [Nat.testBit_zero]
  | succ i =>
    rw [Nat.testBit_and, Nat.testBit_succ, Nat.testBit_succ, Nat.testBit_succ, show 2 * a / 2 = a by omega, show (2 * b + 1) / 2 = b by omega, show 2 * (a &&& b) / 2 = a &&& b by omega, Nat.testBit_and]
theorem and_odd (a : Nat) : (2 * a + 1) &&& (2 * a) = 2 * a := by
  apply Nat.eq_of_testBit_eq
  intro i
  cases i with
  | zero => simp [Nat.testBit_zero]
  | succ i =>
    rw [Nat.testBit_and, Nat.testBit_succ, Nat.testBit_succ, show 2 * a / 2 = a by omega, show (2 * a + 1) / 2 = a by omega, Bool.and_self]
theorem pc_less : ∀ (f n : Nat), 0 < n → n < 2 ^ f → pcF f (n &&& (n - 1)) + 1 = pcF f n := by
  intro f
  induction f with
  | zero => intro n h0 h; rw [Nat.pow_zero] at h; omega
  | succ f ih =>
    intro n h0 h
    rw [Nat.pow_succ] at h
    rcases Nat.mod_two_eq_zero_or_one n with e | e
    · obtain ⟨m, rfl⟩ : ∃ m, n = 2 * m := ⟨n / 2, by omega⟩
      obtain ⟨k, rfl⟩ : ∃ k, m = k + 1 := ⟨m - 1, by omega⟩
      have e2 : 2 * (k + 1) - 1 = 2 * k + 1 := by omega
      rw [e2, and_even]
      show (2 * ((k + 1) &&& k)) % 2 + pcF f (2 * ((k + 1) &&& k) / 2) + 1 = (2 * (k + 1)) % 2 + pcF f (2 * (k + 1) / 2)
      have := ih (k + 1) (by omega) (by omega)
      rw [show k + 1 - 1 = k by omega] at this
      rw [show 2 * ((k + 1) &&& k) / 2 = (k + 1) &&& k by omega, show 2 * (k + 1) / 2 = k + 1 by omega]
      omega
    · obtain ⟨m, rfl⟩ : ∃ m, n = 2 * m + 1 := ⟨n / 2, by omega⟩
      have e2 : 2 * m + 1 - 1 = 2 * m := by omega
      rw [e2, and_odd]
      show (2 * m) % 2 + pcF f (2 * m / 2) + 1 = (2 * m + 1) % 2 + pcF f ((2 * m + 1) / 2)
      rw [show 2 * m / 2 = m by omega, show (2 * m + 1) / 2 = m by omega]
      omega
theorem pc_pos : ∀ (f n : Nat), 0 < n → n < 2 ^ f → 0 < pcF f n := fun f n h0 h => by have := pc_less f n h0 h; omega
theorem less_nat {x : Int64} (h : 0 < x.toBitVec.toNat) : (x &&& (x - 1)).toBitVec.toNat = x.toBitVec.toNat &&& (x.toBitVec.toNat - 1) := by
  rw [Int64.toBitVec_and, BitVec.toNat_and, Int64.toBitVec_sub]
  congr 1
  show (x.toBitVec - 1#64).toNat = _
  rw [BitVec.toNat_sub]
  have := x.toBitVec.isLt
  show (2 ^ 64 - 1 + x.toBitVec.toNat) % 2 ^ 64 = _
  omega
theorem bitsIn_pc : ∀ (k f c : Nat) (x : Int64), pcF 64 x.toBitVec.toNat = k → k < f → J_X9_bitsIn_4 f (nI c) x = some (nI (c + k)) := by
  intro k
  induction k with
  | zero =>
    intro f c x h hf
    obtain ⟨f, rfl⟩ : ∃ z, f = z + 1 := ⟨f - 1, by omega⟩
    have x0 : x.toBitVec.toNat = 0 := by
      rcases Nat.eq_zero_or_pos x.toBitVec.toNat with z | z
      · exact z
      · have := pc_pos 64 _ z x.toBitVec.isLt
        omega
    have : x = 0 := Int64.toBitVec_inj.mp (BitVec.eq_of_toNat_eq (by rw [x0]; rfl))
    rw [E_X9_bitsIn_4, if_pos ((lg_cmp_eq _ _).mpr this)]
    rfl
  | succ k ih =>
    intro f c x h hf
    obtain ⟨f, rfl⟩ : ∃ z, f = z + 1 := ⟨f - 1, by omega⟩
    have xp : 0 < x.toBitVec.toNat := by
      rcases Nat.eq_zero_or_pos x.toBitVec.toNat with z | z
      · rw [z, pcF_0] at h; omega
      · exact z
    have hne : ¬ x = 0 := fun z => by rw [z] at xp; exact absurd xp (by decide)
    rw [E_X9_bitsIn_4, if_neg (fun z => hne ((lg_cmp_eq _ _).mp z)), nI_1, ih f (c + 1) _ ?_ (by omega), show c + 1 + k = c + (k + 1) by omega]
    have := pc_less 64 _ xp x.toBitVec.isLt
    rw [← less_nat xp] at this
    omega
theorem pc_le : ∀ f n, pcF f n ≤ f := by
  intro f
  induction f with
  | zero => intro n; exact Nat.le_refl _
  | succ f ih =>
    intro n
    have := ih (n / 2)
    show n % 2 + pcF f (n / 2) ≤ f + 1
    omega
theorem bitsIn_eq (x : Int64) : J_X9_bitsIn x = some (nI (pcF 64 x.toBitVec.toNat)) := by
  have := bitsIn_pc (pcF 64 x.toBitVec.toNat) xFU 0 x rfl (by have := pc_le 64 x.toBitVec.toNat; show _ < 2000; omega)
  rw [Nat.zero_add] at this
  exact this
