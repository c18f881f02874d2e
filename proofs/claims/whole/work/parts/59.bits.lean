/-! Bits: both count alike. -/
def i1 (x : Int64) : Int64 := x - (xlu x 1 &&& 6148914691236517205)
def i2 (y : Int64) : Int64 := (y &&& 3689348814741910323) + (xlu y 2 &&& 3689348814741910323)
def i3 (z : Int64) : Int64 := (z + xlu z 4) &&& 1085102592571150095
def i4 (k : Int32) (w : Int64) : Int64 := w + xlu w k
theorem bc_eq (x : Int64) : J_J13_bitCount_95d88 x = (i4 32 (i4 16 (i4 8 (i3 (i2 (i1 x)))))).toInt32 &&& 127 := rfl
abbrev tn (x : Int64) : Nat := x.toBitVec.toNat
theorem xlu_nat {x : Int64} {c : Nat} (hc : c < 36) : tn (xlu x (nI c)) = tn x / 2 ^ c := by
  unfold xlu tn
  show (x.toUInt64 >>> ((nI c).toInt64.toUInt64 &&& Int64.toUInt64 63)).toBitVec.toNat = _
  rw [UInt64.toBitVec_shiftRight, (sh_amt c hc).2]
  show (x.toBitVec >>> (BitVec.ofNat 64 c).toNat).toNat = _
  rw [BitVec.toNat_ofNat, Nat.mod_eq_of_lt (by omega), BitVec.toNat_ushiftRight, Nat.shiftRight_eq_div_pow]
theorem tn_lt (x : Int64) : tn x < 18446744073709551616 := x.toBitVec.isLt
theorem tn_and (x y : Int64) : tn (x &&& y) = tn x &&& tn y := by unfold tn; rw [Int64.toBitVec_and, BitVec.toNat_and]
theorem tn_add {x y : Int64} (h : tn x + tn y < 18446744073709551616) : tn (x + y) = tn x + tn y := by
  unfold tn at *
  rw [Int64.toBitVec_add, BitVec.toNat_add]
  exact Nat.mod_eq_of_lt h
theorem tn_sub {x y : Int64} (h : tn y ≤ tn x) : tn (x - y) = tn x - tn y := by
  have := tn_lt x
  unfold tn at *
  rw [Int64.toBitVec_sub, BitVec.toNat_sub]
  show (18446744073709551616 - y.toBitVec.toNat + x.toBitVec.toNat) % 18446744073709551616 = _
  omega
theorem m85 : tn 6148914691236517205 = mkB 85 8 := by decide +kernel
theorem m51 : tn 3689348814741910323 = mkB 51 8 ∧ mkB 51 8 = 3689348814741910323 := by decide +kernel
theorem m15 : tn 1085102592571150095 = mkB 15 8 ∧ mkB 15 8 = 1085102592571150095 := by decide +kernel
theorem tn_i1 (x : Int64) : tn (i1 x) = nH1 8 (tn x) := by
  have e : tn (xlu x 1 &&& 6148914691236517205) = (tn x / 2 &&& mkB 85 8) := by
    rw [tn_and, m85]
    show tn (xlu x (nI 1)) &&& _ = _
    rw [xlu_nat (by decide)]
  unfold i1 nH1
  rw [tn_sub (by rw [e]; exact and_h1 8 _), e]
theorem tn_i2 (y : Int64) : tn (i2 y) = nH2 8 (tn y) ∧ nH2 8 (tn y) ≤ 7378697629483820646 := by
  have e : tn (xlu y 2 &&& 3689348814741910323) = (tn y / 4 &&& mkB 51 8) := by
    rw [tn_and, m51.1]
    show tn (xlu y (nI 2)) &&& _ = _
    rw [xlu_nat (by decide)]
  have a : (tn y &&& mkB 51 8) ≤ 3689348814741910323 := by rw [← m51.2]; exact Nat.and_le_right
  have b : (tn y / 4 &&& mkB 51 8) ≤ 3689348814741910323 := by rw [← m51.2]; exact Nat.and_le_right
  unfold i2 nH2
  refine ⟨?_, by omega⟩
  rw [tn_add (by rw [e, tn_and, m51.1]; omega), e, tn_and, m51.1]
theorem tn_i3 {z : Int64} (h : tn z ≤ 7378697629483820646) : tn (i3 z) = nH3 8 (tn z) ∧ nH3 8 (tn z) ≤ 1085102592571150095 := by
  have e : tn (xlu z 4) = tn z / 16 := by
    show tn (xlu z (nI 4)) = _
    rw [xlu_nat (by decide)]
  unfold i3 nH3
  refine ⟨?_, by rw [← m15.2]; exact Nat.and_le_right⟩
  rw [tn_and, tn_add (by rw [e]; omega), e, m15.1]
theorem nT_step {k n : Nat} (h : n < 256 ^ (k + 1)) : nT (k + 1) n = pcF 8 (n % 256) + 256 * nT k (n / 256) := by
  rw [Nat.pow_succ] at h
  have := nT_by (k := k) (b := n % 256) (m := n / 256) (by omega) (by omega)
  rw [show n % 256 + 256 * (n / 256) = n by omega] at this
  exact this
theorem pc_step (f n : Nat) : pcF (8 + f) n = pcF 8 (n % 256) + pcF f (n / 256) := pc_by 8 f n
theorem sums {p0 p1 p2 p3 p4 p5 p6 p7 : Nat} (h0 : p0 ≤ 8) (h1 : p1 ≤ 8) (h2 : p2 ≤ 8) (h3 : p3 ≤ 8) (h4 : p4 ≤ 8) (h5 : p5 ≤ 8) (h6 : p6 ≤ 8) (h7 : p7 ≤ 8) (w : Nat)
    (hw : w = p0 + 256 * (p1 + 256 * (p2 + 256 * (p3 + 256 * (p4 + 256 * (p5 + 256 * (p6 + 256 * p7))))))) (w4 w5 w6 : Nat) (e4 : w4 = w + w / 256) (e5 : w5 = w4 + w4 / 65536) (e6 : w6 = w5 + w5 / 4294967296) :
    w6 % 4294967296 % 128 = p0 + (p1 + (p2 + (p3 + (p4 + (p5 + (p6 + p7)))))) ∧ w4 < 2000000000000000000 ∧ w5 < 3000000000000000000 ∧ w6 < 4000000000000000000 := by
  obtain ⟨r6, e_6⟩ : ∃ r, r = p6 + 256 * p7 := ⟨_, rfl⟩
  obtain ⟨r5, e_5⟩ : ∃ r, r = p5 + 256 * r6 := ⟨_, rfl⟩
  obtain ⟨r4, e_4⟩ : ∃ r, r = p4 + 256 * r5 := ⟨_, rfl⟩
  obtain ⟨r3, e_3⟩ : ∃ r, r = p3 + 256 * r4 := ⟨_, rfl⟩
  obtain ⟨r2, e_2⟩ : ∃ r, r = p2 + 256 * r3 := ⟨_, rfl⟩
  obtain ⟨r1, e_1⟩ : ∃ r, r = p1 + 256 * r2 := ⟨_, rfl⟩
  have hw' : w = p0 + 256 * r1 := by rw [hw, e_1, e_2, e_3, e_4, e_5, e_6]
  clear hw
  have q1 : w / 256 = r1 := by omega
  rw [q1] at e4
  have q2 : w4 / 65536 = r2 + r3 := by omega
  rw [q2] at e5
  have q3 : w5 / 4294967296 = r4 + r5 + r6 + p7 := by omega
  rw [q3] at e6
  have b6 : r6 ≤ 2056 := by omega
  have b5 : r5 ≤ 526344 := by omega
  have b4 : r4 ≤ 134744072 := by omega
  have b3 : r3 ≤ 34494482440 := by omega
  have b2 : r2 ≤ 8830587504648 := by omega
  have b1 : r1 ≤ 2260630401189896 := by omega
  refine ⟨?_, by omega, by omega, by omega⟩
  have m1 : w6 % 4294967296 % 128 = w6 % 128 := Nat.mod_mod_of_dvd w6 ⟨33554432, rfl⟩
  rw [m1]
  have z : w6 = (p0 + (p1 + (p2 + (p3 + (p4 + (p5 + (p6 + p7))))))) + 128 * (2 * (r1 + r2 + r3 + r4 + r5 + r6 + p7)) := by omega
  rw [z, Nat.add_mul_mod_self_left, Nat.mod_eq_of_lt (by omega)]
