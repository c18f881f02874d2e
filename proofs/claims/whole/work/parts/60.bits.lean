/-! Bits: the end. -/
theorem dv {k n : Nat} (h : n < 256 ^ (k + 1)) : n / 256 < 256 ^ k := by
  rw [Nat.pow_succ] at h
  omega
theorem i32_low {w : Int64} {P : Nat} (h : tn w % 4294967296 % 128 = P) (hP : P < 128) : w.toInt32 &&& 127 = nI P := by
  apply Int32.toBitVec_inj.mp
  apply BitVec.eq_of_toNat_eq
  rw [Int32.toBitVec_and, BitVec.toNat_and]
  have e1 : w.toInt32.toBitVec.toNat = tn w % 4294967296 := by
    first
      | (rw [Int64.toBitVec_toInt32, BitVec.signExtend_eq_setWidth_of_le _ (by decide), BitVec.toNat_setWidth])
      | (rw [Int64.toBitVec_toInt32, BitVec.toNat_setWidth])
  have e2 : (127 : Int32).toBitVec.toNat = 2 ^ 7 - 1 := by decide +kernel
  have e3 : (nI P).toBitVec.toNat = P % 4294967296 := rfl
  rw [e1, e2, e3, Nat.and_two_pow_sub_one_eq_mod]
  show tn w % 4294967296 % 128 = _
  rw [h, Nat.mod_eq_of_lt (by omega)]
theorem tn_i4 {w : Int64} {c : Nat} (hc : c < 36) (h : tn w + tn w / 2 ^ c < 18446744073709551616) : tn (i4 (nI c) w) = tn w + tn w / 2 ^ c := by
  unfold i4
  rw [tn_add (by rw [xlu_nat hc]; exact h), xlu_nat hc]
theorem bits_all : xBits := by
  intro x
  rw [bitsIn_eq, bc_eq]
  refine congrArg some ?_
  obtain ⟨n, hn⟩ : ∃ n, n = tn x := ⟨_, rfl⟩
  have h8 : n < 256 ^ (7 + 1) := by rw [hn]; exact tn_lt x
  have h7 : n / 256 < 256 ^ (6 + 1) := dv h8
  have h6 : n / 256 / 256 < 256 ^ (5 + 1) := dv h7
  have h5 : n / 256 / 256 / 256 < 256 ^ (4 + 1) := dv h6
  have h4 : n / 256 / 256 / 256 / 256 < 256 ^ (3 + 1) := dv h5
  have h3 : n / 256 / 256 / 256 / 256 / 256 < 256 ^ (2 + 1) := dv h4
  have h2 : n / 256 / 256 / 256 / 256 / 256 / 256 < 256 ^ (1 + 1) := dv h3
  have h1 : n / 256 / 256 / 256 / 256 / 256 / 256 / 256 < 256 ^ (0 + 1) := dv h2
  have z0 : ∀ m, nT 0 m = 0 := fun m => Nat.and_zero _
  have t8 := nT_step h8
  rw [nT_step h7, nT_step h6, nT_step h5, nT_step h4, nT_step h3, nT_step h2, nT_step h1, z0, Nat.mul_zero, Nat.add_zero] at t8
  have w0 : tn (i3 (i2 (i1 x))) = nT 8 n := by
    have a := tn_i2 (i1 x)
    have b := tn_i3 (z := i2 (i1 x)) (by rw [a.1]; exact a.2)
    rw [b.1, a.1, tn_i1, ← hn]
    rfl
  have pc : pcF 64 n = pcF 8 (n % 256) + (pcF 8 (n / 256 % 256) + (pcF 8 (n / 256 / 256 % 256) + (pcF 8 (n / 256 / 256 / 256 % 256) + (pcF 8 (n / 256 / 256 / 256 / 256 % 256) + (pcF 8 (n / 256 / 256 / 256 / 256 / 256 % 256) + (pcF 8 (n / 256 / 256 / 256 / 256 / 256 / 256 % 256) + pcF 8 (n / 256 / 256 / 256 / 256 / 256 / 256 / 256 % 256))))))) := by
    rw [show 64 = 8 + 56 from rfl, pc_step 56, show 56 = 8 + 48 from rfl, pc_step 48, show 48 = 8 + 40 from rfl, pc_step 40, show 40 = 8 + 32 from rfl, pc_step 32, show 32 = 8 + 24 from rfl, pc_step 24, show 24 = 8 + 16 from rfl, pc_step 16, show 16 = 8 + 8 from rfl, pc_step 8]
    have := pc_step 0 (n / 256 / 256 / 256 / 256 / 256 / 256 / 256)
    rw [Nat.add_zero] at this
    have e0 : ∀ m, pcF 0 m = 0 := fun m => rfl
    rw [e0, Nat.add_zero] at this
    rw [this]
  have le8 := pc_le 8
  obtain ⟨s1, s2, s3, s4⟩ := sums (le8 (n % 256)) (le8 (n / 256 % 256)) (le8 (n / 256 / 256 % 256)) (le8 (n / 256 / 256 / 256 % 256)) (le8 (n / 256 / 256 / 256 / 256 % 256)) (le8 (n / 256 / 256 / 256 / 256 / 256 % 256)) (le8 (n / 256 / 256 / 256 / 256 / 256 / 256 % 256)) (le8 (n / 256 / 256 / 256 / 256 / 256 / 256 / 256 % 256)) (nT 8 n) t8 _ _ _ rfl rfl rfl
  have e4 : tn (i4 8 (i3 (i2 (i1 x)))) = nT 8 n + nT 8 n / 256 := by
    have := tn_i4 (w := i3 (i2 (i1 x))) (c := 8) (by decide) (by rw [w0]; exact Nat.lt_trans s2 (by decide))
    rw [w0] at this
    exact this
  have e5 := tn_i4 (w := i4 8 (i3 (i2 (i1 x)))) (c := 16) (by decide) (by rw [e4]; exact Nat.lt_trans s3 (by decide))
  rw [e4] at e5
  have e6 := tn_i4 (w := i4 (nI 16) (i4 8 (i3 (i2 (i1 x))))) (c := 32) (by decide) (by rw [e5]; exact Nat.lt_trans s4 (by decide))
  rw [e5] at e6
  show nI (pcF 64 (tn x)) = _
  rw [← hn, pc]
  symm
  refine i32_low ?_ ?_
  · show tn (i4 (nI 32) (i4 (nI 16) (i4 8 (i3 (i2 (i1 x)))))) % 4294967296 % 128 = _
    rw [e6]
    exact s1
  · rw [← pc]
    exact Nat.lt_of_le_of_lt (pc_le 64 n) (by decide)
