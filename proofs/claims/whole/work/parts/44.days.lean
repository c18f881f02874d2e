/-! A day of a cart, in class and reference: two memories. -/
def xCt (o : Nat) (σ μ : xS2) : Prop := ∃ c s d : Nat, c < 36 ∧ s ≤ 99 ∧ d ≤ 9 ∧ σ.1 o 0 = nI c ∧ σ.1 o 1 = nI s ∧ σ.1 o 2 = nI d ∧ μ.1 43 8 = nI c ∧ μ.1 43 9 = nI s ∧ μ.1 43 10 = nI d ∧ σ.2 o 3 = μ.2 43 11
/-- the plain, in two memories -/
def xPl (σ μ : xS2) : Prop := ∀ w a, w < 6 → a < xMy w → μ.1 (xMo w a).1 (xMo w a).2 = σ.1 2 (xBg w + a) ∧ xRg (σ.1 2 (xBg w + a)) (xLo w) (xHi w)
theorem xPl_of {σ : xS2} (h : xIP σ) : xPl σ σ := fun _ _ hw ha => xIP_at h hw ha
def xStoT (s u d : Int32) (hol : Bool) : Int32 := xmin 99 (xmax 0 ((s + xmax 0 (u - d / 2)) - (if hol then 2 else 4)))
def xD12 (d t : Int32) : Int32 := if xrm t 3 = 0 then xmin 9 (d + 1) else d
def xDuT (d t v : Int32) (hol : Bool) : Int32 := if v < 7 then xD12 d t else if hol then xD12 d t else 0
theorem i_nlt {a b : Int32} (h : ¬ a < b) : b ≤ a := by
  rw [Int32.lt_iff_toInt_lt] at h
  rw [Int32.le_iff_toInt_le]; omega
theorem i_nle {a b : Int32} (h : ¬ a ≤ b) : b < a := by
  rw [Int32.le_iff_toInt_le] at h
  rw [Int32.lt_iff_toInt_lt]; omega
theorem i_le_nlt {a b : Int32} (h : a ≤ b) : ¬ b < a := by
  rw [Int32.le_iff_toInt_le] at h
  rw [Int32.lt_iff_toInt_lt]; omega
theorem i_lt_nle {a b : Int32} (h : a < b) : ¬ b ≤ a := by
  rw [Int32.lt_iff_toInt_lt] at h
  rw [Int32.le_iff_toInt_le]; omega
theorem i_anti {a b : Int32} (h : a ≤ b) (h' : b ≤ a) : a = b := by
  apply Int32.toInt_inj.mp
  rw [Int32.le_iff_toInt_le] at h h'
  omega
theorem clamp_eq (x : Int32) : (if 0 ≤ x then (if x ≤ 99 then x else 99) else 0) = xmin 99 (xmax 0 x) := by
  unfold xmin xmax
  by_cases h : 0 < x
  · rw [if_pos h, if_pos (by rw [Int32.lt_iff_toInt_lt] at h; rw [Int32.le_iff_toInt_le]; omega)]
    by_cases q : x < 99
    · rw [if_pos q, if_pos (by rw [Int32.lt_iff_toInt_lt] at q; rw [Int32.le_iff_toInt_le]; omega)]
    · rw [if_neg q]
      by_cases q2 : x ≤ 99
      · rw [if_pos q2]; exact i_anti q2 (i_nlt q)
      · rw [if_neg q2]
  · rw [if_neg h, if_pos (show (0 : Int32) < 99 by decide)]
    by_cases q : 0 ≤ x
    · have : x = 0 := i_anti (i_nlt h) q
      subst this; rfl
    · rw [if_neg q]
theorem gain_eq (x : Int32) : xmax 0 x = if x ≤ 0 then 0 else x := by
  unfold xmax
  by_cases h : x ≤ 0
  · rw [if_pos h, if_neg (i_le_nlt h)]
  · rw [if_neg h, if_pos (i_nle h)]
theorem X9_storeThen_eq (s u d : Int32) (hol : Bool) : J_X9_storeThen s u d hol = xStoT s u d hol := by
  unfold J_X9_storeThen J_X9_storeThen_19 J_X9_storeThen_29 xStoT
  simp only [clamp_eq, gain_eq]
  by_cases h : u - d / 2 ≤ 0
  · rw [if_pos h, if_pos h]
    cases hol <;> rfl
  · rw [if_neg h, if_neg h]
    cases hol <;> rfl
theorem d12_eq : ∀ d, d < 10 → (if (9 : Int32) ≤ nI d then nI d else nI d + 1) = xmin 9 (nI d + 1) := by decide +kernel
theorem X9_dustThen_eq {d : Nat} (t v : Int32) (hol : Bool) (hd : d ≤ 9) : J_X9_dustThen (nI d) t v hol = xDuT (nI d) t v hol := by
  unfold J_X9_dustThen J_X9_dustThen_12 xDuT xD12
  rw [d12_eq d (by omega)]
  by_cases h : v < 7
  · rw [if_pos h, if_pos h]
  · rw [if_neg h, if_neg h]
    cases hol <;> rfl
theorem xStoT_rg (s u d : Int32) (hol : Bool) : ∃ n : Nat, n ≤ 99 ∧ xStoT s u d hol = nI n := by
  unfold xStoT
  rw [← clamp_eq]
  obtain ⟨x, hx⟩ : ∃ x, x = s + xmax 0 (u - d / 2) - (if hol = true then 2 else 4) := ⟨_, rfl⟩
  rw [← hx]
  by_cases h : 0 ≤ x
  · rw [if_pos h]
    by_cases q : x ≤ 99
    · rw [if_pos q]
      rw [Int32.le_iff_toInt_le, show (0 : Int32).toInt = 0 from rfl] at h
      rw [Int32.le_iff_toInt_le, show (99 : Int32).toInt = 99 from rfl] at q
      obtain ⟨n, hn, e, -⟩ := i_nat (i := x) (l := 99) h q
      exact ⟨n, hn, e⟩
    · rw [if_neg q]; exact ⟨99, Nat.le_refl _, rfl⟩
  · rw [if_neg h]; exact ⟨0, by omega, rfl⟩
theorem d12_rg : ∀ d, d < 10 → ∃ n, n < 10 ∧ xmin 9 (nI d + 1) = nI n := by decide +kernel
theorem xDuT_rg {d : Nat} (t v : Int32) (hol : Bool) (hd : d ≤ 9) : ∃ n : Nat, n ≤ 9 ∧ xDuT (nI d) t v hol = nI n := by
  have h12 : ∃ n : Nat, n ≤ 9 ∧ xD12 (nI d) t = nI n := by
    unfold xD12
    split
    · obtain ⟨n, hn, e⟩ := d12_rg d (by omega)
      exact ⟨n, by omega, e⟩
    · exact ⟨d, hd, rfl⟩
  unfold xDuT
  split
  · exact h12
  · split
    · exact h12
    · exact ⟨0, by omega, rfl⟩
/-- the day's end, in the class -/
theorem live31 {o c : Nat} {t u v : Int32} {b : Bool} {σ : xS2} (hc : c < 36) (h0 : σ.1 o 0 = nI c) : ∃ τ, J_X0_liveUnder_31 o t u v b σ = some (b, τ) ∧ τ.1 o 0 = nI c ∧ τ.1 o 1 = xStoT (σ.1 o 1) u (σ.1 o 2) (xHollow (σ.1 2) c) ∧ τ.1 o 2 = xDuT (σ.1 o 2) t v (xHollow (σ.1 2) c) ∧ τ.2 o 3 = σ.2 o 3 := by
  unfold J_X0_liveUnder_31
  rw [h0, X3_isHollow hc, Option.bind_some]
  unfold J_X0_liveUnder_80 J_X0_liveUnder_122 xDuT xD12 xStoT
  by_cases q1 : xrm t 3 = 0
  · by_cases q2 : v < 7
    · cases xHollow (σ.1 2) c <;> simp only [q1, q2, xb_f, xb_t, if_true, if_false] <;> exact ⟨_, rfl, by simp [yI_1, h0], by simp [yI_1], by simp [yI_1], rfl⟩
    · cases xHollow (σ.1 2) c <;> simp only [q1, q2, xb_f, xb_t, if_true, if_false] <;> exact ⟨_, rfl, by simp [yI_1, h0], by simp [yI_1], by simp [yI_1], rfl⟩
  · by_cases q2 : v < 7
    · cases xHollow (σ.1 2) c <;> simp only [q1, q2, xb_f, xb_t, if_true, if_false] <;> exact ⟨_, rfl, by simp [yI_1, h0], by simp [yI_1], by simp [yI_1], rfl⟩
    · cases xHollow (σ.1 2) c <;> simp only [q1, q2, xb_f, xb_t, if_true, if_false] <;> exact ⟨_, rfl, by simp [yI_1, h0], by simp [yI_1], by simp [yI_1], rfl⟩
theorem sh_amt : ∀ c, c < 36 → ((nI c).toInt64 &&& 63).toBitVec.smod 64 = BitVec.ofNat 64 c ∧ ((nI c).toInt64.toUInt64 &&& Int64.toUInt64 63).toBitVec % 64 = BitVec.ofNat 64 c := by decide +kernel
theorem and1 (z : Int64) : (z &&& 1) = if z.toBitVec.getLsbD 0 = true then 1 else 0 := by
  apply Int64.toBitVec_inj.mp
  rw [Int64.toBitVec_and]
  show z.toBitVec &&& 1#64 = _
  rw [BitVec.and_one_eq_setWidth_ofBool_getLsbD]
  cases z.toBitVec.getLsbD 0 <;> rfl
theorem xlr_0 {x : Int64} {c : Nat} (hc : c < 36) : (xlr x (nI c)).toBitVec.getLsbD 0 = x.toBitVec.getLsbD c := by
  unfold xlr
  rw [Int64.toBitVec_shiftRight, (sh_amt c hc).1]
  show (x.toBitVec.sshiftRight (BitVec.ofNat 64 c).toNat).getLsbD 0 = _
  rw [BitVec.toNat_ofNat, Nat.mod_eq_of_lt (by omega), BitVec.getLsbD_sshiftRight, Nat.add_zero, if_pos (by omega)]
  rfl
theorem xlu_0 {x : Int64} {c : Nat} (hc : c < 36) : (xlu x (nI c)).toBitVec.getLsbD 0 = x.toBitVec.getLsbD c := by
  unfold xlu
  show (x.toUInt64 >>> ((nI c).toInt64.toUInt64 &&& Int64.toUInt64 63)).toBitVec.getLsbD 0 = _
  rw [UInt64.toBitVec_shiftRight, (sh_amt c hc).2]
  show (x.toBitVec >>> (BitVec.ofNat 64 c).toNat).getLsbD 0 = _
  rw [BitVec.toNat_ofNat, Nat.mod_eq_of_lt (by omega), BitVec.getLsbD_ushiftRight, Nat.add_zero]
theorem X0_looked {o c : Nat} {σ : xS2} (hc : c < 36) : J_X0_hasLookedAt o (nI c) σ = (σ.2 o 3).toBitVec.getLsbD c := by
  unfold J_X0_hasLookedAt
  rw [and1, xlu_0 hc]
  cases (σ.2 o 3).toBitVec.getLsbD c <;> rfl
theorem X9_looked {c : Nat} {σ : xS2} (hc : c < 36) : J_X9_isLooked (nI c) σ = (σ.2 43 11).toBitVec.getLsbD c := by
  unfold J_X9_isLooked
  rw [and1, xlr_0 hc]
  cases (σ.2 43 11).toBitVec.getLsbD c <;> rfl
